def lb2_LP_on_11 (c1 : Nat) (a2 : Int) (c3 : Nat) (go : Int × LZ → Option ((LZ) × Nat × Nat)) (a4 : Int) (S : St) (L : List PC) : Option ((LZ) × Nat × Nat) := if isK L c1 13 = true then (bnO (gn_AL_size c1 S L) fun p6 => if p6 ≤ a4 then (some ((S, L), 0, 0)) else (if isK L c1 13 = true then (bnO (gn_AL_get c1 a4 S L) fun p8 => rfB p8 fun r10 => if isK L r10 11 = true then (bnO (gfI L r10 11 5) fun v12 => if v12 = a2 then (bnO (gn_Integer_valueOf a4 S L) fun p14 => adC p14.2.1 p14.2.2 (if isK p14.1.2.2 c3 13 = true then (bnO (gn_AL_add c3 p14.1.1 p14.1.2.1 p14.1.2.2) fun p15 => adC p15.2.1 p15.2.2 (nm (wr (a4 + 1)) fun v17 => go (v17, (p15.1.2.1, p15.1.2.2)))) else none)) else (nm (wr (a4 + 1)) fun v13 => go (v13, (S, L)))) else none) else none)) else none
def lo2_LP_on_11 (c1 : Nat) (a2 : Int) (c3 : Nat) : Nat → Int × LZ → Option ((LZ) × Nat × Nat) := lp fun go p => lb2_LP_on_11 c1 a2 c3 go p.1 p.2.1 p.2.2
theorem tl2_LP_on_11 {sc : SC} {c1 : Nat} {a2 : Int} (ha2 : inR a2) {c3 : Nat} {K : Option Value → List PC → Prop} {mc ms kt nt : Nat} (hkt : kt ≤ mc) (hnt : nt ≤ ms) : ∀ (N : Nat) (a : Int × LZ) (q : (LZ) × Nat × Nat), lo2_LP_on_11 c1 a2 c3 N a = some q → ∀ k n, Bd k n kt nt q → inR a.1 → (GX sc M_LP_on mc ms 52 [(3, .ref c3)] [] (wz q.1) kt nt K) → GX sc M_LP_on mc ms 11 [(1, .ref c1), (2, V a2), (3, .ref c3), (4, V a.1)] [] (wz a.2) k n K := by
  refine lp_ind2 (P := fun (a : Int × LZ) (q : (LZ) × Nat × Nat) => ∀ k n, Bd k n kt nt q → inR a.1 → (GX sc M_LP_on mc ms 52 [(3, .ref c3)] [] (wz q.1) kt nt K) → GX sc M_LP_on mc ms 11 [(1, .ref c1), (2, V a2), (3, .ref c3), (4, V a.1)] [] (wz a.2) k n K) (fun go ih a q h => ?_)
  obtain ⟨a4, ⟨S, L⟩⟩ := a
  intro k n hb ha4 hx
  show GX sc M_LP_on mc ms 11 [(1, .ref c1), (2, V a2), (3, .ref c3), (4, V a4)] [] (wz (S, L)) k n K
  replace h : lb2_LP_on_11 c1 a2 c3 go a4 S L = some q := h
  unfold lb2_LP_on_11 at h
  refine x_iload (pc := 11) (j := 3) (dK D_LP_on 6 rfl) rfl ?_
  refine x_aloadn (pc := 13) (i0 := 1) (j := 0) (dK D_LP_on 7 rfl) rfl rfl ?_
  refine gdE h ?_
  clear h
  intro hk7 h
  refine bnE h ?_
  clear h
  intro p6 e_p6 h
  refine x_callX (pc := 14) (As := []) (rest := [V a4]) (mc' := 0) (ms' := 0) (dK D_LP_on 8 rfl) Q_LP_83 sx_AL_size (fitK rfl) (isK_at (Z := (S, L)) (ci := 13) hk7) rfl (leK rfl) (Nat.le_trans (bdk hb) hkt) (Nat.le_trans (bdn hb) hnt) (tg_AL_size  e_p6) (kxI' (fun h_p6 => ?_))
  refine wx_icmp_ge (pc := 17) (t := 52) (dK D_LP_on 9 rfl) rfl ha4 h_p6 (fun hc19 => ?_) (fun hc19 => ?_)
  · replace h := ifP h hc19
    obtain rfl := Option.some.inj h
    refine x_weak (ls' := [(3, .ref c3)]) (sbc 2 rfl sbn) ?_
    refine x_room (bdk hb) (bdn hb) ?_
    exact hx 
  · replace h := ifN h hc19
    refine x_aloadn (pc := 20) (i0 := 1) (j := 0) (dK D_LP_on 10 rfl) rfl rfl ?_
    refine x_iload (pc := 21) (j := 3) (dK D_LP_on 11 rfl) rfl ?_
    refine gdE h ?_
    clear h
    intro hk9 h
    refine bnE h ?_
    clear h
    intro p8 e_p8 h
    refine x_callX (pc := 23) (As := [V a4]) (rest := []) (mc' := 0) (ms' := 0) (dK D_LP_on 12 rfl) Q_LP_87 sx_AL_get (fitK rfl) (isK_at (Z := (S, L)) (ci := 13) hk9) rfl (leK rfl) (Nat.le_trans (bdk hb) hkt) (Nat.le_trans (bdn hb) hnt) (tg_AL_get ha4 e_p8) (kxR (fun h_p8 => ?_))
    refine rfE h ?_
    clear h
    intro r10 e_r10 h
    rw [e_r10]
    refine gdE h ?_
    clear h
    intro hk11 h
    refine x_cast (pc := 26) (dK D_LP_on 13 rfl) q_861 (isK_at (Z := (S, L)) (ci := 11) hk11) ?_
    refine bnE h ?_
    clear h
    intro v12 e_v12 h
    refine wx_getI (pc := 29) (ci := 11) (f := 5) e_v12 (dK D_LP_on 14 rfl) q_888 (ltK rfl) (ltK rfl) ?_
    refine x_iloadn (pc := 32) (i0 := 2) (j := 1) (dK D_LP_on 15 rfl) rfl rfl ?_
    refine wx_icmp_ne (pc := 33) (t := 46) (dK D_LP_on 16 rfl) rfl (vI_at e_v12).2 ha2 (fun hc18 => ?_) (fun hc18 => ?_)
    · replace h := ifN h hc18
      refine nmE h ?_
      clear h
      intro v13 e_v13 h
      refine wx_iinc (pc := 46) (j := 3) (a := a4) (z := 1) (ls2 := [(4, V v13), (1, .ref c1), (2, V a2), (3, .ref c3)]) (dK D_LP_on 22 rfl) rfl e_v13 (ltK rfl) rfl ?_
      refine x_goto (pc := 49) (tgt := 11) (dK D_LP_on 23 rfl) rfl ?_
      refine x_weak (ls' := [(1, .ref c1), (2, V a2), (3, .ref c3), (4, V v13)]) (sbc 1 rfl (sbc 2 rfl (sbc 3 rfl (sbc 0 rfl sbn)))) ?_
      replace h := ih _ _ h
      exact h _ _ hb (Vn_in e_v13) hx
    · replace h := ifP h hc18
      refine x_aloadn (pc := 36) (i0 := 3) (j := 2) (dK D_LP_on 17 rfl) rfl rfl ?_
      refine x_iload (pc := 37) (j := 3) (dK D_LP_on 18 rfl) rfl ?_
      refine bnE h ?_
      clear h
      intro p14 e_p14 h
      obtain ⟨yp14, h9, e9⟩ := adE2 h
      clear h
      subst e9
      have h := h9
      clear h9
      have hk1 := Nat.le_trans (bd1 hb) hkt
      have hn1 := Nat.le_trans (bd2 hb) hnt
      replace hb := bdA hb
      refine x_callS (pc := 39) (As := [V a4]) (rest := [.ref c3]) (mc' := p14.2.1) (ms' := p14.2.2) (dK D_LP_on 19 rfl) Q_LP_96 (fitK rfl) rfl (leK rfl) hk1 hn1 (tg_Integer_valueOf ha4 e_p14) (kxR (fun h_p14 => ?_))
      refine gdE h ?_
      clear h
      intro hk16 h
      refine bnE h ?_
      clear h
      intro p15 e_p15 h
      obtain ⟨yp15, h9, e9⟩ := adE2 h
      clear h
      subst e9
      have h := h9
      clear h9
      have hk1 := Nat.le_trans (bd1 hb) hkt
      have hn1 := Nat.le_trans (bd2 hb) hnt
      replace hb := bdA hb
      refine x_callX (pc := 42) (As := [p14.1.1]) (rest := []) (mc' := p15.2.1) (ms' := p15.2.2) (dK D_LP_on 20 rfl) Q_LP_69 sx_AL_add (fitK rfl) (isK_at (Z := (p14.1.2.1, p14.1.2.2)) (ci := 13) hk16) rfl (leK rfl) hk1 hn1 (tg_AL_add h_p14 e_p15) (kxB' ?_)
      refine x_pop (pc := 45) (dK D_LP_on 21 rfl) rfl ?_
      refine nmE h ?_
      clear h
      intro v17 e_v17 h
      refine wx_iinc (pc := 46) (j := 3) (a := a4) (z := 1) (ls2 := [(4, V v17), (1, .ref c1), (2, V a2), (3, .ref c3)]) (dK D_LP_on 22 rfl) rfl e_v17 (ltK rfl) rfl ?_
      refine x_goto (pc := 49) (tgt := 11) (dK D_LP_on 23 rfl) rfl ?_
      refine x_weak (ls' := [(1, .ref c1), (2, V a2), (3, .ref c3), (4, V v17)]) (sbc 1 rfl (sbc 2 rfl (sbc 3 rfl (sbc 0 rfl sbn)))) ?_
      replace h := ih _ _ h
      exact h _ _ hb (Vn_in e_v17) hx
def gn_LP_on (c0 : Nat) (c1 : Nat) (a2 : Int) (S : St) (L : List PC) : Option ((Value × LZ) × Nat × Nat) := if L.length < 900000000 then adC 1 3 (nw L (13, dfl 13) fun r2 L3 => bnO (gn_AL_init r2 S L3) fun p5 => adC p5.2.1 p5.2.2 (bnO (lo2_LP_on_11 c1 a2 r2 FU (0, (p5.1.1, p5.1.2))) fun p20 => adC p20.2.1 p20.2.2 (some (((.ref r2), (p20.1.1, p20.1.2)), 0, 0)))) else none
theorem te_LP_on {sc : SC} {c0 : Nat} {c1 : Nat} {a2 : Int} (ha2 : inR a2) {S : St} {L : List PC} {q : (Value × LZ) × Nat × Nat} (h : gn_LP_on c0 c1 a2 S L = some q) {mc ms k n : Nat} (hb : Bd k n mc ms q) : GX sc M_LP_on mc ms 0 [(0, .ref c0), (1, .ref c1), (2, V a2)] [] (wz (S, L)) k n (KXR q.1.1 q.1.2) := by
  unfold gn_LP_on at h
  refine gdE h ?_
  clear h
  intro hl1 h
  obtain ⟨y4, h9, e9⟩ := adE2 h
  clear h
  subst e9
  have h := h9
  clear h9
  refine nwE h ?_
  clear h
  intro r2 L3 e_r2 e_L3 h
  have hk1 := bd1 hb
  have hn1 := bd2 hb
  replace hb := bdA hb
  refine wn_new (Z := (S, L)) (pc := 0) (ci := 13) (N := 3) e_r2 e_L3 hl1 rfl (dK D_LP_on 0 rfl) (ltK rfl) q_738 q_739 q_17 hk1 hn1 ?_
  refine x_dup (pc := 3) (dK D_LP_on 1 rfl) rfl ?_
  refine bnE h ?_
  clear h
  intro p5 e_p5 h
  obtain ⟨yp5, h9, e9⟩ := adE2 h
  clear h
  subst e9
  have h := h9
  clear h9
  have hk1 := bd1 hb
  have hn1 := bd2 hb
  replace hb := bdA hb
  refine x_callI (pc := 4) (As := []) (rest := [.ref r2]) (mc' := p5.2.1) (ms' := p5.2.2) (dK D_LP_on 2 rfl) Q_LP_20 (fitK rfl) rfl (leK rfl) hk1 hn1 (tg_AL_init  e_p5) (kxU ?_)
  refine x_astoren (pc := 7) (i0 := 3) (ls2 := [(3, .ref r2), (0, .ref c0), (1, .ref c1), (2, V a2)]) (dK D_LP_on 3 rfl) rfl (ltK rfl) rfl ?_
  refine wx_iconst (pc := 8) (dK D_LP_on 4 rfl) ?_
  refine x_istore (pc := 9) (ls2 := [(4, V 0), (3, .ref r2), (0, .ref c0), (1, .ref c1), (2, V a2)]) (dK D_LP_on 5 rfl) (ltK rfl) rfl ?_
  refine bnE h ?_
  clear h
  intro p20 e_p20 h
  obtain ⟨yp20, h9, e9⟩ := adE2 h
  clear h
  subst e9
  have h := h9
  clear h9
  have hk1 := bd1 hb
  have hn1 := bd2 hb
  replace hb := bdA hb
  refine x_weak (ls' := [(1, .ref c1), (2, V a2), (3, .ref r2), (4, V 0)]) (sbc 3 rfl (sbc 4 rfl (sbc 1 rfl (sbc 0 rfl sbn)))) ?_
  refine tl2_LP_on_11 ha2 hk1 hn1 FU _ _ e_p20 _ _ ⟨Nat.le_refl _, Nat.le_refl _⟩ (inRk rfl) ?_
  refine x_aloadn (pc := 52) (i0 := 3) (j := 0) (dK D_LP_on 24 rfl) rfl rfl ?_
  obtain rfl := Option.some.inj h
  exact wk_aret (pc := 53) (.inr ⟨_, rfl⟩) (dK D_LP_on 25 rfl) rfl (by first | exact .inl ⟨_, rfl⟩ | exact .inr ⟨_, rfl⟩) (bdk hb) (bdn hb) ⟨rfl, (.inr ⟨_, rfl⟩), rfl⟩
theorem tg_LP_on {sc : SC} {c0 : Nat} {c1 : Nat} {a2 : Int} (ha2 : inR a2) {S : St} {L : List PC} {q : (Value × LZ) × Nat × Nat} (h : gn_LP_on c0 c1 a2 S L = some q) : EvX sc M_LP_on [.ref c0, .ref c1, V a2] (wz (S, L)) q.2.1 q.2.2 (KXR q.1.1 q.1.2) := EvX.of pn2_LP rfl (leK rfl) (te_LP_on ha2 h ⟨Nat.le_of_eq (Nat.zero_add _), Nat.le_of_eq (Nat.zero_add _)⟩)
def lb2_LP_story_2 (c0 : Nat) (a1 : Int) (S : St) (L : List PC) (go : Int → Option ((Int) ⊕ (Unit))) (a2 : Int) : Option ((Int) ⊕ (Unit)) := bnO (gfV L c0 12 5) fun v1 => rfB v1 fun r2 => if isK L r2 13 = true then (bnO (gn_AL_size r2 S L) fun p3 => if p3 ≤ a2 then (some (.inr ())) else (bnO (gfV L c0 12 5) fun v5 => rfB v5 fun r6 => if isK L r6 13 = true then (bnO (gn_AL_get r6 a2 S L) fun p7 => rfB p7 fun r9 => if isK L r9 11 = true then (bnO (gfI L r9 11 5) fun v11 => if v11 ≤ 0 then (nm (wr (a2 + 1)) fun v12 => go v12) else (bnO (gfV L c0 12 5) fun v13 => rfB v13 fun r14 => if isK L r14 13 = true then (bnO (gn_AL_get r14 a2 S L) fun p15 => rfB p15 fun r17 => if isK L r17 11 = true then (bnO (gfI L r17 11 5) fun v19 => if a1 < v19 then (nm (wr (a2 + 1)) fun v20 => go v20) else (bnO (gfV L c0 12 5) fun v21 => rfB v21 fun r22 => if isK L r22 13 = true then (bnO (gn_AL_get r22 a2 S L) fun p23 => rfB p23 fun r25 => if isK L r25 11 = true then (bnO (gfI L r25 11 5) fun v27 => bnO (gfV L c0 12 5) fun v28 => rfB v28 fun r29 => if isK L r29 13 = true then (bnO (gn_AL_get r29 a2 S L) fun p30 => rfB p30 fun r32 => if isK L r32 11 = true then (bnO (gfI L r32 11 0) fun v34 => nm (wr (v27 + v34)) fun v35 => if v35 ≤ a1 then (nm (wr (a2 + 1)) fun v36 => go v36) else (some (.inl a2))) else none) else none) else none) else none)) else none) else none)) else none) else none)) else none
def lo2_LP_story_2 (c0 : Nat) (a1 : Int) (S : St) (L : List PC) : Nat → Int → Option ((Int) ⊕ (Unit)) := lp fun go p => lb2_LP_story_2 c0 a1 S L go p
theorem tl2_LP_story_2 {sc : SC} {c0 : Nat} {a1 : Int} (ha1 : inR a1) {K : Option Value → List PC → Prop} {S : St} {L : List PC} {mc ms k n : Nat} (hk0 : k ≤ mc) (hn0 : n ≤ ms) : ∀ (N : Nat) (a : Int) (q : (Int) ⊕ (Unit)), lo2_LP_story_2 c0 a1 S L N a = some q → inR a → (∀ e, q = .inr e → GX sc M_LP_story mc ms 89 [] [] (wz (S, L)) k n K) → (∀ r, q = .inl r → inR r → K (some (V r)) (wz (S, L))) → GX sc M_LP_story mc ms 2 [(0, .ref c0), (1, V a1), (2, V a)] [] (wz (S, L)) k n K := by
  refine lp_ind2 (P := fun (a : Int) (q : (Int) ⊕ (Unit)) => inR a → (∀ e, q = .inr e → GX sc M_LP_story mc ms 89 [] [] (wz (S, L)) k n K) → (∀ r, q = .inl r → inR r → K (some (V r)) (wz (S, L))) → GX sc M_LP_story mc ms 2 [(0, .ref c0), (1, V a1), (2, V a)] [] (wz (S, L)) k n K) (fun go ih a q h => ?_)
  revert h; generalize a = a2; intro h
  intro ha2 hx hr
  show GX sc M_LP_story mc ms 2 [(0, .ref c0), (1, V a1), (2, V a2)] [] (wz (S, L)) k n K
  replace h : lb2_LP_story_2 c0 a1 S L go a2 = some q := h
  unfold lb2_LP_story_2 at h
  refine x_iloadn (pc := 2) (i0 := 2) (j := 2) (dK D_LP_story 2 rfl) rfl rfl ?_
  refine x_aloadn (pc := 3) (i0 := 0) (j := 0) (dK D_LP_story 3 rfl) rfl rfl ?_
  refine bnE h ?_
  clear h
  intro v1 e_v1 h
  refine wx_getV (pc := 4) (ci := 12) (f := 5) e_v1 (dK D_LP_story 4 rfl) q_777 (ltK rfl) (ltK rfl) (fun hv1 => ?_)
  refine rfE h ?_
  clear h
  intro r2 e_r2 h
  rw [e_r2]
  refine gdE h ?_
  clear h
  intro hk4 h
  refine bnE h ?_
  clear h
  intro p3 e_p3 h
  refine x_callX (pc := 7) (As := []) (rest := [V a2]) (mc' := 0) (ms' := 0) (dK D_LP_story 5 rfl) Q_LP_83 sx_AL_size (fitK rfl) (isK_at (Z := (S, L)) (ci := 13) hk4) rfl (leK rfl) hk0 hn0 (tg_AL_size  e_p3) (kxI' (fun h_p3 => ?_))
  refine wx_icmp_ge (pc := 10) (t := 89) (dK D_LP_story 6 rfl) rfl ha2 h_p3 (fun hc40 => ?_) (fun hc40 => ?_)
  · replace h := ifP h hc40
    obtain rfl := Option.some.inj h
    refine x_weak (ls' := []) sbn ?_
    exact hx () rfl
  · replace h := ifN h hc40
    refine x_aloadn (pc := 13) (i0 := 0) (j := 0) (dK D_LP_story 7 rfl) rfl rfl ?_
    refine bnE h ?_
    clear h
    intro v5 e_v5 h
    refine wx_getV (pc := 14) (ci := 12) (f := 5) e_v5 (dK D_LP_story 8 rfl) q_777 (ltK rfl) (ltK rfl) (fun hv5 => ?_)
    refine x_iloadn (pc := 17) (i0 := 2) (j := 2) (dK D_LP_story 9 rfl) rfl rfl ?_
    refine rfE h ?_
    clear h
    intro r6 e_r6 h
    rw [e_r6]
    refine gdE h ?_
    clear h
    intro hk8 h
    refine bnE h ?_
    clear h
    intro p7 e_p7 h
    refine x_callX (pc := 18) (As := [V a2]) (rest := []) (mc' := 0) (ms' := 0) (dK D_LP_story 10 rfl) Q_LP_87 sx_AL_get (fitK rfl) (isK_at (Z := (S, L)) (ci := 13) hk8) rfl (leK rfl) hk0 hn0 (tg_AL_get ha2 e_p7) (kxR (fun h_p7 => ?_))
    refine rfE h ?_
    clear h
    intro r9 e_r9 h
    rw [e_r9]
    refine gdE h ?_
    clear h
    intro hk10 h
    refine x_cast (pc := 21) (dK D_LP_story 11 rfl) q_861 (isK_at (Z := (S, L)) (ci := 11) hk10) ?_
    refine bnE h ?_
    clear h
    intro v11 e_v11 h
    refine wx_getI (pc := 24) (ci := 11) (f := 5) e_v11 (dK D_LP_story 12 rfl) q_888 (ltK rfl) (ltK rfl) ?_
    refine wx_if_le (pc := 27) (t := 83) (dK D_LP_story 13 rfl) rfl (vI_at e_v11).2 (fun hc39 => ?_) (fun hc39 => ?_)
    · replace h := ifP h hc39
      refine nmE h ?_
      clear h
      intro v12 e_v12 h
      refine wx_iinc (pc := 83) (j := 2) (a := a2) (z := 1) (ls2 := [(2, V v12), (0, .ref c0), (1, V a1)]) (dK D_LP_story 39 rfl) rfl e_v12 (ltK rfl) rfl ?_
      refine x_goto (pc := 86) (tgt := 2) (dK D_LP_story 40 rfl) rfl ?_
      refine x_weak (ls' := [(0, .ref c0), (1, V a1), (2, V v12)]) (sbc 1 rfl (sbc 2 rfl (sbc 0 rfl sbn))) ?_
      replace h := ih _ _ h
      exact h (Vn_in e_v12) hx hr
    · replace h := ifN h hc39
      refine x_iloadn (pc := 30) (i0 := 1) (j := 1) (dK D_LP_story 14 rfl) rfl rfl ?_
      refine x_aloadn (pc := 31) (i0 := 0) (j := 0) (dK D_LP_story 15 rfl) rfl rfl ?_
      refine bnE h ?_
      clear h
      intro v13 e_v13 h
      refine wx_getV (pc := 32) (ci := 12) (f := 5) e_v13 (dK D_LP_story 16 rfl) q_777 (ltK rfl) (ltK rfl) (fun hv13 => ?_)
      refine x_iloadn (pc := 35) (i0 := 2) (j := 2) (dK D_LP_story 17 rfl) rfl rfl ?_
      refine rfE h ?_
      clear h
      intro r14 e_r14 h
      rw [e_r14]
      refine gdE h ?_
      clear h
      intro hk16 h
      refine bnE h ?_
      clear h
      intro p15 e_p15 h
      refine x_callX (pc := 36) (As := [V a2]) (rest := [V a1]) (mc' := 0) (ms' := 0) (dK D_LP_story 18 rfl) Q_LP_87 sx_AL_get (fitK rfl) (isK_at (Z := (S, L)) (ci := 13) hk16) rfl (leK rfl) hk0 hn0 (tg_AL_get ha2 e_p15) (kxR (fun h_p15 => ?_))
      refine rfE h ?_
      clear h
      intro r17 e_r17 h
      rw [e_r17]
      refine gdE h ?_
      clear h
      intro hk18 h
      refine x_cast (pc := 39) (dK D_LP_story 19 rfl) q_861 (isK_at (Z := (S, L)) (ci := 11) hk18) ?_
      refine bnE h ?_
      clear h
      intro v19 e_v19 h
      refine wx_getI (pc := 42) (ci := 11) (f := 5) e_v19 (dK D_LP_story 20 rfl) q_888 (ltK rfl) (ltK rfl) ?_
      refine wx_icmp_lt (pc := 45) (t := 83) (dK D_LP_story 21 rfl) rfl ha1 (vI_at e_v19).2 (fun hc38 => ?_) (fun hc38 => ?_)
      · replace h := ifP h hc38
        refine nmE h ?_
        clear h
        intro v20 e_v20 h
        refine wx_iinc (pc := 83) (j := 2) (a := a2) (z := 1) (ls2 := [(2, V v20), (0, .ref c0), (1, V a1)]) (dK D_LP_story 39 rfl) rfl e_v20 (ltK rfl) rfl ?_
        refine x_goto (pc := 86) (tgt := 2) (dK D_LP_story 40 rfl) rfl ?_
        refine x_weak (ls' := [(0, .ref c0), (1, V a1), (2, V v20)]) (sbc 1 rfl (sbc 2 rfl (sbc 0 rfl sbn))) ?_
        replace h := ih _ _ h
        exact h (Vn_in e_v20) hx hr
      · replace h := ifN h hc38
        refine x_iloadn (pc := 48) (i0 := 1) (j := 1) (dK D_LP_story 22 rfl) rfl rfl ?_
        refine x_aloadn (pc := 49) (i0 := 0) (j := 0) (dK D_LP_story 23 rfl) rfl rfl ?_
        refine bnE h ?_
        clear h
        intro v21 e_v21 h
        refine wx_getV (pc := 50) (ci := 12) (f := 5) e_v21 (dK D_LP_story 24 rfl) q_777 (ltK rfl) (ltK rfl) (fun hv21 => ?_)
        refine x_iloadn (pc := 53) (i0 := 2) (j := 2) (dK D_LP_story 25 rfl) rfl rfl ?_
        refine rfE h ?_
        clear h
        intro r22 e_r22 h
        rw [e_r22]
        refine gdE h ?_
        clear h
        intro hk24 h
        refine bnE h ?_
        clear h
        intro p23 e_p23 h
        refine x_callX (pc := 54) (As := [V a2]) (rest := [V a1]) (mc' := 0) (ms' := 0) (dK D_LP_story 26 rfl) Q_LP_87 sx_AL_get (fitK rfl) (isK_at (Z := (S, L)) (ci := 13) hk24) rfl (leK rfl) hk0 hn0 (tg_AL_get ha2 e_p23) (kxR (fun h_p23 => ?_))
        refine rfE h ?_
        clear h
        intro r25 e_r25 h
        rw [e_r25]
        refine gdE h ?_
        clear h
        intro hk26 h
        refine x_cast (pc := 57) (dK D_LP_story 27 rfl) q_861 (isK_at (Z := (S, L)) (ci := 11) hk26) ?_
        refine bnE h ?_
        clear h
        intro v27 e_v27 h
        refine wx_getI (pc := 60) (ci := 11) (f := 5) e_v27 (dK D_LP_story 28 rfl) q_888 (ltK rfl) (ltK rfl) ?_
        refine x_aloadn (pc := 63) (i0 := 0) (j := 0) (dK D_LP_story 29 rfl) rfl rfl ?_
        refine bnE h ?_
        clear h
        intro v28 e_v28 h
        refine wx_getV (pc := 64) (ci := 12) (f := 5) e_v28 (dK D_LP_story 30 rfl) q_777 (ltK rfl) (ltK rfl) (fun hv28 => ?_)
        refine x_iloadn (pc := 67) (i0 := 2) (j := 2) (dK D_LP_story 31 rfl) rfl rfl ?_
        refine rfE h ?_
        clear h
        intro r29 e_r29 h
        rw [e_r29]
        refine gdE h ?_
        clear h
        intro hk31 h
        refine bnE h ?_
        clear h
        intro p30 e_p30 h
        refine x_callX (pc := 68) (As := [V a2]) (rest := [V v27, V a1]) (mc' := 0) (ms' := 0) (dK D_LP_story 32 rfl) Q_LP_87 sx_AL_get (fitK rfl) (isK_at (Z := (S, L)) (ci := 13) hk31) rfl (leK rfl) hk0 hn0 (tg_AL_get ha2 e_p30) (kxR (fun h_p30 => ?_))
        refine rfE h ?_
        clear h
        intro r32 e_r32 h
        rw [e_r32]
        refine gdE h ?_
        clear h
        intro hk33 h
        refine x_cast (pc := 71) (dK D_LP_story 33 rfl) q_861 (isK_at (Z := (S, L)) (ci := 11) hk33) ?_
        refine bnE h ?_
        clear h
        intro v34 e_v34 h
        refine wx_getI (pc := 74) (ci := 11) (f := 0) e_v34 (dK D_LP_story 34 rfl) q_873 (ltK rfl) (ltK rfl) ?_
        refine wx_iadd (pc := 77) (dK D_LP_story 35 rfl) ?_
        refine nmE h ?_
        clear h
        intro v35 e_v35 h
        refine wtop e_v35 ?_
        refine wx_icmp_ge (pc := 78) (t := 83) (dK D_LP_story 36 rfl) rfl ha1 (Vn_in e_v35) (fun hc37 => ?_) (fun hc37 => ?_)
        · replace h := ifP h hc37
          refine nmE h ?_
          clear h
          intro v36 e_v36 h
          refine wx_iinc (pc := 83) (j := 2) (a := a2) (z := 1) (ls2 := [(2, V v36), (0, .ref c0), (1, V a1)]) (dK D_LP_story 39 rfl) rfl e_v36 (ltK rfl) rfl ?_
          refine x_goto (pc := 86) (tgt := 2) (dK D_LP_story 40 rfl) rfl ?_
          refine x_weak (ls' := [(0, .ref c0), (1, V a1), (2, V v36)]) (sbc 1 rfl (sbc 2 rfl (sbc 0 rfl sbn))) ?_
          replace h := ih _ _ h
          exact h (Vn_in e_v36) hx hr
        · replace h := ifN h hc37
          refine x_iloadn (pc := 81) (i0 := 2) (j := 2) (dK D_LP_story 37 rfl) rfl rfl ?_
          obtain rfl := Option.some.inj h
          exact wk_iretI (pc := 82) (dK D_LP_story 38 rfl) rfl hk0 hn0 (hr a2 rfl ha2)
def gn_LP_story (c0 : Nat) (a1 : Int) (S : St) (L : List PC) : Option (Int) := bnS (lo2_LP_story_2 c0 a1 S L FU 0) (fun r42 => some r42) fun e43 => some (-1)
theorem te_LP_story {sc : SC} {c0 : Nat} {a1 : Int} (ha1 : inR a1) {S : St} {L : List PC} {q : Int} (h : gn_LP_story c0 a1 S L = some q) {mc ms k n : Nat} (hk0 : k ≤ mc) (hn0 : n ≤ ms) : GX sc M_LP_story mc ms 0 [(0, .ref c0), (1, V a1)] [] (wz (S, L)) k n (KXI q (S, L)) := by
  unfold gn_LP_story at h
  refine wx_iconst (pc := 0) (dK D_LP_story 0 rfl) ?_
  refine x_istoren (pc := 1) (i0 := 2) (ls2 := [(2, V 0), (0, .ref c0), (1, V a1)]) (dK D_LP_story 1 rfl) rfl (ltK rfl) rfl ?_
  refine bnSE h ?_ ?_
  · clear h
    intro r42 e_p41 h
    refine x_weak (ls' := [(0, .ref c0), (1, V a1), (2, V 0)]) (sbc 1 rfl (sbc 2 rfl (sbc 0 rfl sbn))) ?_
    refine tl2_LP_story_2 ha1 hk0 hn0 FU _ _ e_p41 (inRk rfl) (fun _ g_ => nomatch g_) (fun r_ g_ hin => ?_)
    obtain rfl := Sum.inl.inj g_
    obtain rfl := Option.some.inj h
    exact ⟨rfl, hin, rfl⟩
  · clear h
    intro e43 e_p41 h
    refine x_weak (ls' := [(0, .ref c0), (1, V a1), (2, V 0)]) (sbc 1 rfl (sbc 2 rfl (sbc 0 rfl sbn))) ?_
    refine tl2_LP_story_2 ha1 hk0 hn0 FU _ _ e_p41 (inRk rfl) (fun e_ g_  => ?_) (fun _ g_ => nomatch g_)
    obtain rfl := Sum.inr.inj g_
    refine wx_iconst (pc := 89) (dK D_LP_story 41 rfl) ?_
    obtain rfl := Option.some.inj h
    exact wk_iretI (pc := 90) (dK D_LP_story 42 rfl) rfl hk0 hn0 ⟨rfl, (inRk rfl), rfl⟩
theorem tg_LP_story {sc : SC} {c0 : Nat} {a1 : Int} (ha1 : inR a1) {S : St} {L : List PC} {q : Int} (h : gn_LP_story c0 a1 S L = some q) : EvX sc M_LP_story [.ref c0, V a1] (wz (S, L)) 0 0 (KXI q (S, L)) := EvX.of pn2_LP rfl (leK rfl) (te_LP_story ha1 h (Nat.le_refl _) (Nat.le_refl _))
def lb2_LP_left_4 (c0 : Nat) (a1 : Int) (S : St) (L : List PC) (go : Int × Int → Option (Int)) (a2 : Int) (a3 : Int) : Option (Int) := bnO (gfV L c0 12 4) fun v1 => rfB v1 fun r2 => if isK L r2 13 = true then (bnO (gn_AL_size r2 S L) fun p3 => if p3 ≤ a3 then (some a2) else (bnO (gfV L c0 12 4) fun v5 => rfB v5 fun r6 => if isK L r6 13 = true then (bnO (gn_AL_get r6 a3 S L) fun p7 => rfB p7 fun r9 => if isK L r9 11 = true then (bnO (gfI L r9 11 5) fun v11 => if v11 = a1 then (bnO (gfV L c0 12 4) fun v14 => rfB v14 fun r15 => if isK L r15 13 = true then (bnO (gn_AL_get r15 a3 S L) fun p16 => rfB p16 fun r18 => if isK L r18 11 = true then (bnO (gfI L r18 11 0) fun v20 => nm (wr (a2 - v20)) fun v21 => nm (wr (a3 + 1)) fun v22 => go (v21, v22)) else none) else none) else (nm (wr (a2 - 0)) fun v12 => nm (wr (a3 + 1)) fun v13 => go (v12, v13))) else none) else none)) else none
def lo2_LP_left_4 (c0 : Nat) (a1 : Int) (S : St) (L : List PC) : Nat → Int × Int → Option (Int) := lp fun go p => lb2_LP_left_4 c0 a1 S L go p.1 p.2
theorem tl2_LP_left_4 {sc : SC} {c0 : Nat} {a1 : Int} (ha1 : inR a1) {K : Option Value → List PC → Prop} {S : St} {L : List PC} {mc ms k n : Nat} (hk0 : k ≤ mc) (hn0 : n ≤ ms) : ∀ (N : Nat) (a : Int × Int) (q : Int), lo2_LP_left_4 c0 a1 S L N a = some q → inR a.1 → inR a.2 → (inR q → GX sc M_LP_left mc ms 60 [(0, .ref c0), (1, V a1), (2, V q)] [] (wz (S, L)) k n K) → GX sc M_LP_left mc ms 4 [(0, .ref c0), (1, V a1), (2, V a.1), (3, V a.2)] [] (wz (S, L)) k n K := by
  refine lp_ind2 (P := fun (a : Int × Int) (q : Int) => inR a.1 → inR a.2 → (inR q → GX sc M_LP_left mc ms 60 [(0, .ref c0), (1, V a1), (2, V q)] [] (wz (S, L)) k n K) → GX sc M_LP_left mc ms 4 [(0, .ref c0), (1, V a1), (2, V a.1), (3, V a.2)] [] (wz (S, L)) k n K) (fun go ih a q h => ?_)
  obtain ⟨a2, a3⟩ := a
  intro ha2 ha3 hx
  show GX sc M_LP_left mc ms 4 [(0, .ref c0), (1, V a1), (2, V a2), (3, V a3)] [] (wz (S, L)) k n K
  replace h : lb2_LP_left_4 c0 a1 S L go a2 a3 = some q := h
  unfold lb2_LP_left_4 at h
  refine x_iloadn (pc := 4) (i0 := 3) (j := 3) (dK D_LP_left_0 4 rfl) rfl rfl ?_
  refine x_aloadn (pc := 5) (i0 := 0) (j := 0) (dK D_LP_left_0 5 rfl) rfl rfl ?_
  refine bnE h ?_
  clear h
  intro v1 e_v1 h
  refine wx_getV (pc := 6) (ci := 12) (f := 4) e_v1 (dK D_LP_left_0 6 rfl) q_775 (ltK rfl) (ltK rfl) (fun hv1 => ?_)
  refine rfE h ?_
  clear h
  intro r2 e_r2 h
  rw [e_r2]
  refine gdE h ?_
  clear h
  intro hk4 h
  refine bnE h ?_
  clear h
  intro p3 e_p3 h
  refine x_callX (pc := 9) (As := []) (rest := [V a3]) (mc' := 0) (ms' := 0) (dK D_LP_left_0 7 rfl) Q_LP_83 sx_AL_size (fitK rfl) (isK_at (Z := (S, L)) (ci := 13) hk4) rfl (leK rfl) hk0 hn0 (tg_AL_size  e_p3) (kxI' (fun h_p3 => ?_))
  refine wx_icmp_ge (pc := 12) (t := 60) (dK D_LP_left_0 8 rfl) rfl ha3 h_p3 (fun hc24 => ?_) (fun hc24 => ?_)
  · replace h := ifP h hc24
    obtain rfl := Option.some.inj h
    refine x_weak (ls' := [(0, .ref c0), (1, V a1), (2, V a2)]) (sbc 0 rfl (sbc 1 rfl (sbc 2 rfl sbn))) ?_
    exact hx ha2
  · replace h := ifN h hc24
    refine x_iloadn (pc := 15) (i0 := 2) (j := 2) (dK D_LP_left_0 9 rfl) rfl rfl ?_
    refine x_aloadn (pc := 16) (i0 := 0) (j := 0) (dK D_LP_left_0 10 rfl) rfl rfl ?_
    refine bnE h ?_
    clear h
    intro v5 e_v5 h
    refine wx_getV (pc := 17) (ci := 12) (f := 4) e_v5 (dK D_LP_left_0 11 rfl) q_775 (ltK rfl) (ltK rfl) (fun hv5 => ?_)
    refine x_iloadn (pc := 20) (i0 := 3) (j := 3) (dK D_LP_left_0 12 rfl) rfl rfl ?_
    refine rfE h ?_
    clear h
    intro r6 e_r6 h
    rw [e_r6]
    refine gdE h ?_
    clear h
    intro hk8 h
    refine bnE h ?_
    clear h
    intro p7 e_p7 h
    refine x_callX (pc := 21) (As := [V a3]) (rest := [V a2]) (mc' := 0) (ms' := 0) (dK D_LP_left_0 13 rfl) Q_LP_87 sx_AL_get (fitK rfl) (isK_at (Z := (S, L)) (ci := 13) hk8) rfl (leK rfl) hk0 hn0 (tg_AL_get ha3 e_p7) (kxR (fun h_p7 => ?_))
    refine rfE h ?_
    clear h
    intro r9 e_r9 h
    rw [e_r9]
    refine gdE h ?_
    clear h
    intro hk10 h
    refine x_cast (pc := 24) (dK D_LP_left_0 14 rfl) q_861 (isK_at (Z := (S, L)) (ci := 11) hk10) ?_
    refine bnE h ?_
    clear h
    intro v11 e_v11 h
    refine wx_getI (pc := 27) (ci := 11) (f := 5) e_v11 (dK D_LP_left_0 15 rfl) q_888 (ltK rfl) (ltK rfl) ?_
    refine x_iloadn (pc := 30) (i0 := 1) (j := 1) (dK D_LP_left_0 16 rfl) rfl rfl ?_
    refine wx_icmp_ne (pc := 31) (t := 51) (dK D_LP_left_0 17 rfl) rfl (vI_at e_v11).2 ha1 (fun hc23 => ?_) (fun hc23 => ?_)
    · replace h := ifN h hc23
      refine wx_iconst (pc := 51) (dK D_LP_left_0 25 rfl) ?_
      refine wx_isub (pc := 52) (dK D_LP_left_0 26 rfl) ?_
      refine nmE h ?_
      clear h
      intro v12 e_v12 h
      refine wtop e_v12 ?_
      refine x_istoren (pc := 53) (i0 := 2) (ls2 := [(2, V v12), (0, .ref c0), (1, V a1), (3, V a3)]) (dK D_LP_left_0 27 rfl) rfl (ltK rfl) rfl ?_
      refine nmE h ?_
      clear h
      intro v13 e_v13 h
      refine wx_iinc (pc := 54) (j := 3) (a := a3) (z := 1) (ls2 := [(3, V v13), (2, V v12), (0, .ref c0), (1, V a1)]) (dK D_LP_left_0 28 rfl) rfl e_v13 (ltK rfl) rfl ?_
      refine x_goto (pc := 57) (tgt := 4) (dK D_LP_left_0 29 rfl) rfl ?_
      refine x_weak (ls' := [(0, .ref c0), (1, V a1), (2, V v12), (3, V v13)]) (sbc 2 rfl (sbc 3 rfl (sbc 1 rfl (sbc 0 rfl sbn)))) ?_
      replace h := ih _ _ h
      exact h (Vn_in e_v12) (Vn_in e_v13) hx
    · replace h := ifP h hc23
      refine x_aloadn (pc := 34) (i0 := 0) (j := 0) (dK D_LP_left_0 18 rfl) rfl rfl ?_
      refine bnE h ?_
      clear h
      intro v14 e_v14 h
      refine wx_getV (pc := 35) (ci := 12) (f := 4) e_v14 (dK D_LP_left_0 19 rfl) q_775 (ltK rfl) (ltK rfl) (fun hv14 => ?_)
      refine x_iloadn (pc := 38) (i0 := 3) (j := 3) (dK D_LP_left_0 20 rfl) rfl rfl ?_
      refine rfE h ?_
      clear h
      intro r15 e_r15 h
      rw [e_r15]
      refine gdE h ?_
      clear h
      intro hk17 h
      refine bnE h ?_
      clear h
      intro p16 e_p16 h
      refine x_callX (pc := 39) (As := [V a3]) (rest := [V a2]) (mc' := 0) (ms' := 0) (dK D_LP_left_0 21 rfl) Q_LP_87 sx_AL_get (fitK rfl) (isK_at (Z := (S, L)) (ci := 13) hk17) rfl (leK rfl) hk0 hn0 (tg_AL_get ha3 e_p16) (kxR (fun h_p16 => ?_))
      refine rfE h ?_
      clear h
      intro r18 e_r18 h
      rw [e_r18]
      refine gdE h ?_
      clear h
      intro hk19 h
      refine x_cast (pc := 42) (dK D_LP_left_0 22 rfl) q_861 (isK_at (Z := (S, L)) (ci := 11) hk19) ?_
      refine bnE h ?_
      clear h
      intro v20 e_v20 h
      refine wx_getI (pc := 45) (ci := 11) (f := 0) e_v20 (dK D_LP_left_0 23 rfl) q_873 (ltK rfl) (ltK rfl) ?_
      refine x_goto (pc := 48) (tgt := 52) (dK D_LP_left_0 24 rfl) rfl ?_
      refine wx_isub (pc := 52) (dK D_LP_left_0 26 rfl) ?_
      refine nmE h ?_
      clear h
      intro v21 e_v21 h
      refine wtop e_v21 ?_
      refine x_istoren (pc := 53) (i0 := 2) (ls2 := [(2, V v21), (0, .ref c0), (1, V a1), (3, V a3)]) (dK D_LP_left_0 27 rfl) rfl (ltK rfl) rfl ?_
      refine nmE h ?_
      clear h
      intro v22 e_v22 h
      refine wx_iinc (pc := 54) (j := 3) (a := a3) (z := 1) (ls2 := [(3, V v22), (2, V v21), (0, .ref c0), (1, V a1)]) (dK D_LP_left_0 28 rfl) rfl e_v22 (ltK rfl) rfl ?_
      refine x_goto (pc := 57) (tgt := 4) (dK D_LP_left_0 29 rfl) rfl ?_
      refine x_weak (ls' := [(0, .ref c0), (1, V a1), (2, V v21), (3, V v22)]) (sbc 2 rfl (sbc 3 rfl (sbc 1 rfl (sbc 0 rfl sbn)))) ?_
      replace h := ih _ _ h
      exact h (Vn_in e_v21) (Vn_in e_v22) hx
def lb2_LP_left_62 (c0 : Nat) (a1 : Int) (S : St) (L : List PC) (go : Int × Int → Option (Int)) (a2 : Int) (a3 : Int) : Option (Int) := bnO (gfV L c0 12 6) fun v26 => rfB v26 fun r27 => if isK L r27 13 = true then (bnO (gn_AL_size r27 S L) fun p28 => if p28 ≤ a3 then (some a2) else (bnO (gfV L c0 12 6) fun v30 => rfB v30 fun r31 => if isK L r31 13 = true then (bnO (gn_AL_get r31 a3 S L) fun p32 => rfB p32 fun r34 => if isK L r34 11 = true then (bnO (gfI L r34 11 5) fun v36 => if v36 = a1 then (bnO (gfV L c0 12 6) fun v39 => rfB v39 fun r40 => if isK L r40 13 = true then (bnO (gn_AL_get r40 a3 S L) fun p41 => rfB p41 fun r43 => if isK L r43 11 = true then (bnO (gfI L r43 11 0) fun v45 => nm (wr (a2 - v45)) fun v46 => nm (wr (a3 + 1)) fun v47 => go (v46, v47)) else none) else none) else (nm (wr (a2 - 0)) fun v37 => nm (wr (a3 + 1)) fun v38 => go (v37, v38))) else none) else none)) else none
def lo2_LP_left_62 (c0 : Nat) (a1 : Int) (S : St) (L : List PC) : Nat → Int × Int → Option (Int) := lp fun go p => lb2_LP_left_62 c0 a1 S L go p.1 p.2
theorem tl2_LP_left_62 {sc : SC} {c0 : Nat} {a1 : Int} (ha1 : inR a1) {K : Option Value → List PC → Prop} {S : St} {L : List PC} {mc ms k n : Nat} (hk0 : k ≤ mc) (hn0 : n ≤ ms) : ∀ (N : Nat) (a : Int × Int) (q : Int), lo2_LP_left_62 c0 a1 S L N a = some q → inR a.1 → inR a.2 → (inR q → GX sc M_LP_left mc ms 118 [(0, .ref c0), (1, V a1), (2, V q)] [] (wz (S, L)) k n K) → GX sc M_LP_left mc ms 62 [(0, .ref c0), (1, V a1), (2, V a.1), (3, V a.2)] [] (wz (S, L)) k n K := by
  refine lp_ind2 (P := fun (a : Int × Int) (q : Int) => inR a.1 → inR a.2 → (inR q → GX sc M_LP_left mc ms 118 [(0, .ref c0), (1, V a1), (2, V q)] [] (wz (S, L)) k n K) → GX sc M_LP_left mc ms 62 [(0, .ref c0), (1, V a1), (2, V a.1), (3, V a.2)] [] (wz (S, L)) k n K) (fun go ih a q h => ?_)
  obtain ⟨a2, a3⟩ := a
  intro ha2 ha3 hx
  show GX sc M_LP_left mc ms 62 [(0, .ref c0), (1, V a1), (2, V a2), (3, V a3)] [] (wz (S, L)) k n K
  replace h : lb2_LP_left_62 c0 a1 S L go a2 a3 = some q := h
  unfold lb2_LP_left_62 at h
  refine x_iloadn (pc := 62) (i0 := 3) (j := 3) (dK D_LP_left_0 32 rfl) rfl rfl ?_
  refine x_aloadn (pc := 63) (i0 := 0) (j := 0) (dK D_LP_left_0 33 rfl) rfl rfl ?_
  refine bnE h ?_
  clear h
  intro v26 e_v26 h
  refine wx_getV (pc := 64) (ci := 12) (f := 6) e_v26 (dK D_LP_left_0 34 rfl) q_779 (ltK rfl) (ltK rfl) (fun hv26 => ?_)
  refine rfE h ?_
  clear h
  intro r27 e_r27 h
  rw [e_r27]
  refine gdE h ?_
  clear h
  intro hk29 h
  refine bnE h ?_
  clear h
  intro p28 e_p28 h
  refine x_callX (pc := 67) (As := []) (rest := [V a3]) (mc' := 0) (ms' := 0) (dK D_LP_left_0 35 rfl) Q_LP_83 sx_AL_size (fitK rfl) (isK_at (Z := (S, L)) (ci := 13) hk29) rfl (leK rfl) hk0 hn0 (tg_AL_size  e_p28) (kxI' (fun h_p28 => ?_))
  refine wx_icmp_ge (pc := 70) (t := 118) (dK D_LP_left_0 36 rfl) rfl ha3 h_p28 (fun hc49 => ?_) (fun hc49 => ?_)
  · replace h := ifP h hc49
    obtain rfl := Option.some.inj h
    refine x_weak (ls' := [(0, .ref c0), (1, V a1), (2, V a2)]) (sbc 0 rfl (sbc 1 rfl (sbc 2 rfl sbn))) ?_
    exact hx ha2
  · replace h := ifN h hc49
    refine x_iloadn (pc := 73) (i0 := 2) (j := 2) (dK D_LP_left_0 37 rfl) rfl rfl ?_
    refine x_aloadn (pc := 74) (i0 := 0) (j := 0) (dK D_LP_left_0 38 rfl) rfl rfl ?_
    refine bnE h ?_
    clear h
    intro v30 e_v30 h
    refine wx_getV (pc := 75) (ci := 12) (f := 6) e_v30 (dK D_LP_left_0 39 rfl) q_779 (ltK rfl) (ltK rfl) (fun hv30 => ?_)
    refine x_iloadn (pc := 78) (i0 := 3) (j := 3) (dK D_LP_left_0 40 rfl) rfl rfl ?_
    refine rfE h ?_
    clear h
    intro r31 e_r31 h
    rw [e_r31]
    refine gdE h ?_
    clear h
    intro hk33 h
    refine bnE h ?_
    clear h
    intro p32 e_p32 h
    refine x_callX (pc := 79) (As := [V a3]) (rest := [V a2]) (mc' := 0) (ms' := 0) (dK D_LP_left_0 41 rfl) Q_LP_87 sx_AL_get (fitK rfl) (isK_at (Z := (S, L)) (ci := 13) hk33) rfl (leK rfl) hk0 hn0 (tg_AL_get ha3 e_p32) (kxR (fun h_p32 => ?_))
    refine rfE h ?_
    clear h
    intro r34 e_r34 h
    rw [e_r34]
    refine gdE h ?_
    clear h
    intro hk35 h
    refine x_cast (pc := 82) (dK D_LP_left_0 42 rfl) q_861 (isK_at (Z := (S, L)) (ci := 11) hk35) ?_
    refine bnE h ?_
    clear h
    intro v36 e_v36 h
    refine wx_getI (pc := 85) (ci := 11) (f := 5) e_v36 (dK D_LP_left_0 43 rfl) q_888 (ltK rfl) (ltK rfl) ?_
    refine x_iloadn (pc := 88) (i0 := 1) (j := 1) (dK D_LP_left_0 44 rfl) rfl rfl ?_
    refine wx_icmp_ne (pc := 89) (t := 109) (dK D_LP_left_0 45 rfl) rfl (vI_at e_v36).2 ha1 (fun hc48 => ?_) (fun hc48 => ?_)
    · replace h := ifN h hc48
      refine wx_iconst (pc := 109) (dK D_LP_left_1 3 rfl) ?_
      refine wx_isub (pc := 110) (dK D_LP_left_1 4 rfl) ?_
      refine nmE h ?_
      clear h
      intro v37 e_v37 h
      refine wtop e_v37 ?_
      refine x_istoren (pc := 111) (i0 := 2) (ls2 := [(2, V v37), (0, .ref c0), (1, V a1), (3, V a3)]) (dK D_LP_left_1 5 rfl) rfl (ltK rfl) rfl ?_
      refine nmE h ?_
      clear h
      intro v38 e_v38 h
      refine wx_iinc (pc := 112) (j := 3) (a := a3) (z := 1) (ls2 := [(3, V v38), (2, V v37), (0, .ref c0), (1, V a1)]) (dK D_LP_left_1 6 rfl) rfl e_v38 (ltK rfl) rfl ?_
      refine x_goto (pc := 115) (tgt := 62) (dK D_LP_left_1 7 rfl) rfl ?_
      refine x_weak (ls' := [(0, .ref c0), (1, V a1), (2, V v37), (3, V v38)]) (sbc 2 rfl (sbc 3 rfl (sbc 1 rfl (sbc 0 rfl sbn)))) ?_
      replace h := ih _ _ h
      exact h (Vn_in e_v37) (Vn_in e_v38) hx
    · replace h := ifP h hc48
      refine x_aloadn (pc := 92) (i0 := 0) (j := 0) (dK D_LP_left_0 46 rfl) rfl rfl ?_
      refine bnE h ?_
      clear h
      intro v39 e_v39 h
      refine wx_getV (pc := 93) (ci := 12) (f := 6) e_v39 (dK D_LP_left_0 47 rfl) q_779 (ltK rfl) (ltK rfl) (fun hv39 => ?_)
      refine x_iloadn (pc := 96) (i0 := 3) (j := 3) (dK D_LP_left_0 48 rfl) rfl rfl ?_
      refine rfE h ?_
      clear h
      intro r40 e_r40 h
      rw [e_r40]
      refine gdE h ?_
      clear h
      intro hk42 h
      refine bnE h ?_
      clear h
      intro p41 e_p41 h
      refine x_callX (pc := 97) (As := [V a3]) (rest := [V a2]) (mc' := 0) (ms' := 0) (dK D_LP_left_0 49 rfl) Q_LP_87 sx_AL_get (fitK rfl) (isK_at (Z := (S, L)) (ci := 13) hk42) rfl (leK rfl) hk0 hn0 (tg_AL_get ha3 e_p41) (kxR (fun h_p41 => ?_))
      refine rfE h ?_
      clear h
      intro r43 e_r43 h
      rw [e_r43]
      refine gdE h ?_
      clear h
      intro hk44 h
      refine x_cast (pc := 100) (dK D_LP_left_1 0 rfl) q_861 (isK_at (Z := (S, L)) (ci := 11) hk44) ?_
      refine bnE h ?_
      clear h
      intro v45 e_v45 h
      refine wx_getI (pc := 103) (ci := 11) (f := 0) e_v45 (dK D_LP_left_1 1 rfl) q_873 (ltK rfl) (ltK rfl) ?_
      refine x_goto (pc := 106) (tgt := 110) (dK D_LP_left_1 2 rfl) rfl ?_
      refine wx_isub (pc := 110) (dK D_LP_left_1 4 rfl) ?_
      refine nmE h ?_
      clear h
      intro v46 e_v46 h
      refine wtop e_v46 ?_
      refine x_istoren (pc := 111) (i0 := 2) (ls2 := [(2, V v46), (0, .ref c0), (1, V a1), (3, V a3)]) (dK D_LP_left_1 5 rfl) rfl (ltK rfl) rfl ?_
      refine nmE h ?_
      clear h
      intro v47 e_v47 h
      refine wx_iinc (pc := 112) (j := 3) (a := a3) (z := 1) (ls2 := [(3, V v47), (2, V v46), (0, .ref c0), (1, V a1)]) (dK D_LP_left_1 6 rfl) rfl e_v47 (ltK rfl) rfl ?_
      refine x_goto (pc := 115) (tgt := 62) (dK D_LP_left_1 7 rfl) rfl ?_
      refine x_weak (ls' := [(0, .ref c0), (1, V a1), (2, V v46), (3, V v47)]) (sbc 2 rfl (sbc 3 rfl (sbc 1 rfl (sbc 0 rfl sbn)))) ?_
      replace h := ih _ _ h
      exact h (Vn_in e_v46) (Vn_in e_v47) hx
def gn_LP_left (c0 : Nat) (a1 : Int) (S : St) (L : List PC) : Option (Int) := bnO (lo2_LP_left_4 c0 a1 S L FU (4, 0)) fun p25 => bnO (lo2_LP_left_62 c0 a1 S L FU (p25, 0)) fun p50 => if isK L c0 12 = true then (bnO (gn_LP_story c0 a1 S L) fun p51 => if 0 ≤ p51 then (some 0) else (some p50)) else none
theorem te_LP_left {sc : SC} {c0 : Nat} {a1 : Int} (ha1 : inR a1) {S : St} {L : List PC} {q : Int} (h : gn_LP_left c0 a1 S L = some q) {mc ms k n : Nat} (hk0 : k ≤ mc) (hn0 : n ≤ ms) : GX sc M_LP_left mc ms 0 [(0, .ref c0), (1, V a1)] [] (wz (S, L)) k n (KXI q (S, L)) := by
  unfold gn_LP_left at h
  refine wx_iconst (pc := 0) (dK D_LP_left_0 0 rfl) ?_
  refine x_istoren (pc := 1) (i0 := 2) (ls2 := [(2, V 4), (0, .ref c0), (1, V a1)]) (dK D_LP_left_0 1 rfl) rfl (ltK rfl) rfl ?_
  refine wx_iconst (pc := 2) (dK D_LP_left_0 2 rfl) ?_
  refine x_istoren (pc := 3) (i0 := 3) (ls2 := [(3, V 0), (2, V 4), (0, .ref c0), (1, V a1)]) (dK D_LP_left_0 3 rfl) rfl (ltK rfl) rfl ?_
  refine bnE h ?_
  clear h
  intro p25 e_p25 h
  refine x_weak (ls' := [(0, .ref c0), (1, V a1), (2, V 4), (3, V 0)]) (sbc 2 rfl (sbc 3 rfl (sbc 1 rfl (sbc 0 rfl sbn)))) ?_
  refine tl2_LP_left_4 ha1 hk0 hn0 FU _ _ e_p25 (inRk rfl) (inRk rfl) (fun hx2_p25 => ?_)
  refine wx_iconst (pc := 60) (dK D_LP_left_0 30 rfl) ?_
  refine x_istoren (pc := 61) (i0 := 3) (ls2 := [(3, V 0), (0, .ref c0), (1, V a1), (2, V p25)]) (dK D_LP_left_0 31 rfl) rfl (ltK rfl) rfl ?_
  refine bnE h ?_
  clear h
  intro p50 e_p50 h
  refine x_weak (ls' := [(0, .ref c0), (1, V a1), (2, V p25), (3, V 0)]) (sbc 1 rfl (sbc 2 rfl (sbc 3 rfl (sbc 0 rfl sbn)))) ?_
  refine tl2_LP_left_62 ha1 hk0 hn0 FU _ _ e_p50 hx2_p25 (inRk rfl) (fun hx2_p50 => ?_)
  refine x_aloadn (pc := 118) (i0 := 0) (j := 0) (dK D_LP_left_1 8 rfl) rfl rfl ?_
  refine x_iloadn (pc := 119) (i0 := 1) (j := 1) (dK D_LP_left_1 9 rfl) rfl rfl ?_
  refine gdE h ?_
  clear h
  intro hk52 h
  refine bnE h ?_
  clear h
  intro p51 e_p51 h
  refine x_callX (pc := 120) (As := [V a1]) (rest := []) (mc' := 0) (ms' := 0) (dK D_LP_left_1 10 rfl) Q_LP_102 sx_LP_story (fitK rfl) (isK_at (Z := (S, L)) (ci := 12) hk52) rfl (leK rfl) hk0 hn0 (tg_LP_story ha1 e_p51) (kxI' (fun h_p51 => ?_))
  refine wx_if_ge (pc := 123) (t := 130) (dK D_LP_left_1 11 rfl) rfl h_p51 (fun hc53 => ?_) (fun hc53 => ?_)
  · replace h := ifP h hc53
    refine wx_iconst (pc := 130) (dK D_LP_left_1 14 rfl) ?_
    obtain rfl := Option.some.inj h
    exact wk_iretI (pc := 131) (dK D_LP_left_1 15 rfl) rfl hk0 hn0 ⟨rfl, (inRk rfl), rfl⟩
  · replace h := ifN h hc53
    refine x_iloadn (pc := 126) (i0 := 2) (j := 2) (dK D_LP_left_1 12 rfl) rfl rfl ?_
    refine x_goto (pc := 127) (tgt := 131) (dK D_LP_left_1 13 rfl) rfl ?_
    obtain rfl := Option.some.inj h
    exact wk_iretI (pc := 131) (dK D_LP_left_1 15 rfl) rfl hk0 hn0 ⟨rfl, hx2_p50, rfl⟩
theorem tg_LP_left {sc : SC} {c0 : Nat} {a1 : Int} (ha1 : inR a1) {S : St} {L : List PC} {q : Int} (h : gn_LP_left c0 a1 S L = some q) : EvX sc M_LP_left [.ref c0, V a1] (wz (S, L)) 0 0 (KXI q (S, L)) := EvX.of pn2_LP rfl (leK rfl) (te_LP_left ha1 h (Nat.le_refl _) (Nat.le_refl _))
def gn_LP_form (c0 : Nat) (a1 : Int) (S : St) (L : List PC) : Option (Int) := bnO (gfI L c0 12 1) fun v1 => nm (wr (a1 - 1)) fun v2 => if 0 < v1 then (nm (wr (v2.tmod v1)) fun v4 => bnO (gfI L c0 12 1) fun v5 => nm (wr (a1 - 1)) fun v6 => if 0 < v5 then (nm (wr (v4.tmod 4)) fun v8 => if v8 = 1 then (nm (wr ((2 * (v6.tdiv v5)) + 1)) fun v9 => some v9) else (nm (wr (v4.tmod 4)) fun v10 => if v10 = 2 then (nm (wr ((2 * (v6.tdiv v5)) + 1)) fun v12 => some v12) else (nm (wr ((2 * (v6.tdiv v5)) + 0)) fun v11 => some v11))) else none) else none
theorem te_LP_form {sc : SC} {c0 : Nat} {a1 : Int} (ha1 : inR a1) {S : St} {L : List PC} {q : Int} (h : gn_LP_form c0 a1 S L = some q) {mc ms k n : Nat} (hk0 : k ≤ mc) (hn0 : n ≤ ms) : GX sc M_LP_form mc ms 0 [(0, .ref c0), (1, V a1)] [] (wz (S, L)) k n (KXI q (S, L)) := by
  unfold gn_LP_form at h
  refine x_iloadn (pc := 0) (i0 := 1) (j := 1) (dK D_LP_form 0 rfl) rfl rfl ?_
  refine wx_iconst (pc := 1) (dK D_LP_form 1 rfl) ?_
  refine wx_isub (pc := 2) (dK D_LP_form 2 rfl) ?_
  refine x_aloadn (pc := 3) (i0 := 0) (j := 0) (dK D_LP_form 3 rfl) rfl rfl ?_
  refine bnE h ?_
  clear h
  intro v1 e_v1 h
  refine wx_getI (pc := 4) (ci := 12) (f := 1) e_v1 (dK D_LP_form 4 rfl) q_769 (ltK rfl) (ltK rfl) ?_
  refine nmE h ?_
  clear h
  intro v2 e_v2 h
  refine wsk (st' := [V v1, V v2]) (congrArg (fun z9 => [V v1, z9]) (Vn e_v2)) ?_
  refine gdE h ?_
  clear h
  intro hp3 h
  refine wx_irem (pc := 7) (dK D_LP_form 5 rfl) (Vn_in e_v2) (vI_at e_v1).2 hp3 ?_
  refine nmE h ?_
  clear h
  intro v4 e_v4 h
  refine wtop e_v4 ?_
  refine x_istoren (pc := 8) (i0 := 2) (ls2 := [(2, V v4), (0, .ref c0), (1, V a1)]) (dK D_LP_form 6 rfl) rfl (ltK rfl) rfl ?_
  refine wx_iconst (pc := 9) (dK D_LP_form 7 rfl) ?_
  refine x_iloadn (pc := 10) (i0 := 1) (j := 2) (dK D_LP_form 8 rfl) rfl rfl ?_
  refine wx_iconst (pc := 11) (dK D_LP_form 9 rfl) ?_
  refine wx_isub (pc := 12) (dK D_LP_form 10 rfl) ?_
  refine x_aloadn (pc := 13) (i0 := 0) (j := 1) (dK D_LP_form 11 rfl) rfl rfl ?_
  refine bnE h ?_
  clear h
  intro v5 e_v5 h
  refine wx_getI (pc := 14) (ci := 12) (f := 1) e_v5 (dK D_LP_form 12 rfl) q_769 (ltK rfl) (ltK rfl) ?_
  refine nmE h ?_
  clear h
  intro v6 e_v6 h
  refine wsk (st' := [V v5, V v6, V 2]) (congrArg (fun z9 => [V v5, z9, V 2]) (Vn e_v6)) ?_
  refine gdE h ?_
  clear h
  intro hp7 h
  refine wx_idiv (pc := 17) (dK D_LP_form 13 rfl) (Vn_in e_v6) (vI_at e_v5).2 hp7 ?_
  refine wx_imul (pc := 18) (dK D_LP_form 14 rfl) ?_
  refine x_iloadn (pc := 19) (i0 := 2) (j := 0) (dK D_LP_form 15 rfl) rfl rfl ?_
  refine wx_iconst (pc := 20) (dK D_LP_form 16 rfl) ?_
  refine wx_irem (pc := 21) (dK D_LP_form 17 rfl) (Vn_in e_v4) (inRk rfl) (by decide) ?_
  refine wx_iconst (pc := 22) (dK D_LP_form 18 rfl) ?_
  refine nmE h ?_
  clear h
  intro v8 e_v8 h
  refine wsk (st' := [V 1, V v8, V (2 * (v6.tdiv v5))]) (congrArg (fun z9 => [V 1, z9, V (2 * (v6.tdiv v5))]) (Vn e_v8)) ?_
  refine wx_icmp_eq (pc := 23) (t := 33) (dK D_LP_form 19 rfl) rfl (Vn_in e_v8) (inRk rfl) (fun hc14 => ?_) (fun hc14 => ?_)
  · replace h := ifP h hc14
    refine wx_iconst (pc := 33) (dK D_LP_form 25 rfl) ?_
    refine x_goto (pc := 34) (tgt := 38) (dK D_LP_form 26 rfl) rfl ?_
    refine wx_iadd (pc := 38) (dK D_LP_form 28 rfl) ?_
    refine nmE h ?_
    clear h
    intro v9 e_v9 h
    refine wtop e_v9 ?_
    obtain rfl := Option.some.inj h
    exact wk_iretI (pc := 39) (dK D_LP_form 29 rfl) rfl hk0 hn0 ⟨rfl, (Vn_in e_v9), rfl⟩
  · replace h := ifN h hc14
    refine x_iloadn (pc := 26) (i0 := 2) (j := 0) (dK D_LP_form 20 rfl) rfl rfl ?_
    refine wx_iconst (pc := 27) (dK D_LP_form 21 rfl) ?_
    refine wx_irem (pc := 28) (dK D_LP_form 22 rfl) (Vn_in e_v4) (inRk rfl) (by decide) ?_
    refine wx_iconst (pc := 29) (dK D_LP_form 23 rfl) ?_
    refine nmE h ?_
    clear h
    intro v10 e_v10 h
    refine wsk (st' := [V 2, V v10, V (2 * (v6.tdiv v5))]) (congrArg (fun z9 => [V 2, z9, V (2 * (v6.tdiv v5))]) (Vn e_v10)) ?_
    refine wx_icmp_ne (pc := 30) (t := 37) (dK D_LP_form 24 rfl) rfl (Vn_in e_v10) (inRk rfl) (fun hc13 => ?_) (fun hc13 => ?_)
    · replace h := ifN h hc13
      refine wx_iconst (pc := 37) (dK D_LP_form 27 rfl) ?_
      refine wx_iadd (pc := 38) (dK D_LP_form 28 rfl) ?_
      refine nmE h ?_
      clear h
      intro v11 e_v11 h
      refine wtop e_v11 ?_
      obtain rfl := Option.some.inj h
      exact wk_iretI (pc := 39) (dK D_LP_form 29 rfl) rfl hk0 hn0 ⟨rfl, (Vn_in e_v11), rfl⟩
    · replace h := ifP h hc13
      refine wx_iconst (pc := 33) (dK D_LP_form 25 rfl) ?_
      refine x_goto (pc := 34) (tgt := 38) (dK D_LP_form 26 rfl) rfl ?_
      refine wx_iadd (pc := 38) (dK D_LP_form 28 rfl) ?_
      refine nmE h ?_
      clear h
      intro v12 e_v12 h
      refine wtop e_v12 ?_
      obtain rfl := Option.some.inj h
      exact wk_iretI (pc := 39) (dK D_LP_form 29 rfl) rfl hk0 hn0 ⟨rfl, (Vn_in e_v12), rfl⟩
theorem tg_LP_form {sc : SC} {c0 : Nat} {a1 : Int} (ha1 : inR a1) {S : St} {L : List PC} {q : Int} (h : gn_LP_form c0 a1 S L = some q) : EvX sc M_LP_form [.ref c0, V a1] (wz (S, L)) 0 0 (KXI q (S, L)) := EvX.of pn2_LP rfl (leK rfl) (te_LP_form ha1 h (Nat.le_refl _) (Nat.le_refl _))
def gn_Integer_intValue (c0 : Nat) (S : St) (L : List PC) : Option (Int) := bnO (gfI L c0 17 0) fun v1 => some v1
theorem te_Integer_intValue {sc : SC} {c0 : Nat} {S : St} {L : List PC} {q : Int} (h : gn_Integer_intValue c0 S L = some q) {mc ms k n : Nat} (hk0 : k ≤ mc) (hn0 : n ≤ ms) : GX sc M_Integer_intValue mc ms 0 [(0, .ref c0)] [] (wz (S, L)) k n (KXI q (S, L)) := by
  unfold gn_Integer_intValue at h
  refine x_aloadn (pc := 0) (i0 := 0) (j := 0) (dK D_Integer_intValue 0 rfl) rfl rfl ?_
  refine bnE h ?_
  clear h
  intro v1 e_v1 h
  refine wx_getI (pc := 1) (ci := 17) (f := 0) e_v1 (dK D_Integer_intValue 1 rfl) q_1248 (ltK rfl) (ltK rfl) ?_
  obtain rfl := Option.some.inj h
  exact wk_iretI (pc := 4) (dK D_Integer_intValue 2 rfl) rfl hk0 hn0 ⟨rfl, (vI_at e_v1).2, rfl⟩
theorem tg_Integer_intValue {sc : SC} {c0 : Nat} {S : St} {L : List PC} {q : Int} (h : gn_Integer_intValue c0 S L = some q) : EvX sc M_Integer_intValue [.ref c0] (wz (S, L)) 0 0 (KXI q (S, L)) := EvX.of pn2_Integer rfl (leK rfl) (te_Integer_intValue  h (Nat.le_refl _) (Nat.le_refl _))
def gn_ASB_init (c0 : Nat) (a1 : Int) (S : St) (L : List PC) : Option ((LZ) × Nat × Nat) := if (0 : Int) ≤ a1 ∧ (a1 : Int) ≤ 16384 then (if L.length < 900000000 then adC 1 a1.toNat (nw L (101, List.replicate a1.toNat (.int 0)) fun r4 L5 => bnO (pf L5 c0 15 0 (.ref r4)) fun L6 => bnO (pf L6 c0 15 1 (V 0)) fun L7 => some ((S, L7), 0, 0)) else none) else none
theorem te_ASB_init {sc : SC} {c0 : Nat} {a1 : Int} (ha1 : inR a1) {S : St} {L : List PC} {q : (LZ) × Nat × Nat} (h : gn_ASB_init c0 a1 S L = some q) {mc ms k n : Nat} (hb : Bd k n mc ms q) : GX sc M_ASB_init mc ms 0 [(0, .ref c0), (1, V a1)] [] (wz (S, L)) k n (KXU q.1) := by
  unfold gn_ASB_init at h
  refine x_aloadn (pc := 0) (i0 := 0) (j := 0) (dK D_ASB_init 0 rfl) rfl rfl ?_
  refine x_objinit (pc := 1) (dK D_ASB_init 1 rfl) q_1283 (leK rfl) (leK rfl) (leK rfl) ?_
  refine x_gs_compact (pc := 4) (dK D_ASB_init 2 rfl) q_1284 ?_
  refine wsk (st' := [V 1]) rfl ?_
  refine wx_if_eq (pc := 7) (t := 25) (dK D_ASB_init 3 rfl) rfl (inRk rfl) (fun hc => absurd hc (by decide)) (fun _ => ?_)
  refine x_aloadn (pc := 10) (i0 := 0) (j := 0) (dK D_ASB_init 4 rfl) rfl rfl ?_
  refine x_iloadn (pc := 11) (i0 := 1) (j := 1) (dK D_ASB_init 5 rfl) rfl rfl ?_
  refine gdE h ?_
  clear h
  intro hz1 h
  refine gdE h ?_
  clear h
  intro hl2 h
  obtain ⟨y3, h9, e9⟩ := adE2 h
  clear h
  subst e9
  have h := h9
  clear h9
  refine nwE h ?_
  clear h
  intro r4 L5 e_r4 e_L5 h
  have hk1 := bd1 hb
  have hn1 := bd2 hb
  replace hb := bdA hb
  refine wn_newa_byte (Z := (S, L)) (pc := 12) e_r4 e_L5 hl2 ha1 hz1 (dK D_ASB_init 6 rfl) q_675 hk1 hn1 ?_
  refine bnE h ?_
  clear h
  intro L6 e_L6 h
  refine wx_put (Z := (S, L5)) (pc := 14) (ci := 15) (f := 0) e_L6 (dK D_ASB_init 7 rfl) q_1292 (ltK rfl) (ltK rfl) rfl (okArr (.inr ⟨_, rfl⟩)) ?_
  refine x_aloadn (pc := 17) (i0 := 0) (j := 0) (dK D_ASB_init 8 rfl) rfl rfl ?_
  refine wx_iconst (pc := 18) (dK D_ASB_init 9 rfl) ?_
  refine bnE h ?_
  clear h
  intro L7 e_L7 h
  refine wx_put (Z := (S, L6)) (pc := 19) (ci := 15) (f := 1) e_L7 (dK D_ASB_init 10 rfl) q_1293 (ltK rfl) (ltK rfl) rfl ⟨rfl, rfl⟩ ?_
  refine x_goto (pc := 22) (tgt := 38) (dK D_ASB_init 11 rfl) rfl ?_
  obtain rfl := Option.some.inj h
  exact wk_ret (pc := 38) (dK D_ASB_init 19 rfl) rfl (bdk hb) (bdn hb) ⟨rfl, rfl⟩
theorem tg_ASB_init {sc : SC} {c0 : Nat} {a1 : Int} (ha1 : inR a1) {S : St} {L : List PC} {q : (LZ) × Nat × Nat} (h : gn_ASB_init c0 a1 S L = some q) : EvX sc M_ASB_init [.ref c0, V a1] (wz (S, L)) q.2.1 q.2.2 (KXU q.1) := EvX.of pn2_ASB rfl (leK rfl) (te_ASB_init ha1 h ⟨Nat.le_of_eq (Nat.zero_add _), Nat.le_of_eq (Nat.zero_add _)⟩)
def gn_SB_init (c0 : Nat) (S : St) (L : List PC) : Option ((LZ) × Nat × Nat) := bnO (gn_ASB_init c0 16 S L) fun p1 => adC p1.2.1 p1.2.2 (some ((p1.1.1, p1.1.2), 0, 0))
theorem te_SB_init {sc : SC} {c0 : Nat} {S : St} {L : List PC} {q : (LZ) × Nat × Nat} (h : gn_SB_init c0 S L = some q) {mc ms k n : Nat} (hb : Bd k n mc ms q) : GX sc M_SB_init mc ms 0 [(0, .ref c0)] [] (wz (S, L)) k n (KXU q.1) := by
  unfold gn_SB_init at h
  refine x_aloadn (pc := 0) (i0 := 0) (j := 0) (dK D_SB_init 0 rfl) rfl rfl ?_
  refine wx_bipush (pc := 1) (dK D_SB_init 1 rfl) rfl ?_
  refine bnE h ?_
  clear h
  intro p1 e_p1 h
  obtain ⟨yp1, h9, e9⟩ := adE2 h
  clear h
  subst e9
  have h := h9
  clear h9
  have hk1 := bd1 hb
  have hn1 := bd2 hb
  replace hb := bdA hb
  refine x_callI (pc := 3) (As := [V 16]) (rest := []) (mc' := p1.2.1) (ms' := p1.2.2) (dK D_SB_init 2 rfl) Q_SB_1 (fitK rfl) rfl (leK rfl) hk1 hn1 (tg_ASB_init (inRk rfl) e_p1) (kxU ?_)
  obtain rfl := Option.some.inj h
  exact wk_ret (pc := 6) (dK D_SB_init 3 rfl) rfl (bdk hb) (bdn hb) ⟨rfl, rfl⟩
theorem tg_SB_init {sc : SC} {c0 : Nat} {S : St} {L : List PC} {q : (LZ) × Nat × Nat} (h : gn_SB_init c0 S L = some q) : EvX sc M_SB_init [.ref c0] (wz (S, L)) q.2.1 q.2.2 (KXU q.1) := EvX.of pn2_SB rfl (leK rfl) (te_SB_init  h ⟨Nat.le_of_eq (Nat.zero_add _), Nat.le_of_eq (Nat.zero_add _)⟩)
def gn_ASB_newCapacity (c0 : Nat) (a1 : Int) (S : St) (L : List PC) : Option (Int) := bnO (gfV L c0 15 0) fun v1 => rfB v1 fun r2 => bnO (alm L r2) fun v3 => bnO (gfI L c0 15 1) fun v4 => nm (wr ((i_shl a1 v4) - v3)) fun v5 => bnO (gfI L c0 15 1) fun v6 => nm (wr (v3 + (i_shl 2 v6))) fun v7 => bnO (gn_ArS_newLength v3 v5 v7 S L) fun p8 => if p8 = 2147483647 then none else (bnO (gfI L c0 15 1) fun v9 => some (i_shr p8 v9))
theorem te_ASB_newCapacity {sc : SC} {c0 : Nat} {a1 : Int} (ha1 : inR a1) {S : St} {L : List PC} {q : Int} (h : gn_ASB_newCapacity c0 a1 S L = some q) {mc ms k n : Nat} (hk0 : k ≤ mc) (hn0 : n ≤ ms) : GX sc M_ASB_newCapacity mc ms 0 [(0, .ref c0), (1, V a1)] [] (wz (S, L)) k n (KXI q (S, L)) := by
  unfold gn_ASB_newCapacity at h
  refine x_aloadn (pc := 0) (i0 := 0) (j := 0) (dK D_ASB_newCapacity 0 rfl) rfl rfl ?_
  refine bnE h ?_
  clear h
  intro v1 e_v1 h
  refine wx_getV (pc := 1) (ci := 15) (f := 0) e_v1 (dK D_ASB_newCapacity 1 rfl) q_1292 (ltK rfl) (ltK rfl) (fun hv1 => ?_)
  refine rfE h ?_
  clear h
  intro r2 e_r2 h
  rw [e_r2]
  refine bnE h ?_
  clear h
  intro v3 e_v3 h
  refine wx_alm (pc := 4) e_v3 (dK D_ASB_newCapacity 2 rfl) (fun i_v3 => ?_)
  refine x_istoren (pc := 5) (i0 := 2) (ls2 := [(2, V v3), (0, .ref c0), (1, V a1)]) (dK D_ASB_newCapacity 3 rfl) rfl (ltK rfl) rfl ?_
  refine x_iloadn (pc := 6) (i0 := 1) (j := 2) (dK D_ASB_newCapacity 4 rfl) rfl rfl ?_
  refine x_aloadn (pc := 7) (i0 := 0) (j := 1) (dK D_ASB_newCapacity 5 rfl) rfl rfl ?_
  refine bnE h ?_
  clear h
  intro v4 e_v4 h
  refine wx_getI (pc := 8) (ci := 15) (f := 1) e_v4 (dK D_ASB_newCapacity 6 rfl) q_1293 (ltK rfl) (ltK rfl) ?_
  refine wx_ishl (pc := 11) (dK D_ASB_newCapacity 7 rfl) ?_
  refine x_istoren (pc := 12) (i0 := 3) (ls2 := [(3, V (i_shl a1 v4)), (2, V v3), (0, .ref c0), (1, V a1)]) (dK D_ASB_newCapacity 8 rfl) rfl (ltK rfl) rfl ?_
  refine x_iloadn (pc := 13) (i0 := 3) (j := 0) (dK D_ASB_newCapacity 9 rfl) rfl rfl ?_
  refine x_iloadn (pc := 14) (i0 := 2) (j := 1) (dK D_ASB_newCapacity 10 rfl) rfl rfl ?_
  refine wx_isub (pc := 15) (dK D_ASB_newCapacity 11 rfl) ?_
  refine nmE h ?_
  clear h
  intro v5 e_v5 h
  refine wtop e_v5 ?_
  refine x_istore (pc := 16) (ls2 := [(4, V v5), (3, V (i_shl a1 v4)), (2, V v3), (0, .ref c0), (1, V a1)]) (dK D_ASB_newCapacity 12 rfl) (ltK rfl) rfl ?_
  refine x_iloadn (pc := 18) (i0 := 2) (j := 2) (dK D_ASB_newCapacity 13 rfl) rfl rfl ?_
  refine x_iload (pc := 19) (j := 0) (dK D_ASB_newCapacity 14 rfl) rfl ?_
  refine x_iloadn (pc := 21) (i0 := 2) (j := 2) (dK D_ASB_newCapacity 15 rfl) rfl rfl ?_
  refine wx_iconst (pc := 22) (dK D_ASB_newCapacity 16 rfl) ?_
  refine x_aloadn (pc := 23) (i0 := 0) (j := 3) (dK D_ASB_newCapacity 17 rfl) rfl rfl ?_
  refine bnE h ?_
  clear h
  intro v6 e_v6 h
  refine wx_getI (pc := 24) (ci := 15) (f := 1) e_v6 (dK D_ASB_newCapacity 18 rfl) q_1293 (ltK rfl) (ltK rfl) ?_
  refine wx_ishl (pc := 27) (dK D_ASB_newCapacity 19 rfl) ?_
  refine wx_iadd (pc := 28) (dK D_ASB_newCapacity 20 rfl) ?_
  refine nmE h ?_
  clear h
  intro v7 e_v7 h
  refine wtop e_v7 ?_
  refine bnE h ?_
  clear h
  intro p8 e_p8 h
  refine x_callS (pc := 29) (As := [V v3, V v5, V v7]) (rest := []) (mc' := 0) (ms' := 0) (dK D_ASB_newCapacity 21 rfl) Q_ASB_114 (fitK rfl) rfl (leK rfl) hk0 hn0 (tg_ArS_newLength i_v3 (Vn_in e_v5) (Vn_in e_v7) e_p8) (kxI' (fun h_p8 => ?_))
  refine x_istore (pc := 32) (ls2 := [(5, V p8), (4, V v5), (3, V (i_shl a1 v4)), (2, V v3), (0, .ref c0), (1, V a1)]) (dK D_ASB_newCapacity 22 rfl) (ltK rfl) rfl ?_
  refine x_iload (pc := 34) (j := 0) (dK D_ASB_newCapacity 23 rfl) rfl ?_
  refine wx_ldc (pc := 36) (y := 2147483647) (dK D_ASB_newCapacity 24 rfl) q_1326 rfl ?_
  refine wx_icmp_ne (pc := 38) (t := 51) (dK D_ASB_newCapacity 25 rfl) rfl h_p8 (inRk rfl) (fun hc10 => ?_) (fun hc10 => ?_)
  · replace h := ifN h hc10
    refine x_iload (pc := 51) (j := 0) (dK D_ASB_newCapacity 31 rfl) rfl ?_
    refine x_aloadn (pc := 53) (i0 := 0) (j := 4) (dK D_ASB_newCapacity 32 rfl) rfl rfl ?_
    refine bnE h ?_
    clear h
    intro v9 e_v9 h
    refine wx_getI (pc := 54) (ci := 15) (f := 1) e_v9 (dK D_ASB_newCapacity 33 rfl) q_1293 (ltK rfl) (ltK rfl) ?_
    refine wx_ishr (pc := 57) (dK D_ASB_newCapacity 34 rfl) ?_
    obtain rfl := Option.some.inj h
    exact wk_iretI (pc := 58) (dK D_ASB_newCapacity 35 rfl) rfl hk0 hn0 ⟨rfl, (toInt_in _), rfl⟩
  · replace h := ifP h hc10
    exact nomatch h
theorem tg_ASB_newCapacity {sc : SC} {c0 : Nat} {a1 : Int} (ha1 : inR a1) {S : St} {L : List PC} {q : Int} (h : gn_ASB_newCapacity c0 a1 S L = some q) : EvX sc M_ASB_newCapacity [.ref c0, V a1] (wz (S, L)) 0 0 (KXI q (S, L)) := EvX.of pn2_ASB rfl (leK rfl) (te_ASB_newCapacity ha1 h (Nat.le_refl _) (Nat.le_refl _))
def gn_Ars_copyOf3 (c0 : Nat) (a1 : Int) (S : St) (L : List PC) : Option ((Value × LZ) × Nat × Nat) := bnO (alm L c0) fun v1 => if a1 = v1 then (bnO (cln L 1 c0) fun vs9 => if L.length < 900000000 then adC 1 vs9.length (nw L (101, vs9) fun r12 L13 => if isA L13 r12 1 = true then (some (((.ref r12), (S, L13)), 0, 0)) else none) else none) else (if (0 : Int) ≤ a1 ∧ (a1 : Int) ≤ 16384 then (if L.length < 900000000 then adC 1 a1.toNat (nw L (101, List.replicate a1.toNat (.int 0)) fun r5 L6 => bnO (alm L6 c0) fun v7 => bnO (cpB L6 c0 0 r5 0 (i_min v7 a1)) fun L8 => some (((.ref r5), (S, L8)), 0, 0)) else none) else none)
theorem te_Ars_copyOf3 {sc : SC} {c0 : Nat} {a1 : Int} (ha1 : inR a1) {S : St} {L : List PC} {q : (Value × LZ) × Nat × Nat} (h : gn_Ars_copyOf3 c0 a1 S L = some q) {mc ms k n : Nat} (hb : Bd k n mc ms q) : GX sc M_Ars_copyOf3 mc ms 0 [(0, .ref c0), (1, V a1)] [] (wz (S, L)) k n (KXR q.1.1 q.1.2) := by
  unfold gn_Ars_copyOf3 at h
  refine x_iloadn (pc := 0) (i0 := 1) (j := 1) (dK D_Ars_copyOf3 0 rfl) rfl rfl ?_
  refine x_aloadn (pc := 1) (i0 := 0) (j := 0) (dK D_Ars_copyOf3 1 rfl) rfl rfl ?_
  refine bnE h ?_
  clear h
  intro v1 e_v1 h
  refine wx_alm (pc := 2) e_v1 (dK D_Ars_copyOf3 2 rfl) (fun i_v1 => ?_)
  refine wx_icmp_ne (pc := 3) (t := 14) (dK D_Ars_copyOf3 3 rfl) rfl ha1 i_v1 (fun hc15 => ?_) (fun hc15 => ?_)
  · replace h := ifN h hc15
    refine x_iloadn (pc := 14) (i0 := 1) (j := 1) (dK D_Ars_copyOf3 8 rfl) rfl rfl ?_
    refine gdE h ?_
    clear h
    intro hz2 h
    refine gdE h ?_
    clear h
    intro hl3 h
    obtain ⟨y4, h9, e9⟩ := adE2 h
    clear h
    subst e9
    have h := h9
    clear h9
    refine nwE h ?_
    clear h
    intro r5 L6 e_r5 e_L6 h
    have hk1 := bd1 hb
    have hn1 := bd2 hb
    replace hb := bdA hb
    refine wn_newa_byte (Z := (S, L)) (pc := 15) e_r5 e_L6 hl3 ha1 hz2 (dK D_Ars_copyOf3 9 rfl) q_675 hk1 hn1 ?_
    refine x_astoren (pc := 17) (i0 := 2) (ls2 := [(2, .ref r5), (0, .ref c0), (1, V a1)]) (dK D_Ars_copyOf3 10 rfl) rfl (ltK rfl) rfl ?_
    refine x_aloadn (pc := 18) (i0 := 0) (j := 1) (dK D_Ars_copyOf3 11 rfl) rfl rfl ?_
    refine wx_iconst (pc := 19) (dK D_Ars_copyOf3 12 rfl) ?_
    refine x_aloadn (pc := 20) (i0 := 2) (j := 0) (dK D_Ars_copyOf3 13 rfl) rfl rfl ?_
    refine wx_iconst (pc := 21) (dK D_Ars_copyOf3 14 rfl) ?_
    refine x_aloadn (pc := 22) (i0 := 0) (j := 1) (dK D_Ars_copyOf3 15 rfl) rfl rfl ?_
    refine bnE h ?_
    clear h
    intro v7 e_v7 h
    refine wx_alm (pc := 23) e_v7 (dK D_Ars_copyOf3 16 rfl) (fun i_v7 => ?_)
    refine x_iloadn (pc := 24) (i0 := 1) (j := 2) (dK D_Ars_copyOf3 17 rfl) rfl rfl ?_
    refine wx_mmin (pc := 25) (dK D_Ars_copyOf3 18 rfl) q_969 (leK rfl) (leK rfl) (bdk hb) (bdn hb) i_v7 ha1 ?_
    refine bnE h ?_
    clear h
    intro L8 e_L8 h
    refine wx_copyB (Z := (S, L6)) (pc := 28) e_L8 (inRk rfl) (inRk rfl) (i_min_in i_v7 ha1) (dK D_Ars_copyOf3 19 rfl) q_970 (leK rfl) (leK rfl) ?_
    refine x_aloadn (pc := 31) (i0 := 2) (j := 0) (dK D_Ars_copyOf3 20 rfl) rfl rfl ?_
    obtain rfl := Option.some.inj h
    exact wk_aret (pc := 32) (.inr ⟨_, rfl⟩) (dK D_Ars_copyOf3 21 rfl) rfl (by first | exact .inl ⟨_, rfl⟩ | exact .inr ⟨_, rfl⟩) (bdk hb) (bdn hb) ⟨rfl, (.inr ⟨_, rfl⟩), rfl⟩
  · replace h := ifP h hc15
    refine x_aloadn (pc := 6) (i0 := 0) (j := 0) (dK D_Ars_copyOf3 4 rfl) rfl rfl ?_
    refine bnE h ?_
    clear h
    intro vs9 e_vs9 h
    refine gdE h ?_
    clear h
    intro hl10 h
    obtain ⟨y11, h9, e9⟩ := adE2 h
    clear h
    subst e9
    have h := h9
    clear h9
    refine nwE h ?_
    clear h
    intro r12 L13 e_r12 e_L13 h
    have hk1 := bd1 hb
    have hn1 := bd2 hb
    replace hb := bdA hb
    refine wn_clone (Z := (S, L)) (pc := 7) (t := 1) e_r12 e_L13 hl10 e_vs9 (dK D_Ars_copyOf3 5 rfl) (ltK rfl) rfl q_1330 q_1331 q_975 q_976 q_1332 (List.mem_of_getElem? (i := 6) rfl) (leK rfl) (leK rfl) hk1 hn1 ?_
    refine gdE h ?_
    clear h
    intro hk14 h
    refine wx_castA (Z := (S, L13)) (pc := 10) (t := 1) hk14 (dK D_Ars_copyOf3 6 rfl) q_1334 (ltK rfl) rfl ?_
    obtain rfl := Option.some.inj h
    exact wk_aret (pc := 13) (.inr ⟨_, rfl⟩) (dK D_Ars_copyOf3 7 rfl) rfl (by first | exact .inl ⟨_, rfl⟩ | exact .inr ⟨_, rfl⟩) (bdk hb) (bdn hb) ⟨rfl, (.inr ⟨_, rfl⟩), rfl⟩
theorem tg_Ars_copyOf3 {sc : SC} {c0 : Nat} {a1 : Int} (ha1 : inR a1) {S : St} {L : List PC} {q : (Value × LZ) × Nat × Nat} (h : gn_Ars_copyOf3 c0 a1 S L = some q) : EvX sc M_Ars_copyOf3 [.ref c0, V a1] (wz (S, L)) q.2.1 q.2.2 (KXR q.1.1 q.1.2) := EvX.of pn2_Ars rfl (leK rfl) (te_Ars_copyOf3 ha1 h ⟨Nat.le_of_eq (Nat.zero_add _), Nat.le_of_eq (Nat.zero_add _)⟩)
def gn_ASB_ensureCapacityInternal (c0 : Nat) (a1 : Int) (S : St) (L : List PC) : Option ((LZ) × Nat × Nat) := bnO (gfV L c0 15 0) fun v1 => rfB v1 fun r2 => bnO (alm L r2) fun v3 => bnO (gfI L c0 15 1) fun v4 => nm (wr (a1 - (i_shr v3 v4))) fun v5 => if v5 ≤ 0 then (some ((S, L), 0, 0)) else (bnO (gfV L c0 15 0) fun v6 => if isK L c0 15 = true then (bnO (gn_ASB_newCapacity c0 a1 S L) fun p7 => bnO (gfI L c0 15 1) fun v9 => rfB v6 fun r10 => bnO (gn_Ars_copyOf3 r10 (i_shl p7 v9) S L) fun p11 => adC p11.2.1 p11.2.2 (bnO (pf p11.1.2.2 c0 15 0 (p11.1.1)) fun L12 => some ((p11.1.2.1, L12), 0, 0))) else none)
theorem te_ASB_ensureCapacityInternal {sc : SC} {c0 : Nat} {a1 : Int} (ha1 : inR a1) {S : St} {L : List PC} {q : (LZ) × Nat × Nat} (h : gn_ASB_ensureCapacityInternal c0 a1 S L = some q) {mc ms k n : Nat} (hb : Bd k n mc ms q) : GX sc M_ASB_ensureCapacityInternal mc ms 0 [(0, .ref c0), (1, V a1)] [] (wz (S, L)) k n (KXU q.1) := by
  unfold gn_ASB_ensureCapacityInternal at h
  refine x_aloadn (pc := 0) (i0 := 0) (j := 0) (dK D_ASB_ensureCapacityInternal 0 rfl) rfl rfl ?_
  refine bnE h ?_
  clear h
  intro v1 e_v1 h
  refine wx_getV (pc := 1) (ci := 15) (f := 0) e_v1 (dK D_ASB_ensureCapacityInternal 1 rfl) q_1292 (ltK rfl) (ltK rfl) (fun hv1 => ?_)
  refine rfE h ?_
  clear h
  intro r2 e_r2 h
  rw [e_r2]
  refine bnE h ?_
  clear h
  intro v3 e_v3 h
  refine wx_alm (pc := 4) e_v3 (dK D_ASB_ensureCapacityInternal 2 rfl) (fun i_v3 => ?_)
  refine x_aloadn (pc := 5) (i0 := 0) (j := 0) (dK D_ASB_ensureCapacityInternal 3 rfl) rfl rfl ?_
  refine bnE h ?_
  clear h
  intro v4 e_v4 h
  refine wx_getI (pc := 6) (ci := 15) (f := 1) e_v4 (dK D_ASB_ensureCapacityInternal 4 rfl) q_1293 (ltK rfl) (ltK rfl) ?_
  refine wx_ishr (pc := 9) (dK D_ASB_ensureCapacityInternal 5 rfl) ?_
  refine x_istoren (pc := 10) (i0 := 2) (ls2 := [(2, V (i_shr v3 v4)), (0, .ref c0), (1, V a1)]) (dK D_ASB_ensureCapacityInternal 6 rfl) rfl (ltK rfl) rfl ?_
  refine x_iloadn (pc := 11) (i0 := 1) (j := 2) (dK D_ASB_ensureCapacityInternal 7 rfl) rfl rfl ?_
  refine x_iloadn (pc := 12) (i0 := 2) (j := 0) (dK D_ASB_ensureCapacityInternal 8 rfl) rfl rfl ?_
  refine wx_isub (pc := 13) (dK D_ASB_ensureCapacityInternal 9 rfl) ?_
  refine nmE h ?_
  clear h
  intro v5 e_v5 h
  refine wtop e_v5 ?_
  refine wx_if_le (pc := 14) (t := 38) (dK D_ASB_ensureCapacityInternal 10 rfl) rfl (Vn_in e_v5) (fun hc13 => ?_) (fun hc13 => ?_)
  · replace h := ifP h hc13
    obtain rfl := Option.some.inj h
    exact wk_ret (pc := 38) (dK D_ASB_ensureCapacityInternal 22 rfl) rfl (bdk hb) (bdn hb) ⟨rfl, rfl⟩
  · replace h := ifN h hc13
    refine x_aloadn (pc := 17) (i0 := 0) (j := 1) (dK D_ASB_ensureCapacityInternal 11 rfl) rfl rfl ?_
    refine x_aloadn (pc := 18) (i0 := 0) (j := 1) (dK D_ASB_ensureCapacityInternal 12 rfl) rfl rfl ?_
    refine bnE h ?_
    clear h
    intro v6 e_v6 h
    refine wx_getV (pc := 19) (ci := 15) (f := 0) e_v6 (dK D_ASB_ensureCapacityInternal 13 rfl) q_1292 (ltK rfl) (ltK rfl) (fun hv6 => ?_)
    refine x_aloadn (pc := 22) (i0 := 0) (j := 1) (dK D_ASB_ensureCapacityInternal 14 rfl) rfl rfl ?_
    refine x_iloadn (pc := 23) (i0 := 1) (j := 2) (dK D_ASB_ensureCapacityInternal 15 rfl) rfl rfl ?_
    refine gdE h ?_
    clear h
    intro hk8 h
    refine bnE h ?_
    clear h
    intro p7 e_p7 h
    refine x_callX (pc := 24) (As := [V a1]) (rest := [v6, .ref c0]) (mc' := 0) (ms' := 0) (dK D_ASB_ensureCapacityInternal 16 rfl) Q_ASB_104 sx_ASB_newCapacity (fitK rfl) (isK_at (Z := (S, L)) (ci := 15) hk8) rfl (by simp only [List.map_cons, List.map_nil, cato hv6]; exact leK rfl) (bdk hb) (bdn hb) (tg_ASB_newCapacity ha1 e_p7) (kxI' (fun h_p7 => ?_))
    refine x_aloadn (pc := 27) (i0 := 0) (j := 1) (dK D_ASB_ensureCapacityInternal 17 rfl) rfl rfl ?_
    refine bnE h ?_
    clear h
    intro v9 e_v9 h
    refine wx_getI (pc := 28) (ci := 15) (f := 1) e_v9 (dK D_ASB_ensureCapacityInternal 18 rfl) q_1293 (ltK rfl) (ltK rfl) ?_
    refine wx_ishl (pc := 31) (dK D_ASB_ensureCapacityInternal 19 rfl) ?_
    refine rfE h ?_
    clear h
    intro r10 e_r10 h
    rw [e_r10]
    refine bnE h ?_
    clear h
    intro p11 e_p11 h
    obtain ⟨yp11, h9, e9⟩ := adE2 h
    clear h
    subst e9
    have h := h9
    clear h9
    have hk1 := bd1 hb
    have hn1 := bd2 hb
    replace hb := bdA hb
    refine x_callS (pc := 32) (As := [.ref r10, V (i_shl p7 v9)]) (rest := [.ref c0]) (mc' := p11.2.1) (ms' := p11.2.2) (dK D_ASB_ensureCapacityInternal 20 rfl) Q_ASB_108 (fitK rfl) rfl (leK rfl) hk1 hn1 (tg_Ars_copyOf3 (toInt_in _) e_p11) (kxR (fun h_p11 => ?_))
    refine bnE h ?_
    clear h
    intro L12 e_L12 h
    refine wx_put (Z := (p11.1.2.1, p11.1.2.2)) (pc := 35) (ci := 15) (f := 0) e_L12 (dK D_ASB_ensureCapacityInternal 21 rfl) q_1292 (ltK rfl) (ltK rfl) rfl (okArr h_p11) ?_
    obtain rfl := Option.some.inj h
    exact wk_ret (pc := 38) (dK D_ASB_ensureCapacityInternal 22 rfl) rfl (bdk hb) (bdn hb) ⟨rfl, rfl⟩
theorem tg_ASB_ensureCapacityInternal {sc : SC} {c0 : Nat} {a1 : Int} (ha1 : inR a1) {S : St} {L : List PC} {q : (LZ) × Nat × Nat} (h : gn_ASB_ensureCapacityInternal c0 a1 S L = some q) : EvX sc M_ASB_ensureCapacityInternal [.ref c0, V a1] (wz (S, L)) q.2.1 q.2.2 (KXU q.1) := EvX.of pn2_ASB rfl (leK rfl) (te_ASB_ensureCapacityInternal ha1 h ⟨Nat.le_of_eq (Nat.zero_add _), Nat.le_of_eq (Nat.zero_add _)⟩)
def gn_ASB_inflateIfNeededFor (c0 : Nat) (c1 : Nat) (S : St) (L : List PC) : Option (Unit) := bnO (gfI L c0 15 1) fun v1 => if isK L c1 16 = true then (bnO (gn_String_coder c1 S L) fun p2 => if v1 = p2 then (some ()) else none) else none
theorem te_ASB_inflateIfNeededFor {sc : SC} {c0 : Nat} {c1 : Nat} {S : St} {L : List PC} {q : Unit} (h : gn_ASB_inflateIfNeededFor c0 c1 S L = some q) {mc ms k n : Nat} (hk0 : k ≤ mc) (hn0 : n ≤ ms) : GX sc M_ASB_inflateIfNeededFor mc ms 0 [(0, .ref c0), (1, .ref c1)] [] (wz (S, L)) k n (KXU (S, L)) := by
  unfold gn_ASB_inflateIfNeededFor at h
  refine x_gs_compact (pc := 0) (dK D_ASB_inflateIfNeededFor 0 rfl) q_1284 ?_
  refine wsk (st' := [V 1]) rfl ?_
  refine wx_if_eq (pc := 3) (t := 21) (dK D_ASB_inflateIfNeededFor 1 rfl) rfl (inRk rfl) (fun hc => absurd hc (by decide)) (fun _ => ?_)
  refine x_aloadn (pc := 6) (i0 := 0) (j := 0) (dK D_ASB_inflateIfNeededFor 2 rfl) rfl rfl ?_
  refine bnE h ?_
  clear h
  intro v1 e_v1 h
  refine wx_getI (pc := 7) (ci := 15) (f := 1) e_v1 (dK D_ASB_inflateIfNeededFor 3 rfl) q_1293 (ltK rfl) (ltK rfl) ?_
  refine x_aloadn (pc := 10) (i0 := 1) (j := 1) (dK D_ASB_inflateIfNeededFor 4 rfl) rfl rfl ?_
  refine gdE h ?_
  clear h
  intro hk3 h
  refine bnE h ?_
  clear h
  intro p2 e_p2 h
  refine x_callX (pc := 11) (As := []) (rest := [V v1]) (mc' := 0) (ms' := 0) (dK D_ASB_inflateIfNeededFor 5 rfl) Q_ASB_40 sx_String_coder (fitK rfl) (isK_at (Z := (S, L)) (ci := 16) hk3) rfl (leK rfl) hk0 hn0 (tg_String_coder  e_p2) (kxI' (fun h_p2 => ?_))
  refine wx_icmp_eq (pc := 14) (t := 21) (dK D_ASB_inflateIfNeededFor 6 rfl) rfl (vI_at e_v1).2 h_p2 (fun hc4 => ?_) (fun hc4 => ?_)
  · replace h := ifP h hc4
    exact wk_ret (pc := 21) (dK D_ASB_inflateIfNeededFor 9 rfl) rfl hk0 hn0 ⟨rfl, rfl⟩
  · replace h := ifN h hc4
    exact nomatch h
theorem tg_ASB_inflateIfNeededFor {sc : SC} {c0 : Nat} {c1 : Nat} {S : St} {L : List PC} {q : Unit} (h : gn_ASB_inflateIfNeededFor c0 c1 S L = some q) : EvX sc M_ASB_inflateIfNeededFor [.ref c0, .ref c1] (wz (S, L)) 0 0 (KXU (S, L)) := EvX.of pn2_ASB rfl (leK rfl) (te_ASB_inflateIfNeededFor  h (Nat.le_refl _) (Nat.le_refl _))
def gn_String_getBytes (c0 : Nat) (c1 : Nat) (a2 : Int) (a3 : Int) (S : St) (L : List PC) : Option ((LZ) × Nat × Nat) := if isK L c0 16 = true then (bnO (gn_String_coder c0 S L) fun p1 => if p1 = a3 then (bnO (gfV L c0 16 0) fun v3 => bnO (gfV L c0 16 0) fun v4 => rfB v4 fun r5 => bnO (alm L r5) fun v6 => rfB v3 fun r7 => bnO (cpB L r7 0 c1 (i_shl a2 a3) v6) fun L8 => some ((S, L8), 0, 0)) else none) else none
theorem te_String_getBytes {sc : SC} {c0 : Nat} {c1 : Nat} {a2 : Int} (ha2 : inR a2) {a3 : Int} (ha3 : inR a3) {S : St} {L : List PC} {q : (LZ) × Nat × Nat} (h : gn_String_getBytes c0 c1 a2 a3 S L = some q) {mc ms k n : Nat} (hb : Bd k n mc ms q) : GX sc M_String_getBytes mc ms 0 [(0, .ref c0), (1, .ref c1), (2, V a2), (3, V a3)] [] (wz (S, L)) k n (KXU q.1) := by
  unfold gn_String_getBytes at h
  refine x_aloadn (pc := 0) (i0 := 0) (j := 0) (dK D_String_getBytes 0 rfl) rfl rfl ?_
  refine gdE h ?_
  clear h
  intro hk2 h
  refine bnE h ?_
  clear h
  intro p1 e_p1 h
  refine x_callX (pc := 1) (As := []) (rest := []) (mc' := 0) (ms' := 0) (dK D_String_getBytes 1 rfl) Q_String_335 sx_String_coder (fitK rfl) (isK_at (Z := (S, L)) (ci := 16) hk2) rfl (leK rfl) (bdk hb) (bdn hb) (tg_String_coder  e_p1) (kxI' (fun h_p1 => ?_))
  refine x_iloadn (pc := 4) (i0 := 3) (j := 3) (dK D_String_getBytes 2 rfl) rfl rfl ?_
  refine wx_icmp_ne (pc := 5) (t := 28) (dK D_String_getBytes 3 rfl) rfl h_p1 ha3 (fun hc9 => ?_) (fun hc9 => ?_)
  · replace h := ifN h hc9
    exact nomatch h
  · replace h := ifP h hc9
    refine x_aloadn (pc := 8) (i0 := 0) (j := 0) (dK D_String_getBytes 4 rfl) rfl rfl ?_
    refine bnE h ?_
    clear h
    intro v3 e_v3 h
    refine wx_getV (pc := 9) (ci := 16) (f := 0) e_v3 (dK D_String_getBytes 5 rfl) q_1460 (ltK rfl) (ltK rfl) (fun hv3 => ?_)
    refine wx_iconst (pc := 12) (dK D_String_getBytes 6 rfl) ?_
    refine x_aloadn (pc := 13) (i0 := 1) (j := 1) (dK D_String_getBytes 7 rfl) rfl rfl ?_
    refine x_iloadn (pc := 14) (i0 := 2) (j := 2) (dK D_String_getBytes 8 rfl) rfl rfl ?_
    refine x_iloadn (pc := 15) (i0 := 3) (j := 3) (dK D_String_getBytes 9 rfl) rfl rfl ?_
    refine wx_ishl (pc := 16) (dK D_String_getBytes 10 rfl) ?_
    refine x_aloadn (pc := 17) (i0 := 0) (j := 0) (dK D_String_getBytes 11 rfl) rfl rfl ?_
    refine bnE h ?_
    clear h
    intro v4 e_v4 h
    refine wx_getV (pc := 18) (ci := 16) (f := 0) e_v4 (dK D_String_getBytes 12 rfl) q_1460 (ltK rfl) (ltK rfl) (fun hv4 => ?_)
    refine rfE h ?_
    clear h
    intro r5 e_r5 h
    rw [e_r5]
    refine bnE h ?_
    clear h
    intro v6 e_v6 h
    refine wx_alm (pc := 21) e_v6 (dK D_String_getBytes 13 rfl) (fun i_v6 => ?_)
    refine rfE h ?_
    clear h
    intro r7 e_r7 h
    rw [e_r7]
    refine bnE h ?_
    clear h
    intro L8 e_L8 h
    refine wx_copyB (Z := (S, L)) (pc := 22) e_L8 (inRk rfl) (toInt_in _) i_v6 (dK D_String_getBytes 14 rfl) q_1388 (leK rfl) (leK rfl) ?_
    refine x_goto (pc := 25) (tgt := 43) (dK D_String_getBytes 15 rfl) rfl ?_
    obtain rfl := Option.some.inj h
    exact wk_ret (pc := 43) (dK D_String_getBytes 25 rfl) rfl (bdk hb) (bdn hb) ⟨rfl, rfl⟩
theorem tg_String_getBytes {sc : SC} {c0 : Nat} {c1 : Nat} {a2 : Int} (ha2 : inR a2) {a3 : Int} (ha3 : inR a3) {S : St} {L : List PC} {q : (LZ) × Nat × Nat} (h : gn_String_getBytes c0 c1 a2 a3 S L = some q) : EvX sc M_String_getBytes [.ref c0, .ref c1, V a2, V a3] (wz (S, L)) q.2.1 q.2.2 (KXU q.1) := EvX.of pn2_String rfl (leK rfl) (te_String_getBytes ha2 ha3 h ⟨Nat.le_of_eq (Nat.zero_add _), Nat.le_of_eq (Nat.zero_add _)⟩)
def gn_ASB_putStringAt (c0 : Nat) (a1 : Int) (c2 : Nat) (S : St) (L : List PC) : Option ((LZ) × Nat × Nat) := if isK L c0 15 = true then (bnO (gn_ASB_inflateIfNeededFor c0 c2 S L) fun p1 => bnO (gfV L c0 15 0) fun v3 => bnO (gfI L c0 15 1) fun v4 => rfB v3 fun r5 => if isK L c2 16 = true then (bnO (gn_String_getBytes c2 r5 a1 v4 S L) fun p6 => adC p6.2.1 p6.2.2 (some ((p6.1.1, p6.1.2), 0, 0))) else none) else none
theorem te_ASB_putStringAt {sc : SC} {c0 : Nat} {a1 : Int} (ha1 : inR a1) {c2 : Nat} {S : St} {L : List PC} {q : (LZ) × Nat × Nat} (h : gn_ASB_putStringAt c0 a1 c2 S L = some q) {mc ms k n : Nat} (hb : Bd k n mc ms q) : GX sc M_ASB_putStringAt mc ms 0 [(0, .ref c0), (1, V a1), (2, .ref c2)] [] (wz (S, L)) k n (KXU q.1) := by
  unfold gn_ASB_putStringAt at h
  refine x_aloadn (pc := 0) (i0 := 0) (j := 0) (dK D_ASB_putStringAt 0 rfl) rfl rfl ?_
  refine x_aloadn (pc := 1) (i0 := 2) (j := 2) (dK D_ASB_putStringAt 1 rfl) rfl rfl ?_
  refine gdE h ?_
  clear h
  intro hk2 h
  refine bnE h ?_
  clear h
  intro p1 e_p1 h
  refine x_callX (pc := 2) (As := [.ref c2]) (rest := []) (mc' := 0) (ms' := 0) (dK D_ASB_putStringAt 2 rfl) Q_ASB_397 sx_ASB_inflateIfNeededFor (fitK rfl) (isK_at (Z := (S, L)) (ci := 15) hk2) rfl (leK rfl) (bdk hb) (bdn hb) (tg_ASB_inflateIfNeededFor  e_p1) (kxU ?_)
  refine x_aloadn (pc := 5) (i0 := 2) (j := 2) (dK D_ASB_putStringAt 3 rfl) rfl rfl ?_
  refine x_aloadn (pc := 6) (i0 := 0) (j := 0) (dK D_ASB_putStringAt 4 rfl) rfl rfl ?_
  refine bnE h ?_
  clear h
  intro v3 e_v3 h
  refine wx_getV (pc := 7) (ci := 15) (f := 0) e_v3 (dK D_ASB_putStringAt 5 rfl) q_1292 (ltK rfl) (ltK rfl) (fun hv3 => ?_)
  refine x_iloadn (pc := 10) (i0 := 1) (j := 1) (dK D_ASB_putStringAt 6 rfl) rfl rfl ?_
  refine x_aloadn (pc := 11) (i0 := 0) (j := 0) (dK D_ASB_putStringAt 7 rfl) rfl rfl ?_
  refine bnE h ?_
  clear h
  intro v4 e_v4 h
  refine wx_getI (pc := 12) (ci := 15) (f := 1) e_v4 (dK D_ASB_putStringAt 8 rfl) q_1293 (ltK rfl) (ltK rfl) ?_
  refine rfE h ?_
  clear h
  intro r5 e_r5 h
  rw [e_r5]
  refine gdE h ?_
  clear h
  intro hk7 h
  refine bnE h ?_
  clear h
  intro p6 e_p6 h
  obtain ⟨yp6, h9, e9⟩ := adE2 h
  clear h
  subst e9
  have h := h9
  clear h9
  have hk1 := bd1 hb
  have hn1 := bd2 hb
  replace hb := bdA hb
  refine x_callX (pc := 15) (As := [.ref r5, V a1, V v4]) (rest := []) (mc' := p6.2.1) (ms' := p6.2.2) (dK D_ASB_putStringAt 9 rfl) Q_ASB_399 sx_String_getBytes (fitK rfl) (isK_at (Z := (S, L)) (ci := 16) hk7) rfl (leK rfl) hk1 hn1 (tg_String_getBytes ha1 (vI_at e_v4).2 e_p6) (kxU ?_)
  obtain rfl := Option.some.inj h
  exact wk_ret (pc := 18) (dK D_ASB_putStringAt 10 rfl) rfl (bdk hb) (bdn hb) ⟨rfl, rfl⟩
theorem tg_ASB_putStringAt {sc : SC} {c0 : Nat} {a1 : Int} (ha1 : inR a1) {c2 : Nat} {S : St} {L : List PC} {q : (LZ) × Nat × Nat} (h : gn_ASB_putStringAt c0 a1 c2 S L = some q) : EvX sc M_ASB_putStringAt [.ref c0, V a1, .ref c2] (wz (S, L)) q.2.1 q.2.2 (KXU q.1) := EvX.of pn2_ASB rfl (leK rfl) (te_ASB_putStringAt ha1 h ⟨Nat.le_of_eq (Nat.zero_add _), Nat.le_of_eq (Nat.zero_add _)⟩)
def gn_ASB_append (c0 : Nat) (c1 : Nat) (S : St) (L : List PC) : Option ((Value × LZ) × Nat × Nat) := if isK L c1 16 = true then (bnO (gn_String_length c1 S L) fun p1 => bnO (gfI L c0 15 3) fun v3 => nm (wr (v3 + p1)) fun v4 => if isK L c0 15 = true then (bnO (gn_ASB_ensureCapacityInternal c0 v4 S L) fun p5 => adC p5.2.1 p5.2.2 (bnO (gfI p5.1.2 c0 15 3) fun v7 => if isK p5.1.2 c0 15 = true then (bnO (gn_ASB_putStringAt c0 v7 c1 p5.1.1 p5.1.2) fun p8 => adC p8.2.1 p8.2.2 (bnO (gfI p8.1.2 c0 15 3) fun v10 => nm (wr (v10 + p1)) fun v11 => bnO (pf p8.1.2 c0 15 3 (V v11)) fun L12 => some (((.ref c0), (p8.1.1, L12)), 0, 0))) else none)) else none) else none
theorem te_ASB_append {sc : SC} {c0 : Nat} {c1 : Nat} {S : St} {L : List PC} {q : (Value × LZ) × Nat × Nat} (h : gn_ASB_append c0 c1 S L = some q) {mc ms k n : Nat} (hb : Bd k n mc ms q) : GX sc M_ASB_append mc ms 0 [(0, .ref c0), (1, .ref c1)] [] (wz (S, L)) k n (KXR q.1.1 q.1.2) := by
  unfold gn_ASB_append at h
  refine x_aloadn (pc := 0) (i0 := 1) (j := 1) (dK D_ASB_append 0 rfl) rfl rfl ?_
  refine wx_ref1 (pc := 1) (tgt := 9) (dK D_ASB_append 1 rfl) rfl ?_
  refine x_aloadn (pc := 9) (i0 := 1) (j := 1) (dK D_ASB_append 5 rfl) rfl rfl ?_
  refine gdE h ?_
  clear h
  intro hk2 h
  refine bnE h ?_
  clear h
  intro p1 e_p1 h
  refine x_callX (pc := 10) (As := []) (rest := []) (mc' := 0) (ms' := 0) (dK D_ASB_append 6 rfl) Q_ASB_32 sx_String_length (fitK rfl) (isK_at (Z := (S, L)) (ci := 16) hk2) rfl (leK rfl) (bdk hb) (bdn hb) (tg_String_length  e_p1) (kxI' (fun h_p1 => ?_))
  refine x_istoren (pc := 13) (i0 := 2) (ls2 := [(2, V p1), (0, .ref c0), (1, .ref c1)]) (dK D_ASB_append 7 rfl) rfl (ltK rfl) rfl ?_
  refine x_aloadn (pc := 14) (i0 := 0) (j := 1) (dK D_ASB_append 8 rfl) rfl rfl ?_
  refine x_aloadn (pc := 15) (i0 := 0) (j := 1) (dK D_ASB_append 9 rfl) rfl rfl ?_
  refine bnE h ?_
  clear h
  intro v3 e_v3 h
  refine wx_getI (pc := 16) (ci := 15) (f := 3) e_v3 (dK D_ASB_append 10 rfl) q_1295 (ltK rfl) (ltK rfl) ?_
  refine x_iloadn (pc := 19) (i0 := 2) (j := 0) (dK D_ASB_append 11 rfl) rfl rfl ?_
  refine wx_iadd (pc := 20) (dK D_ASB_append 12 rfl) ?_
  refine nmE h ?_
  clear h
  intro v4 e_v4 h
  refine wtop e_v4 ?_
  refine gdE h ?_
  clear h
  intro hk6 h
  refine bnE h ?_
  clear h
  intro p5 e_p5 h
  obtain ⟨yp5, h9, e9⟩ := adE2 h
  clear h
  subst e9
  have h := h9
  clear h9
  have hk1 := bd1 hb
  have hn1 := bd2 hb
  replace hb := bdA hb
  refine x_callX (pc := 21) (As := [V v4]) (rest := []) (mc' := p5.2.1) (ms' := p5.2.2) (dK D_ASB_append 13 rfl) Q_ASB_100 sx_ASB_ensureCapacityInternal (fitK rfl) (isK_at (Z := (S, L)) (ci := 15) hk6) rfl (leK rfl) hk1 hn1 (tg_ASB_ensureCapacityInternal (Vn_in e_v4) e_p5) (kxU ?_)
  refine x_aloadn (pc := 24) (i0 := 0) (j := 1) (dK D_ASB_append 14 rfl) rfl rfl ?_
  refine x_aloadn (pc := 25) (i0 := 0) (j := 1) (dK D_ASB_append 15 rfl) rfl rfl ?_
  refine bnE h ?_
  clear h
  intro v7 e_v7 h
  refine wx_getI (pc := 26) (ci := 15) (f := 3) e_v7 (dK D_ASB_append 16 rfl) q_1295 (ltK rfl) (ltK rfl) ?_
  refine x_aloadn (pc := 29) (i0 := 1) (j := 2) (dK D_ASB_append 17 rfl) rfl rfl ?_
  refine gdE h ?_
  clear h
  intro hk9 h
  refine bnE h ?_
  clear h
  intro p8 e_p8 h
  obtain ⟨yp8, h9, e9⟩ := adE2 h
  clear h
  subst e9
  have h := h9
  clear h9
  have hk1 := bd1 hb
  have hn1 := bd2 hb
  replace hb := bdA hb
  refine x_callX (pc := 30) (As := [V v7, .ref c1]) (rest := []) (mc' := p8.2.1) (ms' := p8.2.2) (dK D_ASB_append 18 rfl) Q_ASB_208 sx_ASB_putStringAt (fitK rfl) (isK_at (Z := (p5.1.1, p5.1.2)) (ci := 15) hk9) rfl (leK rfl) hk1 hn1 (tg_ASB_putStringAt (vI_at e_v7).2 e_p8) (kxU ?_)
  refine x_aloadn (pc := 33) (i0 := 0) (j := 1) (dK D_ASB_append 19 rfl) rfl rfl ?_
  refine x_dup (pc := 34) (dK D_ASB_append 20 rfl) rfl ?_
  refine bnE h ?_
  clear h
  intro v10 e_v10 h
  refine wx_getI (pc := 35) (ci := 15) (f := 3) e_v10 (dK D_ASB_append 21 rfl) q_1295 (ltK rfl) (ltK rfl) ?_
  refine x_iloadn (pc := 38) (i0 := 2) (j := 0) (dK D_ASB_append 22 rfl) rfl rfl ?_
  refine wx_iadd (pc := 39) (dK D_ASB_append 23 rfl) ?_
  refine nmE h ?_
  clear h
  intro v11 e_v11 h
  refine wtop e_v11 ?_
  refine bnE h ?_
  clear h
  intro L12 e_L12 h
  refine wx_put (Z := (p8.1.1, p8.1.2)) (pc := 40) (ci := 15) (f := 3) e_L12 (dK D_ASB_append 24 rfl) q_1295 (ltK rfl) (ltK rfl) rfl okInt ?_
  refine x_aloadn (pc := 43) (i0 := 0) (j := 1) (dK D_ASB_append 25 rfl) rfl rfl ?_
  obtain rfl := Option.some.inj h
  exact wk_aret (pc := 44) (.inr ⟨_, rfl⟩) (dK D_ASB_append 26 rfl) rfl (by first | exact .inl ⟨_, rfl⟩ | exact .inr ⟨_, rfl⟩) (bdk hb) (bdn hb) ⟨rfl, (.inr ⟨_, rfl⟩), rfl⟩
theorem tg_ASB_append {sc : SC} {c0 : Nat} {c1 : Nat} {S : St} {L : List PC} {q : (Value × LZ) × Nat × Nat} (h : gn_ASB_append c0 c1 S L = some q) : EvX sc M_ASB_append [.ref c0, .ref c1] (wz (S, L)) q.2.1 q.2.2 (KXR q.1.1 q.1.2) := EvX.of pn2_ASB rfl (leK rfl) (te_ASB_append  h ⟨Nat.le_of_eq (Nat.zero_add _), Nat.le_of_eq (Nat.zero_add _)⟩)
def gn_SB_append (c0 : Nat) (c1 : Nat) (S : St) (L : List PC) : Option ((Value × LZ) × Nat × Nat) := if isK L c0 15 = true then (bnO (gn_ASB_append c0 c1 S L) fun p1 => adC p1.2.1 p1.2.2 (some (((.ref c0), (p1.1.2.1, p1.1.2.2)), 0, 0))) else none
theorem te_SB_append {sc : SC} {c0 : Nat} {c1 : Nat} {S : St} {L : List PC} {q : (Value × LZ) × Nat × Nat} (h : gn_SB_append c0 c1 S L = some q) {mc ms k n : Nat} (hb : Bd k n mc ms q) : GX sc M_SB_append mc ms 0 [(0, .ref c0), (1, .ref c1)] [] (wz (S, L)) k n (KXR q.1.1 q.1.2) := by
  unfold gn_SB_append at h
  refine x_aloadn (pc := 0) (i0 := 0) (j := 0) (dK D_SB_append 0 rfl) rfl rfl ?_
  refine x_aloadn (pc := 1) (i0 := 1) (j := 1) (dK D_SB_append 1 rfl) rfl rfl ?_
  refine gdE h ?_
  clear h
  intro hk2 h
  refine bnE h ?_
  clear h
  intro p1 e_p1 h
  obtain ⟨yp1, h9, e9⟩ := adE2 h
  clear h
  subst e9
  have h := h9
  clear h9
  have hk1 := bd1 hb
  have hn1 := bd2 hb
  replace hb := bdA hb
  refine x_callSU (pc := 2) (As := [.ref c1]) (rest := []) (mc' := p1.2.1) (ms' := p1.2.2) (C := "java/lang/StringBuilder") (dK D_SB_append 2 rfl) Q_SB_29 q_2088 q_1304 (by decide) q_1276 (fitK rfl) (isK_at (Z := (S, L)) (ci := 15) hk2) rfl (leK rfl) hk1 hn1 (tg_ASB_append  e_p1) (kxR (fun h_p1 => ?_))
  refine x_pop (pc := 5) (dK D_SB_append 3 rfl) (cato h_p1) ?_
  refine x_aloadn (pc := 6) (i0 := 0) (j := 0) (dK D_SB_append 4 rfl) rfl rfl ?_
  obtain rfl := Option.some.inj h
  exact wk_aret (pc := 7) (.inr ⟨_, rfl⟩) (dK D_SB_append 5 rfl) rfl (by first | exact .inl ⟨_, rfl⟩ | exact .inr ⟨_, rfl⟩) (bdk hb) (bdn hb) ⟨rfl, (.inr ⟨_, rfl⟩), rfl⟩
theorem tg_SB_append {sc : SC} {c0 : Nat} {c1 : Nat} {S : St} {L : List PC} {q : (Value × LZ) × Nat × Nat} (h : gn_SB_append c0 c1 S L = some q) : EvX sc M_SB_append [.ref c0, .ref c1] (wz (S, L)) q.2.1 q.2.2 (KXR q.1.1 q.1.2) := EvX.of pn2_SB rfl (leK rfl) (te_SB_append  h ⟨Nat.le_of_eq (Nat.zero_add _), Nat.le_of_eq (Nat.zero_add _)⟩)
def lb2_Integer_stringSize_16 (a0 : Int) (a1 : Int) (S : St) (L : List PC) (go : Int × Int → Option ((Int) ⊕ (Unit))) (a2 : Int) (a3 : Int) : Option ((Int) ⊕ (Unit)) := if 10 ≤ a3 then (some (.inr ())) else (if a0 ≤ a2 then (nm (wr (10 * a2)) fun v1 => nm (wr (a3 + 1)) fun v2 => go (v1, v2)) else (nm (wr (a3 + a1)) fun v3 => some (.inl v3)))
def lo2_Integer_stringSize_16 (a0 : Int) (a1 : Int) (S : St) (L : List PC) : Nat → Int × Int → Option ((Int) ⊕ (Unit)) := lp fun go p => lb2_Integer_stringSize_16 a0 a1 S L go p.1 p.2
theorem tl2_Integer_stringSize_16 {sc : SC} {a0 : Int} (ha0 : inR a0) {a1 : Int} (ha1 : inR a1) {K : Option Value → List PC → Prop} {S : St} {L : List PC} {mc ms k n : Nat} (hk0 : k ≤ mc) (hn0 : n ≤ ms) : ∀ (N : Nat) (a : Int × Int) (q : (Int) ⊕ (Unit)), lo2_Integer_stringSize_16 a0 a1 S L N a = some q → inR a.1 → inR a.2 → (∀ e, q = .inr e → GX sc M_Integer_stringSize mc ms 42 [(1, V a1)] [] (wz (S, L)) k n K) → (∀ r, q = .inl r → inR r → K (some (V r)) (wz (S, L))) → GX sc M_Integer_stringSize mc ms 16 [(0, V a0), (1, V a1), (2, V a.1), (3, V a.2)] [] (wz (S, L)) k n K := by
  refine lp_ind2 (P := fun (a : Int × Int) (q : (Int) ⊕ (Unit)) => inR a.1 → inR a.2 → (∀ e, q = .inr e → GX sc M_Integer_stringSize mc ms 42 [(1, V a1)] [] (wz (S, L)) k n K) → (∀ r, q = .inl r → inR r → K (some (V r)) (wz (S, L))) → GX sc M_Integer_stringSize mc ms 16 [(0, V a0), (1, V a1), (2, V a.1), (3, V a.2)] [] (wz (S, L)) k n K) (fun go ih a q h => ?_)
  obtain ⟨a2, a3⟩ := a
  intro ha2 ha3 hx hr
  show GX sc M_Integer_stringSize mc ms 16 [(0, V a0), (1, V a1), (2, V a2), (3, V a3)] [] (wz (S, L)) k n K
  replace h : lb2_Integer_stringSize_16 a0 a1 S L go a2 a3 = some q := h
  unfold lb2_Integer_stringSize_16 at h
  refine x_iloadn (pc := 16) (i0 := 3) (j := 3) (dK D_Integer_stringSize 13 rfl) rfl rfl ?_
  refine wx_bipush (pc := 17) (dK D_Integer_stringSize 14 rfl) rfl ?_
  refine wx_icmp_ge (pc := 19) (t := 42) (dK D_Integer_stringSize 15 rfl) rfl ha3 (inRk rfl) (fun hc5 => ?_) (fun hc5 => ?_)
  · replace h := ifP h hc5
    obtain rfl := Option.some.inj h
    refine x_weak (ls' := [(1, V a1)]) (sbc 1 rfl sbn) ?_
    exact hx () rfl
  · replace h := ifN h hc5
    refine x_iloadn (pc := 22) (i0 := 0) (j := 0) (dK D_Integer_stringSize 16 rfl) rfl rfl ?_
    refine x_iloadn (pc := 23) (i0 := 2) (j := 2) (dK D_Integer_stringSize 17 rfl) rfl rfl ?_
    refine wx_icmp_le (pc := 24) (t := 31) (dK D_Integer_stringSize 18 rfl) rfl ha0 ha2 (fun hc4 => ?_) (fun hc4 => ?_)
    · replace h := ifP h hc4
      refine wx_bipush (pc := 31) (dK D_Integer_stringSize 23 rfl) rfl ?_
      refine x_iloadn (pc := 33) (i0 := 2) (j := 2) (dK D_Integer_stringSize 24 rfl) rfl rfl ?_
      refine wx_imul (pc := 34) (dK D_Integer_stringSize 25 rfl) ?_
      refine nmE h ?_
      clear h
      intro v1 e_v1 h
      refine wtop e_v1 ?_
      refine x_istoren (pc := 35) (i0 := 2) (ls2 := [(2, V v1), (0, V a0), (1, V a1), (3, V a3)]) (dK D_Integer_stringSize 26 rfl) rfl (ltK rfl) rfl ?_
      refine nmE h ?_
      clear h
      intro v2 e_v2 h
      refine wx_iinc (pc := 36) (j := 3) (a := a3) (z := 1) (ls2 := [(3, V v2), (2, V v1), (0, V a0), (1, V a1)]) (dK D_Integer_stringSize 27 rfl) rfl e_v2 (ltK rfl) rfl ?_
      refine x_goto (pc := 39) (tgt := 16) (dK D_Integer_stringSize 28 rfl) rfl ?_
      refine x_weak (ls' := [(0, V a0), (1, V a1), (2, V v1), (3, V v2)]) (sbc 2 rfl (sbc 3 rfl (sbc 1 rfl (sbc 0 rfl sbn)))) ?_
      replace h := ih _ _ h
      exact h (Vn_in e_v1) (Vn_in e_v2) hx hr
    · replace h := ifN h hc4
      refine x_iloadn (pc := 27) (i0 := 3) (j := 3) (dK D_Integer_stringSize 19 rfl) rfl rfl ?_
      refine x_iloadn (pc := 28) (i0 := 1) (j := 1) (dK D_Integer_stringSize 20 rfl) rfl rfl ?_
      refine wx_iadd (pc := 29) (dK D_Integer_stringSize 21 rfl) ?_
      refine nmE h ?_
      clear h
      intro v3 e_v3 h
      refine wtop e_v3 ?_
      obtain rfl := Option.some.inj h
      exact wk_iretI (pc := 30) (dK D_Integer_stringSize 22 rfl) rfl hk0 hn0 (hr v3 rfl (Vn_in e_v3))
def gn_Integer_stringSize (a0 : Int) (S : St) (L : List PC) : Option (Int) := if a0 < 0 then (bnS (lo2_Integer_stringSize_16 a0 1 S L FU ((-10), 1)) (fun r7 => some r7) fun e8 => nm (wr (10 + 1)) fun v9 => some v9) else (nm (wr (-a0)) fun v10 => bnS (lo2_Integer_stringSize_16 v10 0 S L FU ((-10), 1)) (fun r12 => some r12) fun e13 => nm (wr (10 + 0)) fun v14 => some v14)
theorem te_Integer_stringSize {sc : SC} {a0 : Int} (ha0 : inR a0) {S : St} {L : List PC} {q : Int} (h : gn_Integer_stringSize a0 S L = some q) {mc ms k n : Nat} (hk0 : k ≤ mc) (hn0 : n ≤ ms) : GX sc M_Integer_stringSize mc ms 0 [(0, V a0)] [] (wz (S, L)) k n (KXI q (S, L)) := by
  unfold gn_Integer_stringSize at h
  refine wx_iconst (pc := 0) (dK D_Integer_stringSize 0 rfl) ?_
  refine x_istoren (pc := 1) (i0 := 1) (ls2 := [(1, V 1), (0, V a0)]) (dK D_Integer_stringSize 1 rfl) rfl (ltK rfl) rfl ?_
  refine x_iloadn (pc := 2) (i0 := 0) (j := 1) (dK D_Integer_stringSize 2 rfl) rfl rfl ?_
  refine wx_if_lt (pc := 3) (t := 11) (dK D_Integer_stringSize 3 rfl) rfl ha0 (fun hc15 => ?_) (fun hc15 => ?_)
  · replace h := ifP h hc15
    refine wx_bipush (pc := 11) (dK D_Integer_stringSize 9 rfl) rfl ?_
    refine x_istoren (pc := 13) (i0 := 2) (ls2 := [(2, V (-10)), (1, V 1), (0, V a0)]) (dK D_Integer_stringSize 10 rfl) rfl (ltK rfl) rfl ?_
    refine wx_iconst (pc := 14) (dK D_Integer_stringSize 11 rfl) ?_
    refine x_istoren (pc := 15) (i0 := 3) (ls2 := [(3, V 1), (2, V (-10)), (1, V 1), (0, V a0)]) (dK D_Integer_stringSize 12 rfl) rfl (ltK rfl) rfl ?_
    refine bnSE h ?_ ?_
    · clear h
      intro r7 e_p6 h
      refine x_weak (ls' := [(0, V a0), (1, V 1), (2, V (-10)), (3, V 1)]) (sbc 3 rfl (sbc 2 rfl (sbc 1 rfl (sbc 0 rfl sbn)))) ?_
      refine tl2_Integer_stringSize_16 ha0 (inRk rfl) hk0 hn0 FU _ _ e_p6 (inRk rfl) (inRk rfl) (fun _ g_ => nomatch g_) (fun r_ g_ hin => ?_)
      obtain rfl := Sum.inl.inj g_
      obtain rfl := Option.some.inj h
      exact ⟨rfl, hin, rfl⟩
    · clear h
      intro e8 e_p6 h
      refine x_weak (ls' := [(0, V a0), (1, V 1), (2, V (-10)), (3, V 1)]) (sbc 3 rfl (sbc 2 rfl (sbc 1 rfl (sbc 0 rfl sbn)))) ?_
      refine tl2_Integer_stringSize_16 ha0 (inRk rfl) hk0 hn0 FU _ _ e_p6 (inRk rfl) (inRk rfl) (fun e_ g_  => ?_) (fun _ g_ => nomatch g_)
      obtain rfl := Sum.inr.inj g_
      refine wx_bipush (pc := 42) (dK D_Integer_stringSize 29 rfl) rfl ?_
      refine x_iloadn (pc := 44) (i0 := 1) (j := 0) (dK D_Integer_stringSize 30 rfl) rfl rfl ?_
      refine wx_iadd (pc := 45) (dK D_Integer_stringSize 31 rfl) ?_
      refine nmE h ?_
      clear h
      intro v9 e_v9 h
      refine wtop e_v9 ?_
      obtain rfl := Option.some.inj h
      exact wk_iretI (pc := 46) (dK D_Integer_stringSize 32 rfl) rfl hk0 hn0 ⟨rfl, (Vn_in e_v9), rfl⟩
  · replace h := ifN h hc15
    refine wx_iconst (pc := 6) (dK D_Integer_stringSize 4 rfl) ?_
    refine x_istoren (pc := 7) (i0 := 1) (ls2 := [(1, V 0), (0, V a0)]) (dK D_Integer_stringSize 5 rfl) rfl (ltK rfl) rfl ?_
    refine x_iloadn (pc := 8) (i0 := 0) (j := 1) (dK D_Integer_stringSize 6 rfl) rfl rfl ?_
    refine wx_ineg (pc := 9) (dK D_Integer_stringSize 7 rfl) ?_
    refine nmE h ?_
    clear h
    intro v10 e_v10 h
    refine wtop e_v10 ?_
    refine x_istoren (pc := 10) (i0 := 0) (ls2 := [(0, V v10), (1, V 0)]) (dK D_Integer_stringSize 8 rfl) rfl (ltK rfl) rfl ?_
    refine wx_bipush (pc := 11) (dK D_Integer_stringSize 9 rfl) rfl ?_
    refine x_istoren (pc := 13) (i0 := 2) (ls2 := [(2, V (-10)), (0, V v10), (1, V 0)]) (dK D_Integer_stringSize 10 rfl) rfl (ltK rfl) rfl ?_
    refine wx_iconst (pc := 14) (dK D_Integer_stringSize 11 rfl) ?_
    refine x_istoren (pc := 15) (i0 := 3) (ls2 := [(3, V 1), (2, V (-10)), (0, V v10), (1, V 0)]) (dK D_Integer_stringSize 12 rfl) rfl (ltK rfl) rfl ?_
    refine bnSE h ?_ ?_
    · clear h
      intro r12 e_p11 h
      refine x_weak (ls' := [(0, V v10), (1, V 0), (2, V (-10)), (3, V 1)]) (sbc 2 rfl (sbc 3 rfl (sbc 1 rfl (sbc 0 rfl sbn)))) ?_
      refine tl2_Integer_stringSize_16 (Vn_in e_v10) (inRk rfl) hk0 hn0 FU _ _ e_p11 (inRk rfl) (inRk rfl) (fun _ g_ => nomatch g_) (fun r_ g_ hin => ?_)
      obtain rfl := Sum.inl.inj g_
      obtain rfl := Option.some.inj h
      exact ⟨rfl, hin, rfl⟩
    · clear h
      intro e13 e_p11 h
      refine x_weak (ls' := [(0, V v10), (1, V 0), (2, V (-10)), (3, V 1)]) (sbc 2 rfl (sbc 3 rfl (sbc 1 rfl (sbc 0 rfl sbn)))) ?_
      refine tl2_Integer_stringSize_16 (Vn_in e_v10) (inRk rfl) hk0 hn0 FU _ _ e_p11 (inRk rfl) (inRk rfl) (fun e_ g_  => ?_) (fun _ g_ => nomatch g_)
      obtain rfl := Sum.inr.inj g_
      refine wx_bipush (pc := 42) (dK D_Integer_stringSize 29 rfl) rfl ?_
      refine x_iloadn (pc := 44) (i0 := 1) (j := 0) (dK D_Integer_stringSize 30 rfl) rfl rfl ?_
      refine wx_iadd (pc := 45) (dK D_Integer_stringSize 31 rfl) ?_
      refine nmE h ?_
      clear h
      intro v14 e_v14 h
      refine wtop e_v14 ?_
      obtain rfl := Option.some.inj h
      exact wk_iretI (pc := 46) (dK D_Integer_stringSize 32 rfl) rfl hk0 hn0 ⟨rfl, (Vn_in e_v14), rfl⟩
theorem tg_Integer_stringSize {sc : SC} {a0 : Int} (ha0 : inR a0) {S : St} {L : List PC} {q : Int} (h : gn_Integer_stringSize a0 S L = some q) : EvX sc M_Integer_stringSize [V a0] (wz (S, L)) 0 0 (KXI q (S, L)) := EvX.of pn2_Integer rfl (leK rfl) (te_Integer_stringSize ha0 h (Nat.le_refl _) (Nat.le_refl _))
def gn_ASB_isLatin1 (c0 : Nat) (S : St) (L : List PC) : Option (Bool) := bnO (gfI L c0 15 1) fun v1 => if v1 = 0 then (some true) else (some false)
theorem te_ASB_isLatin1 {sc : SC} {c0 : Nat} {S : St} {L : List PC} {q : Bool} (h : gn_ASB_isLatin1 c0 S L = some q) {mc ms k n : Nat} (hk0 : k ≤ mc) (hn0 : n ≤ ms) : GX sc M_ASB_isLatin1 mc ms 0 [(0, .ref c0)] [] (wz (S, L)) k n (KXB q (S, L)) := by
  unfold gn_ASB_isLatin1 at h
  refine x_gs_compact (pc := 0) (dK D_ASB_isLatin1 0 rfl) q_1284 ?_
  refine wsk (st' := [V 1]) rfl ?_
  refine wx_if_eq (pc := 3) (t := 17) (dK D_ASB_isLatin1 1 rfl) rfl (inRk rfl) (fun hc => absurd hc (by decide)) (fun _ => ?_)
  refine x_aloadn (pc := 6) (i0 := 0) (j := 0) (dK D_ASB_isLatin1 2 rfl) rfl rfl ?_
  refine bnE h ?_
  clear h
  intro v1 e_v1 h
  refine wx_getI (pc := 7) (ci := 15) (f := 1) e_v1 (dK D_ASB_isLatin1 3 rfl) q_1293 (ltK rfl) (ltK rfl) ?_
  refine wx_if_ne (pc := 10) (t := 17) (dK D_ASB_isLatin1 4 rfl) rfl (vI_at e_v1).2 (fun hc2 => ?_) (fun hc2 => ?_)
  · replace h := ifN h hc2
    refine wx_iconst (pc := 17) (dK D_ASB_isLatin1 7 rfl) ?_
    obtain rfl := Option.some.inj h
    exact wk_iretB (pc := 18) (b := false) (dK D_ASB_isLatin1 8 rfl) rfl hk0 hn0 ⟨rfl, rfl⟩
  · replace h := ifP h hc2
    refine wx_iconst (pc := 13) (dK D_ASB_isLatin1 5 rfl) ?_
    refine x_goto (pc := 14) (tgt := 18) (dK D_ASB_isLatin1 6 rfl) rfl ?_
    obtain rfl := Option.some.inj h
    exact wk_iretB (pc := 18) (b := true) (dK D_ASB_isLatin1 8 rfl) rfl hk0 hn0 ⟨rfl, rfl⟩
theorem tg_ASB_isLatin1 {sc : SC} {c0 : Nat} {S : St} {L : List PC} {q : Bool} (h : gn_ASB_isLatin1 c0 S L = some q) : EvX sc M_ASB_isLatin1 [.ref c0] (wz (S, L)) 0 0 (KXB q (S, L)) := EvX.of pn2_ASB rfl (leK rfl) (te_ASB_isLatin1  h (Nat.le_refl _) (Nat.le_refl _))
def lb2_Integer_getChars_22 (c2 : Nat) (a6 : Int) (go : Int × Int × LZ → Option ((Int × Int × LZ) × Nat × Nat)) (a0 : Int) (a5 : Int) (S : St) (L : List PC) : Option ((Int × Int × LZ) × Nat × Nat) := if (-100) < a0 then (some ((a0, a5, (S, L)), 0, 0)) else (nm (wr (a0.tdiv 100)) fun v1 => nm (wr ((v1 * 100) - a0)) fun v2 => nm (wr (a5 + (-1))) fun v3 => bnO (ald L 1 (XB + 300 + 301) v2) fun v4 => bnO (ast L 101 c2 v3 (V (i_nb v4))) fun L5 => nm (wr (v3 + (-1))) fun v6 => bnO (ald L5 1 (XB + 300 + 302) v2) fun v7 => bnO (ast L5 101 c2 v6 (V (i_nb v7))) fun L8 => go (v1, v6, (S, L8)))
def lo2_Integer_getChars_22 (c2 : Nat) (a6 : Int) : Nat → Int × Int × LZ → Option ((Int × Int × LZ) × Nat × Nat) := lp fun go p => lb2_Integer_getChars_22 c2 a6 go p.1 p.2.1 p.2.2.1 p.2.2.2
theorem tl2_Integer_getChars_22 {sc : SC} {c2 : Nat} {a6 : Int} (ha6 : inR a6) {K : Option Value → List PC → Prop} {mc ms kt nt : Nat} (hkt : kt ≤ mc) (hnt : nt ≤ ms) : ∀ (N : Nat) (a : Int × Int × LZ) (q : (Int × Int × LZ) × Nat × Nat), lo2_Integer_getChars_22 c2 a6 N a = some q → ∀ k n, Bd k n kt nt q → inR a.1 → inR a.2.1 → (inR q.1.1 → inR q.1.2.1 → GX sc M_Integer_getChars mc ms 72 [(0, V q.1.1), (2, .ref c2), (5, V q.1.2.1), (6, V a6)] [] (wz q.1.2.2) kt nt K) → GX sc M_Integer_getChars mc ms 22 [(0, V a.1), (2, .ref c2), (5, V a.2.1), (6, V a6)] [] (wz a.2.2) k n K := by
  refine lp_ind2 (P := fun (a : Int × Int × LZ) (q : (Int × Int × LZ) × Nat × Nat) => ∀ k n, Bd k n kt nt q → inR a.1 → inR a.2.1 → (inR q.1.1 → inR q.1.2.1 → GX sc M_Integer_getChars mc ms 72 [(0, V q.1.1), (2, .ref c2), (5, V q.1.2.1), (6, V a6)] [] (wz q.1.2.2) kt nt K) → GX sc M_Integer_getChars mc ms 22 [(0, V a.1), (2, .ref c2), (5, V a.2.1), (6, V a6)] [] (wz a.2.2) k n K) (fun go ih a q h => ?_)
  obtain ⟨a0, a5, ⟨S, L⟩⟩ := a
  intro k n hb ha0 ha5 hx
  show GX sc M_Integer_getChars mc ms 22 [(0, V a0), (2, .ref c2), (5, V a5), (6, V a6)] [] (wz (S, L)) k n K
  replace h : lb2_Integer_getChars_22 c2 a6 go a0 a5 S L = some q := h
  unfold lb2_Integer_getChars_22 at h
  refine x_iloadn (pc := 22) (i0 := 0) (j := 0) (dK D_Integer_getChars_0 13 rfl) rfl rfl ?_
  refine wx_bipush (pc := 23) (dK D_Integer_getChars_0 14 rfl) rfl ?_
  refine wx_icmp_gt (pc := 25) (t := 72) (dK D_Integer_getChars_0 15 rfl) rfl ha0 (inRk rfl) (fun hc9 => ?_) (fun hc9 => ?_)
  · replace h := ifP h hc9
    obtain rfl := Option.some.inj h
    refine x_room (bdk hb) (bdn hb) ?_
    exact hx ha0 ha5
  · replace h := ifN h hc9
    refine x_iloadn (pc := 28) (i0 := 0) (j := 0) (dK D_Integer_getChars_0 16 rfl) rfl rfl ?_
    refine wx_bipush (pc := 29) (dK D_Integer_getChars_0 17 rfl) rfl ?_
    refine wx_idiv (pc := 31) (dK D_Integer_getChars_0 18 rfl) ha0 (inRk rfl) (by decide) ?_
    refine nmE h ?_
    clear h
    intro v1 e_v1 h
    refine wtop e_v1 ?_
    refine x_istoren (pc := 32) (i0 := 3) (ls2 := [(3, V v1), (0, V a0), (2, .ref c2), (5, V a5), (6, V a6)]) (dK D_Integer_getChars_0 19 rfl) rfl (ltK rfl) rfl ?_
    refine x_iloadn (pc := 33) (i0 := 3) (j := 0) (dK D_Integer_getChars_0 20 rfl) rfl rfl ?_
    refine wx_bipush (pc := 34) (dK D_Integer_getChars_0 21 rfl) rfl ?_
    refine wx_imul (pc := 36) (dK D_Integer_getChars_0 22 rfl) ?_
    refine x_iloadn (pc := 37) (i0 := 0) (j := 1) (dK D_Integer_getChars_0 23 rfl) rfl rfl ?_
    refine wx_isub (pc := 38) (dK D_Integer_getChars_0 24 rfl) ?_
    refine nmE h ?_
    clear h
    intro v2 e_v2 h
    refine wtop e_v2 ?_
    refine x_istore (pc := 39) (ls2 := [(4, V v2), (3, V v1), (0, V a0), (2, .ref c2), (5, V a5), (6, V a6)]) (dK D_Integer_getChars_0 25 rfl) (ltK rfl) rfl ?_
    refine x_iloadn (pc := 41) (i0 := 3) (j := 1) (dK D_Integer_getChars_0 26 rfl) rfl rfl ?_
    refine x_istoren (pc := 42) (i0 := 0) (ls2 := [(0, V v1), (4, V v2), (3, V v1), (2, .ref c2), (5, V a5), (6, V a6)]) (dK D_Integer_getChars_0 27 rfl) rfl (ltK rfl) rfl ?_
    refine x_aloadn (pc := 43) (i0 := 2) (j := 3) (dK D_Integer_getChars_0 28 rfl) rfl rfl ?_
    refine nmE h ?_
    clear h
    intro v3 e_v3 h
    refine wx_iinc (pc := 44) (j := 4) (a := a5) (z := -1) (ls2 := [(5, V v3), (0, V v1), (4, V v2), (3, V v1), (2, .ref c2), (6, V a6)]) (dK D_Integer_getChars_0 29 rfl) rfl e_v3 (ltK rfl) rfl ?_
    refine x_iload (pc := 47) (j := 0) (dK D_Integer_getChars_0 30 rfl) rfl ?_
    refine x_gs_ones (pc := 49) (dK D_Integer_getChars_0 31 rfl) q_1403 ?_
    refine x_iload (pc := 52) (j := 2) (dK D_Integer_getChars_0 32 rfl) rfl ?_
    refine bnE h ?_
    clear h
    intro v4 e_v4 h
    refine wx_bald (pc := 54) e_v4 (Vn_in e_v2) (dK D_Integer_getChars_0 33 rfl) ?_
    refine bnE h ?_
    clear h
    intro L5 e_L5 h
    refine wx_bast (Z := (S, L)) (pc := 55) (z := v4) e_L5 (Vn_in e_v3) (dK D_Integer_getChars_0 34 rfl) ?_
    refine x_aloadn (pc := 56) (i0 := 2) (j := 4) (dK D_Integer_getChars_0 35 rfl) rfl rfl ?_
    refine nmE h ?_
    clear h
    intro v6 e_v6 h
    refine wx_iinc (pc := 57) (j := 0) (a := v3) (z := -1) (ls2 := [(5, V v6), (0, V v1), (4, V v2), (3, V v1), (2, .ref c2), (6, V a6)]) (dK D_Integer_getChars_0 36 rfl) rfl e_v6 (ltK rfl) rfl ?_
    refine x_iload (pc := 60) (j := 0) (dK D_Integer_getChars_0 37 rfl) rfl ?_
    refine x_gs_tens (pc := 62) (dK D_Integer_getChars_0 38 rfl) q_1405 ?_
    refine x_iload (pc := 65) (j := 2) (dK D_Integer_getChars_0 39 rfl) rfl ?_
    refine bnE h ?_
    clear h
    intro v7 e_v7 h
    refine wx_bald (pc := 67) e_v7 (Vn_in e_v2) (dK D_Integer_getChars_0 40 rfl) ?_
    refine bnE h ?_
    clear h
    intro L8 e_L8 h
    refine wx_bast (Z := (S, L5)) (pc := 68) (z := v7) e_L8 (Vn_in e_v6) (dK D_Integer_getChars_0 41 rfl) ?_
    refine x_goto (pc := 69) (tgt := 22) (dK D_Integer_getChars_0 42 rfl) rfl ?_
    refine x_weak (ls' := [(0, V v1), (2, .ref c2), (5, V v6), (6, V a6)]) (sbc 1 rfl (sbc 4 rfl (sbc 0 rfl (sbc 5 rfl sbn)))) ?_
    replace h := ih _ _ h
    exact h _ _ hb (Vn_in e_v1) (Vn_in e_v6) hx
def jf2_Integer_getChars_12 (a0 : Int) (c2 : Nat) (a5 : Int) (st0 : Int) (S : St) (L : List PC) : Option ((Int × LZ) × Nat × Nat) := if st0 = 0 then (nm (wr (-a0)) fun v26 => bnO (lo2_Integer_getChars_22 c2 st0 FU (v26, a5, (S, L))) fun p27 => adC p27.2.1 p27.2.2 (nm (wr (p27.1.2.1 + (-1))) fun v28 => nm (wr (-p27.1.1)) fun v29 => bnO (ald p27.1.2.2.2 1 (XB + 300 + 301) v29) fun v30 => bnO (ast p27.1.2.2.2 101 c2 v28 (V (i_nb v30))) fun L31 => if (-9) ≤ p27.1.1 then (if st0 = 0 then (some ((v28, (p27.1.2.2.1, L31)), 0, 0)) else (nm (wr (v28 + (-1))) fun v32 => bnO (ast L31 101 c2 v32 (V (i_nb 45))) fun L33 => some ((v32, (p27.1.2.2.1, L33)), 0, 0))) else (nm (wr (v28 + (-1))) fun v35 => nm (wr (-p27.1.1)) fun v36 => bnO (ald L31 1 (XB + 300 + 302) v36) fun v37 => bnO (ast L31 101 c2 v35 (V (i_nb v37))) fun L38 => if st0 = 0 then (some ((v35, (p27.1.2.2.1, L38)), 0, 0)) else (nm (wr (v35 + (-1))) fun v39 => bnO (ast L38 101 c2 v39 (V (i_nb 45))) fun L40 => some ((v39, (p27.1.2.2.1, L40)), 0, 0))))) else (bnO (lo2_Integer_getChars_22 c2 st0 FU (a0, a5, (S, L))) fun p10 => adC p10.2.1 p10.2.2 (nm (wr (p10.1.2.1 + (-1))) fun v11 => nm (wr (-p10.1.1)) fun v12 => bnO (ald p10.1.2.2.2 1 (XB + 300 + 301) v12) fun v13 => bnO (ast p10.1.2.2.2 101 c2 v11 (V (i_nb v13))) fun L14 => if (-9) ≤ p10.1.1 then (if st0 = 0 then (some ((v11, (p10.1.2.2.1, L14)), 0, 0)) else (nm (wr (v11 + (-1))) fun v15 => bnO (ast L14 101 c2 v15 (V (i_nb 45))) fun L16 => some ((v15, (p10.1.2.2.1, L16)), 0, 0))) else (nm (wr (v11 + (-1))) fun v18 => nm (wr (-p10.1.1)) fun v19 => bnO (ald L14 1 (XB + 300 + 302) v19) fun v20 => bnO (ast L14 101 c2 v18 (V (i_nb v20))) fun L21 => if st0 = 0 then (some ((v18, (p10.1.2.2.1, L21)), 0, 0)) else (nm (wr (v18 + (-1))) fun v22 => bnO (ast L21 101 c2 v22 (V (i_nb 45))) fun L23 => some ((v22, (p10.1.2.2.1, L23)), 0, 0)))))
theorem tj2_Integer_getChars_12 {sc : SC} {a0 : Int} (ha0 : inR a0) {c2 : Nat} {a5 : Int} (ha5 : inR a5) {st0 : Int} (hst0 : inR st0) {S : St} {L : List PC} {q : (Int × LZ) × Nat × Nat} (h : jf2_Integer_getChars_12 a0 c2 a5 st0 S L = some q) {mc ms k n : Nat} (hb : Bd k n mc ms q) : GX sc M_Integer_getChars mc ms 12 [(0, V a0), (2, .ref c2), (5, V a5)] [V st0] (wz (S, L)) k n (KXI q.1.1 q.1.2) := by
  unfold jf2_Integer_getChars_12 at h
  refine x_istore (pc := 12) (ls2 := [(6, V st0), (0, V a0), (2, .ref c2), (5, V a5)]) (dK D_Integer_getChars_0 7 rfl) (ltK rfl) rfl ?_
  refine x_iload (pc := 14) (j := 0) (dK D_Integer_getChars_0 8 rfl) rfl ?_
  refine wx_if_ne (pc := 16) (t := 22) (dK D_Integer_getChars_0 9 rfl) rfl hst0 (fun hc43 => ?_) (fun hc43 => ?_)
  · replace h := ifN h hc43
    refine bnE h ?_
    clear h
    intro p10 e_p10 h
    obtain ⟨yp10, h9, e9⟩ := adE2 h
    clear h
    subst e9
    have h := h9
    clear h9
    have hk1 := bd1 hb
    have hn1 := bd2 hb
    replace hb := bdA hb
    refine x_weak (ls' := [(0, V a0), (2, .ref c2), (5, V a5), (6, V st0)]) (sbc 1 rfl (sbc 2 rfl (sbc 3 rfl (sbc 0 rfl sbn)))) ?_
    refine tl2_Integer_getChars_22 hst0 hk1 hn1 FU _ _ e_p10 _ _ ⟨Nat.le_refl _, Nat.le_refl _⟩ ha0 ha5 (fun hx0_p10 hx5_p10 => ?_)
    refine x_aloadn (pc := 72) (i0 := 2) (j := 1) (dK D_Integer_getChars_0 43 rfl) rfl rfl ?_
    refine nmE h ?_
    clear h
    intro v11 e_v11 h
    refine wx_iinc (pc := 73) (j := 2) (a := p10.1.2.1) (z := -1) (ls2 := [(5, V v11), (0, V p10.1.1), (2, .ref c2), (6, V st0)]) (dK D_Integer_getChars_0 44 rfl) rfl e_v11 (ltK rfl) rfl ?_
    refine x_iload (pc := 76) (j := 0) (dK D_Integer_getChars_0 45 rfl) rfl ?_
    refine x_gs_ones (pc := 78) (dK D_Integer_getChars_0 46 rfl) q_1403 ?_
    refine x_iloadn (pc := 81) (i0 := 0) (j := 1) (dK D_Integer_getChars_0 47 rfl) rfl rfl ?_
    refine wx_ineg (pc := 82) (dK D_Integer_getChars_0 48 rfl) ?_
    refine nmE h ?_
    clear h
    intro v12 e_v12 h
    refine wtop e_v12 ?_
    refine bnE h ?_
    clear h
    intro v13 e_v13 h
    refine wx_bald (pc := 83) e_v13 (Vn_in e_v12) (dK D_Integer_getChars_0 49 rfl) ?_
    refine bnE h ?_
    clear h
    intro L14 e_L14 h
    refine wx_bast (Z := (p10.1.2.2.1, p10.1.2.2.2)) (pc := 84) (z := v13) e_L14 (Vn_in e_v11) (dK D_Integer_getChars_1 0 rfl) ?_
    refine x_iloadn (pc := 85) (i0 := 0) (j := 1) (dK D_Integer_getChars_1 1 rfl) rfl rfl ?_
    refine wx_bipush (pc := 86) (dK D_Integer_getChars_1 2 rfl) rfl ?_
    refine wx_icmp_ge (pc := 88) (t := 104) (dK D_Integer_getChars_1 3 rfl) rfl hx0_p10 (inRk rfl) (fun hc25 => ?_) (fun hc25 => ?_)
    · replace h := ifP h hc25
      refine x_iload (pc := 104) (j := 3) (dK D_Integer_getChars_1 12 rfl) rfl ?_
      refine wx_if_eq (pc := 106) (t := 118) (dK D_Integer_getChars_1 13 rfl) rfl hst0 (fun hc17 => ?_) (fun hc17 => ?_)
      · replace h := ifP h hc17
        refine x_iload (pc := 118) (j := 0) (dK D_Integer_getChars_1 19 rfl) rfl ?_
        obtain rfl := Option.some.inj h
        exact wk_iretI (pc := 120) (dK D_Integer_getChars_1 20 rfl) rfl (bdk hb) (bdn hb) ⟨rfl, (Vn_in e_v11), rfl⟩
      · replace h := ifN h hc17
        refine x_aloadn (pc := 109) (i0 := 2) (j := 2) (dK D_Integer_getChars_1 14 rfl) rfl rfl ?_
        refine nmE h ?_
        clear h
        intro v15 e_v15 h
        refine wx_iinc (pc := 110) (j := 0) (a := v11) (z := -1) (ls2 := [(5, V v15), (0, V p10.1.1), (2, .ref c2), (6, V st0)]) (dK D_Integer_getChars_1 15 rfl) rfl e_v15 (ltK rfl) rfl ?_
        refine x_iload (pc := 113) (j := 0) (dK D_Integer_getChars_1 16 rfl) rfl ?_
        refine wx_bipush (pc := 115) (dK D_Integer_getChars_1 17 rfl) rfl ?_
        refine bnE h ?_
        clear h
        intro L16 e_L16 h
        refine wx_bast (Z := (p10.1.2.2.1, L14)) (pc := 117) (z := 45) e_L16 (Vn_in e_v15) (dK D_Integer_getChars_1 18 rfl) ?_
        refine x_iload (pc := 118) (j := 0) (dK D_Integer_getChars_1 19 rfl) rfl ?_
        obtain rfl := Option.some.inj h
        exact wk_iretI (pc := 120) (dK D_Integer_getChars_1 20 rfl) rfl (bdk hb) (bdn hb) ⟨rfl, (Vn_in e_v15), rfl⟩
    · replace h := ifN h hc25
      refine x_aloadn (pc := 91) (i0 := 2) (j := 2) (dK D_Integer_getChars_1 4 rfl) rfl rfl ?_
      refine nmE h ?_
      clear h
      intro v18 e_v18 h
      refine wx_iinc (pc := 92) (j := 0) (a := v11) (z := -1) (ls2 := [(5, V v18), (0, V p10.1.1), (2, .ref c2), (6, V st0)]) (dK D_Integer_getChars_1 5 rfl) rfl e_v18 (ltK rfl) rfl ?_
      refine x_iload (pc := 95) (j := 0) (dK D_Integer_getChars_1 6 rfl) rfl ?_
      refine x_gs_tens (pc := 97) (dK D_Integer_getChars_1 7 rfl) q_1405 ?_
      refine x_iloadn (pc := 100) (i0 := 0) (j := 1) (dK D_Integer_getChars_1 8 rfl) rfl rfl ?_
      refine wx_ineg (pc := 101) (dK D_Integer_getChars_1 9 rfl) ?_
      refine nmE h ?_
      clear h
      intro v19 e_v19 h
      refine wtop e_v19 ?_
      refine bnE h ?_
      clear h
      intro v20 e_v20 h
      refine wx_bald (pc := 102) e_v20 (Vn_in e_v19) (dK D_Integer_getChars_1 10 rfl) ?_
      refine bnE h ?_
      clear h
      intro L21 e_L21 h
      refine wx_bast (Z := (p10.1.2.2.1, L14)) (pc := 103) (z := v20) e_L21 (Vn_in e_v18) (dK D_Integer_getChars_1 11 rfl) ?_
      refine x_iload (pc := 104) (j := 3) (dK D_Integer_getChars_1 12 rfl) rfl ?_
      refine wx_if_eq (pc := 106) (t := 118) (dK D_Integer_getChars_1 13 rfl) rfl hst0 (fun hc24 => ?_) (fun hc24 => ?_)
      · replace h := ifP h hc24
        refine x_iload (pc := 118) (j := 0) (dK D_Integer_getChars_1 19 rfl) rfl ?_
        obtain rfl := Option.some.inj h
        exact wk_iretI (pc := 120) (dK D_Integer_getChars_1 20 rfl) rfl (bdk hb) (bdn hb) ⟨rfl, (Vn_in e_v18), rfl⟩
      · replace h := ifN h hc24
        refine x_aloadn (pc := 109) (i0 := 2) (j := 2) (dK D_Integer_getChars_1 14 rfl) rfl rfl ?_
        refine nmE h ?_
        clear h
        intro v22 e_v22 h
        refine wx_iinc (pc := 110) (j := 0) (a := v18) (z := -1) (ls2 := [(5, V v22), (0, V p10.1.1), (2, .ref c2), (6, V st0)]) (dK D_Integer_getChars_1 15 rfl) rfl e_v22 (ltK rfl) rfl ?_
        refine x_iload (pc := 113) (j := 0) (dK D_Integer_getChars_1 16 rfl) rfl ?_
        refine wx_bipush (pc := 115) (dK D_Integer_getChars_1 17 rfl) rfl ?_
        refine bnE h ?_
        clear h
        intro L23 e_L23 h
        refine wx_bast (Z := (p10.1.2.2.1, L21)) (pc := 117) (z := 45) e_L23 (Vn_in e_v22) (dK D_Integer_getChars_1 18 rfl) ?_
        refine x_iload (pc := 118) (j := 0) (dK D_Integer_getChars_1 19 rfl) rfl ?_
        obtain rfl := Option.some.inj h
        exact wk_iretI (pc := 120) (dK D_Integer_getChars_1 20 rfl) rfl (bdk hb) (bdn hb) ⟨rfl, (Vn_in e_v22), rfl⟩
  · replace h := ifP h hc43
    refine x_iloadn (pc := 19) (i0 := 0) (j := 1) (dK D_Integer_getChars_0 10 rfl) rfl rfl ?_
    refine wx_ineg (pc := 20) (dK D_Integer_getChars_0 11 rfl) ?_
    refine nmE h ?_
    clear h
    intro v26 e_v26 h
    refine wtop e_v26 ?_
    refine x_istoren (pc := 21) (i0 := 0) (ls2 := [(0, V v26), (6, V st0), (2, .ref c2), (5, V a5)]) (dK D_Integer_getChars_0 12 rfl) rfl (ltK rfl) rfl ?_
    refine bnE h ?_
    clear h
    intro p27 e_p27 h
    obtain ⟨yp27, h9, e9⟩ := adE2 h
    clear h
    subst e9
    have h := h9
    clear h9
    have hk1 := bd1 hb
    have hn1 := bd2 hb
    replace hb := bdA hb
    refine x_weak (ls' := [(0, V v26), (2, .ref c2), (5, V a5), (6, V st0)]) (sbc 0 rfl (sbc 2 rfl (sbc 3 rfl (sbc 1 rfl sbn)))) ?_
    refine tl2_Integer_getChars_22 hst0 hk1 hn1 FU _ _ e_p27 _ _ ⟨Nat.le_refl _, Nat.le_refl _⟩ (Vn_in e_v26) ha5 (fun hx0_p27 hx5_p27 => ?_)
    refine x_aloadn (pc := 72) (i0 := 2) (j := 1) (dK D_Integer_getChars_0 43 rfl) rfl rfl ?_
    refine nmE h ?_
    clear h
    intro v28 e_v28 h
    refine wx_iinc (pc := 73) (j := 2) (a := p27.1.2.1) (z := -1) (ls2 := [(5, V v28), (0, V p27.1.1), (2, .ref c2), (6, V st0)]) (dK D_Integer_getChars_0 44 rfl) rfl e_v28 (ltK rfl) rfl ?_
    refine x_iload (pc := 76) (j := 0) (dK D_Integer_getChars_0 45 rfl) rfl ?_
    refine x_gs_ones (pc := 78) (dK D_Integer_getChars_0 46 rfl) q_1403 ?_
    refine x_iloadn (pc := 81) (i0 := 0) (j := 1) (dK D_Integer_getChars_0 47 rfl) rfl rfl ?_
    refine wx_ineg (pc := 82) (dK D_Integer_getChars_0 48 rfl) ?_
    refine nmE h ?_
    clear h
    intro v29 e_v29 h
    refine wtop e_v29 ?_
    refine bnE h ?_
    clear h
    intro v30 e_v30 h
    refine wx_bald (pc := 83) e_v30 (Vn_in e_v29) (dK D_Integer_getChars_0 49 rfl) ?_
    refine bnE h ?_
    clear h
    intro L31 e_L31 h
    refine wx_bast (Z := (p27.1.2.2.1, p27.1.2.2.2)) (pc := 84) (z := v30) e_L31 (Vn_in e_v28) (dK D_Integer_getChars_1 0 rfl) ?_
    refine x_iloadn (pc := 85) (i0 := 0) (j := 1) (dK D_Integer_getChars_1 1 rfl) rfl rfl ?_
    refine wx_bipush (pc := 86) (dK D_Integer_getChars_1 2 rfl) rfl ?_
    refine wx_icmp_ge (pc := 88) (t := 104) (dK D_Integer_getChars_1 3 rfl) rfl hx0_p27 (inRk rfl) (fun hc42 => ?_) (fun hc42 => ?_)
    · replace h := ifP h hc42
      refine x_iload (pc := 104) (j := 3) (dK D_Integer_getChars_1 12 rfl) rfl ?_
      refine wx_if_eq (pc := 106) (t := 118) (dK D_Integer_getChars_1 13 rfl) rfl hst0 (fun hc34 => ?_) (fun hc34 => ?_)
      · replace h := ifP h hc34
        refine x_iload (pc := 118) (j := 0) (dK D_Integer_getChars_1 19 rfl) rfl ?_
        obtain rfl := Option.some.inj h
        exact wk_iretI (pc := 120) (dK D_Integer_getChars_1 20 rfl) rfl (bdk hb) (bdn hb) ⟨rfl, (Vn_in e_v28), rfl⟩
      · replace h := ifN h hc34
        refine x_aloadn (pc := 109) (i0 := 2) (j := 2) (dK D_Integer_getChars_1 14 rfl) rfl rfl ?_
        refine nmE h ?_
        clear h
        intro v32 e_v32 h
        refine wx_iinc (pc := 110) (j := 0) (a := v28) (z := -1) (ls2 := [(5, V v32), (0, V p27.1.1), (2, .ref c2), (6, V st0)]) (dK D_Integer_getChars_1 15 rfl) rfl e_v32 (ltK rfl) rfl ?_
        refine x_iload (pc := 113) (j := 0) (dK D_Integer_getChars_1 16 rfl) rfl ?_
        refine wx_bipush (pc := 115) (dK D_Integer_getChars_1 17 rfl) rfl ?_
        refine bnE h ?_
        clear h
        intro L33 e_L33 h
        refine wx_bast (Z := (p27.1.2.2.1, L31)) (pc := 117) (z := 45) e_L33 (Vn_in e_v32) (dK D_Integer_getChars_1 18 rfl) ?_
        refine x_iload (pc := 118) (j := 0) (dK D_Integer_getChars_1 19 rfl) rfl ?_
        obtain rfl := Option.some.inj h
        exact wk_iretI (pc := 120) (dK D_Integer_getChars_1 20 rfl) rfl (bdk hb) (bdn hb) ⟨rfl, (Vn_in e_v32), rfl⟩
    · replace h := ifN h hc42
      refine x_aloadn (pc := 91) (i0 := 2) (j := 2) (dK D_Integer_getChars_1 4 rfl) rfl rfl ?_
      refine nmE h ?_
      clear h
      intro v35 e_v35 h
      refine wx_iinc (pc := 92) (j := 0) (a := v28) (z := -1) (ls2 := [(5, V v35), (0, V p27.1.1), (2, .ref c2), (6, V st0)]) (dK D_Integer_getChars_1 5 rfl) rfl e_v35 (ltK rfl) rfl ?_
      refine x_iload (pc := 95) (j := 0) (dK D_Integer_getChars_1 6 rfl) rfl ?_
      refine x_gs_tens (pc := 97) (dK D_Integer_getChars_1 7 rfl) q_1405 ?_
      refine x_iloadn (pc := 100) (i0 := 0) (j := 1) (dK D_Integer_getChars_1 8 rfl) rfl rfl ?_
      refine wx_ineg (pc := 101) (dK D_Integer_getChars_1 9 rfl) ?_
      refine nmE h ?_
      clear h
      intro v36 e_v36 h
      refine wtop e_v36 ?_
      refine bnE h ?_
      clear h
      intro v37 e_v37 h
      refine wx_bald (pc := 102) e_v37 (Vn_in e_v36) (dK D_Integer_getChars_1 10 rfl) ?_
      refine bnE h ?_
      clear h
      intro L38 e_L38 h
      refine wx_bast (Z := (p27.1.2.2.1, L31)) (pc := 103) (z := v37) e_L38 (Vn_in e_v35) (dK D_Integer_getChars_1 11 rfl) ?_
      refine x_iload (pc := 104) (j := 3) (dK D_Integer_getChars_1 12 rfl) rfl ?_
      refine wx_if_eq (pc := 106) (t := 118) (dK D_Integer_getChars_1 13 rfl) rfl hst0 (fun hc41 => ?_) (fun hc41 => ?_)
      · replace h := ifP h hc41
        refine x_iload (pc := 118) (j := 0) (dK D_Integer_getChars_1 19 rfl) rfl ?_
        obtain rfl := Option.some.inj h
        exact wk_iretI (pc := 120) (dK D_Integer_getChars_1 20 rfl) rfl (bdk hb) (bdn hb) ⟨rfl, (Vn_in e_v35), rfl⟩
      · replace h := ifN h hc41
        refine x_aloadn (pc := 109) (i0 := 2) (j := 2) (dK D_Integer_getChars_1 14 rfl) rfl rfl ?_
        refine nmE h ?_
        clear h
        intro v39 e_v39 h
        refine wx_iinc (pc := 110) (j := 0) (a := v35) (z := -1) (ls2 := [(5, V v39), (0, V p27.1.1), (2, .ref c2), (6, V st0)]) (dK D_Integer_getChars_1 15 rfl) rfl e_v39 (ltK rfl) rfl ?_
        refine x_iload (pc := 113) (j := 0) (dK D_Integer_getChars_1 16 rfl) rfl ?_
        refine wx_bipush (pc := 115) (dK D_Integer_getChars_1 17 rfl) rfl ?_
        refine bnE h ?_
        clear h
        intro L40 e_L40 h
        refine wx_bast (Z := (p27.1.2.2.1, L38)) (pc := 117) (z := 45) e_L40 (Vn_in e_v39) (dK D_Integer_getChars_1 18 rfl) ?_
        refine x_iload (pc := 118) (j := 0) (dK D_Integer_getChars_1 19 rfl) rfl ?_
        obtain rfl := Option.some.inj h
        exact wk_iretI (pc := 120) (dK D_Integer_getChars_1 20 rfl) rfl (bdk hb) (bdn hb) ⟨rfl, (Vn_in e_v39), rfl⟩
def gn_Integer_getChars (a0 : Int) (a1 : Int) (c2 : Nat) (S : St) (L : List PC) : Option ((Int × LZ) × Nat × Nat) := if 0 ≤ a0 then (jf2_Integer_getChars_12 a0 c2 a1 0 S L) else (jf2_Integer_getChars_12 a0 c2 a1 1 S L)
theorem te_Integer_getChars {sc : SC} {a0 : Int} (ha0 : inR a0) {a1 : Int} (ha1 : inR a1) {c2 : Nat} {S : St} {L : List PC} {q : (Int × LZ) × Nat × Nat} (h : gn_Integer_getChars a0 a1 c2 S L = some q) {mc ms k n : Nat} (hb : Bd k n mc ms q) : GX sc M_Integer_getChars mc ms 0 [(0, V a0), (1, V a1), (2, .ref c2)] [] (wz (S, L)) k n (KXI q.1.1 q.1.2) := by
  unfold gn_Integer_getChars at h
  refine x_iloadn (pc := 0) (i0 := 1) (j := 1) (dK D_Integer_getChars_0 0 rfl) rfl rfl ?_
  refine x_istore (pc := 1) (ls2 := [(5, V a1), (0, V a0), (1, V a1), (2, .ref c2)]) (dK D_Integer_getChars_0 1 rfl) (ltK rfl) rfl ?_
  refine x_iloadn (pc := 3) (i0 := 0) (j := 1) (dK D_Integer_getChars_0 2 rfl) rfl rfl ?_
  refine wx_if_ge (pc := 4) (t := 11) (dK D_Integer_getChars_0 3 rfl) rfl ha0 (fun hc44 => ?_) (fun hc44 => ?_)
  · replace h := ifP h hc44
    refine wx_iconst (pc := 11) (dK D_Integer_getChars_0 6 rfl) ?_
    refine x_weak (ls' := [(0, V a0), (2, .ref c2), (5, V a1)]) (sbc 1 rfl (sbc 3 rfl (sbc 0 rfl sbn))) ?_
    exact tj2_Integer_getChars_12 ha0 ha1 (inRk rfl) h hb
  · replace h := ifN h hc44
    refine wx_iconst (pc := 7) (dK D_Integer_getChars_0 4 rfl) ?_
    refine x_goto (pc := 8) (tgt := 12) (dK D_Integer_getChars_0 5 rfl) rfl ?_
    refine x_weak (ls' := [(0, V a0), (2, .ref c2), (5, V a1)]) (sbc 1 rfl (sbc 3 rfl (sbc 0 rfl sbn))) ?_
    exact tj2_Integer_getChars_12 ha0 ha1 (inRk rfl) h hb
theorem tg_Integer_getChars {sc : SC} {a0 : Int} (ha0 : inR a0) {a1 : Int} (ha1 : inR a1) {c2 : Nat} {S : St} {L : List PC} {q : (Int × LZ) × Nat × Nat} (h : gn_Integer_getChars a0 a1 c2 S L = some q) : EvX sc M_Integer_getChars [V a0, V a1, .ref c2] (wz (S, L)) q.2.1 q.2.2 (KXI q.1.1 q.1.2) := EvX.of pn2_Integer rfl (leK rfl) (te_Integer_getChars ha0 ha1 h ⟨Nat.le_of_eq (Nat.zero_add _), Nat.le_of_eq (Nat.zero_add _)⟩)
def gn_ASB_append2 (c0 : Nat) (a1 : Int) (S : St) (L : List PC) : Option ((Value × LZ) × Nat × Nat) := bnO (gfI L c0 15 3) fun v1 => bnO (gn_Integer_stringSize a1 S L) fun p2 => nm (wr (v1 + p2)) fun v3 => if isK L c0 15 = true then (bnO (gn_ASB_ensureCapacityInternal c0 v3 S L) fun p4 => adC p4.2.1 p4.2.2 (if isK p4.1.2 c0 15 = true then (bnO (gn_ASB_isLatin1 c0 p4.1.1 p4.1.2) fun p6 => if p6 = true then (bnO (gfV p4.1.2 c0 15 0) fun v9 => rfB v9 fun r10 => bnO (gn_Integer_getChars a1 v3 r10 p4.1.1 p4.1.2) fun p11 => adC p11.2.1 p11.2.2 (bnO (pf p11.1.2.2 c0 15 3 (V v3)) fun L12 => some (((.ref c0), (p11.1.2.1, L12)), 0, 0))) else none) else none)) else none
theorem te_ASB_append2 {sc : SC} {c0 : Nat} {a1 : Int} (ha1 : inR a1) {S : St} {L : List PC} {q : (Value × LZ) × Nat × Nat} (h : gn_ASB_append2 c0 a1 S L = some q) {mc ms k n : Nat} (hb : Bd k n mc ms q) : GX sc M_ASB_append2 mc ms 0 [(0, .ref c0), (1, V a1)] [] (wz (S, L)) k n (KXR q.1.1 q.1.2) := by
  unfold gn_ASB_append2 at h
  refine x_aloadn (pc := 0) (i0 := 0) (j := 0) (dK D_ASB_append2 0 rfl) rfl rfl ?_
  refine bnE h ?_
  clear h
  intro v1 e_v1 h
  refine wx_getI (pc := 1) (ci := 15) (f := 3) e_v1 (dK D_ASB_append2 1 rfl) q_1295 (ltK rfl) (ltK rfl) ?_
  refine x_istoren (pc := 4) (i0 := 2) (ls2 := [(2, V v1), (0, .ref c0), (1, V a1)]) (dK D_ASB_append2 2 rfl) rfl (ltK rfl) rfl ?_
  refine x_iloadn (pc := 5) (i0 := 2) (j := 0) (dK D_ASB_append2 3 rfl) rfl rfl ?_
  refine x_iloadn (pc := 6) (i0 := 1) (j := 2) (dK D_ASB_append2 4 rfl) rfl rfl ?_
  refine bnE h ?_
  clear h
  intro p2 e_p2 h
  refine x_callS (pc := 7) (As := [V a1]) (rest := [V v1]) (mc' := 0) (ms' := 0) (dK D_ASB_append2 5 rfl) Q_ASB_245 (fitK rfl) rfl (leK rfl) (bdk hb) (bdn hb) (tg_Integer_stringSize ha1 e_p2) (kxI' (fun h_p2 => ?_))
  refine wx_iadd (pc := 10) (dK D_ASB_append2 6 rfl) ?_
  refine nmE h ?_
  clear h
  intro v3 e_v3 h
  refine wtop e_v3 ?_
  refine x_istoren (pc := 11) (i0 := 3) (ls2 := [(3, V v3), (2, V v1), (0, .ref c0), (1, V a1)]) (dK D_ASB_append2 7 rfl) rfl (ltK rfl) rfl ?_
  refine x_aloadn (pc := 12) (i0 := 0) (j := 2) (dK D_ASB_append2 8 rfl) rfl rfl ?_
  refine x_iloadn (pc := 13) (i0 := 3) (j := 0) (dK D_ASB_append2 9 rfl) rfl rfl ?_
  refine gdE h ?_
  clear h
  intro hk5 h
  refine bnE h ?_
  clear h
  intro p4 e_p4 h
  obtain ⟨yp4, h9, e9⟩ := adE2 h
  clear h
  subst e9
  have h := h9
  clear h9
  have hk1 := bd1 hb
  have hn1 := bd2 hb
  replace hb := bdA hb
  refine x_callX (pc := 14) (As := [V v3]) (rest := []) (mc' := p4.2.1) (ms' := p4.2.2) (dK D_ASB_append2 10 rfl) Q_ASB_100 sx_ASB_ensureCapacityInternal (fitK rfl) (isK_at (Z := (S, L)) (ci := 15) hk5) rfl (leK rfl) hk1 hn1 (tg_ASB_ensureCapacityInternal (Vn_in e_v3) e_p4) (kxU ?_)
  refine x_aloadn (pc := 17) (i0 := 0) (j := 2) (dK D_ASB_append2 11 rfl) rfl rfl ?_
  refine gdE h ?_
  clear h
  intro hk7 h
  refine bnE h ?_
  clear h
  intro p6 e_p6 h
  refine x_callX (pc := 18) (As := []) (rest := []) (mc' := 0) (ms' := 0) (dK D_ASB_append2 12 rfl) Q_ASB_83 sx_ASB_isLatin1 (fitK rfl) (isK_at (Z := (p4.1.1, p4.1.2)) (ci := 15) hk7) rfl (leK rfl) (bdk hb) (bdn hb) (tg_ASB_isLatin1  e_p6) (kxB' ?_)
  refine wx_ifB_eq (pc := 21) (b := p6) (t := 37) (dK D_ASB_append2 13 rfl) rfl (fun hc8 => ?_) (fun hc8 => ?_)
  · replace h := ifP h hc8
    refine x_iloadn (pc := 24) (i0 := 1) (j := 3) (dK D_ASB_append2 14 rfl) rfl rfl ?_
    refine x_iloadn (pc := 25) (i0 := 3) (j := 0) (dK D_ASB_append2 15 rfl) rfl rfl ?_
    refine x_aloadn (pc := 26) (i0 := 0) (j := 2) (dK D_ASB_append2 16 rfl) rfl rfl ?_
    refine bnE h ?_
    clear h
    intro v9 e_v9 h
    refine wx_getV (pc := 27) (ci := 15) (f := 0) e_v9 (dK D_ASB_append2 17 rfl) q_1292 (ltK rfl) (ltK rfl) (fun hv9 => ?_)
    refine rfE h ?_
    clear h
    intro r10 e_r10 h
    rw [e_r10]
    refine bnE h ?_
    clear h
    intro p11 e_p11 h
    obtain ⟨yp11, h9, e9⟩ := adE2 h
    clear h
    subst e9
    have h := h9
    clear h9
    have hk1 := bd1 hb
    have hn1 := bd2 hb
    replace hb := bdA hb
    refine x_callS (pc := 30) (As := [V a1, V v3, .ref r10]) (rest := []) (mc' := p11.2.1) (ms' := p11.2.2) (dK D_ASB_append2 18 rfl) Q_ASB_248 (fitK rfl) rfl (leK rfl) hk1 hn1 (tg_Integer_getChars ha1 (Vn_in e_v3) e_p11) (kxI' (fun h_p11 => ?_))
    refine x_pop (pc := 33) (dK D_ASB_append2 19 rfl) rfl ?_
    refine x_goto (pc := 34) (tgt := 48) (dK D_ASB_append2 20 rfl) rfl ?_
    refine x_aloadn (pc := 48) (i0 := 0) (j := 2) (dK D_ASB_append2 28 rfl) rfl rfl ?_
    refine x_iloadn (pc := 49) (i0 := 3) (j := 0) (dK D_ASB_append2 29 rfl) rfl rfl ?_
    refine bnE h ?_
    clear h
    intro L12 e_L12 h
    refine wx_put (Z := (p11.1.2.1, p11.1.2.2)) (pc := 50) (ci := 15) (f := 3) e_L12 (dK D_ASB_append2 30 rfl) q_1295 (ltK rfl) (ltK rfl) rfl okInt ?_
    refine x_aloadn (pc := 53) (i0 := 0) (j := 2) (dK D_ASB_append2 31 rfl) rfl rfl ?_
    obtain rfl := Option.some.inj h
    exact wk_aret (pc := 54) (.inr ⟨_, rfl⟩) (dK D_ASB_append2 32 rfl) rfl (by first | exact .inl ⟨_, rfl⟩ | exact .inr ⟨_, rfl⟩) (bdk hb) (bdn hb) ⟨rfl, (.inr ⟨_, rfl⟩), rfl⟩
  · replace h := ifN h hc8
    exact nomatch h
theorem tg_ASB_append2 {sc : SC} {c0 : Nat} {a1 : Int} (ha1 : inR a1) {S : St} {L : List PC} {q : (Value × LZ) × Nat × Nat} (h : gn_ASB_append2 c0 a1 S L = some q) : EvX sc M_ASB_append2 [.ref c0, V a1] (wz (S, L)) q.2.1 q.2.2 (KXR q.1.1 q.1.2) := EvX.of pn2_ASB rfl (leK rfl) (te_ASB_append2 ha1 h ⟨Nat.le_of_eq (Nat.zero_add _), Nat.le_of_eq (Nat.zero_add _)⟩)
def gn_SB_append2 (c0 : Nat) (a1 : Int) (S : St) (L : List PC) : Option ((Value × LZ) × Nat × Nat) := if isK L c0 15 = true then (bnO (gn_ASB_append2 c0 a1 S L) fun p1 => adC p1.2.1 p1.2.2 (some (((.ref c0), (p1.1.2.1, p1.1.2.2)), 0, 0))) else none
theorem te_SB_append2 {sc : SC} {c0 : Nat} {a1 : Int} (ha1 : inR a1) {S : St} {L : List PC} {q : (Value × LZ) × Nat × Nat} (h : gn_SB_append2 c0 a1 S L = some q) {mc ms k n : Nat} (hb : Bd k n mc ms q) : GX sc M_SB_append2 mc ms 0 [(0, .ref c0), (1, V a1)] [] (wz (S, L)) k n (KXR q.1.1 q.1.2) := by
  unfold gn_SB_append2 at h
  refine x_aloadn (pc := 0) (i0 := 0) (j := 0) (dK D_SB_append2 0 rfl) rfl rfl ?_
  refine x_iloadn (pc := 1) (i0 := 1) (j := 1) (dK D_SB_append2 1 rfl) rfl rfl ?_
  refine gdE h ?_
  clear h
  intro hk2 h
  refine bnE h ?_
  clear h
  intro p1 e_p1 h
  obtain ⟨yp1, h9, e9⟩ := adE2 h
  clear h
  subst e9
  have h := h9
  clear h9
  have hk1 := bd1 hb
  have hn1 := bd2 hb
  replace hb := bdA hb
  refine x_callSU (pc := 2) (As := [V a1]) (rest := []) (mc' := p1.2.1) (ms' := p1.2.2) (C := "java/lang/StringBuilder") (dK D_SB_append2 2 rfl) Q_SB_53 q_2095 q_1304 (by decide) q_1276 (fitK rfl) (isK_at (Z := (S, L)) (ci := 15) hk2) rfl (leK rfl) hk1 hn1 (tg_ASB_append2 ha1 e_p1) (kxR (fun h_p1 => ?_))
  refine x_pop (pc := 5) (dK D_SB_append2 3 rfl) (cato h_p1) ?_
  refine x_aloadn (pc := 6) (i0 := 0) (j := 0) (dK D_SB_append2 4 rfl) rfl rfl ?_
  obtain rfl := Option.some.inj h
  exact wk_aret (pc := 7) (.inr ⟨_, rfl⟩) (dK D_SB_append2 5 rfl) rfl (by first | exact .inl ⟨_, rfl⟩ | exact .inr ⟨_, rfl⟩) (bdk hb) (bdn hb) ⟨rfl, (.inr ⟨_, rfl⟩), rfl⟩
theorem tg_SB_append2 {sc : SC} {c0 : Nat} {a1 : Int} (ha1 : inR a1) {S : St} {L : List PC} {q : (Value × LZ) × Nat × Nat} (h : gn_SB_append2 c0 a1 S L = some q) : EvX sc M_SB_append2 [.ref c0, V a1] (wz (S, L)) q.2.1 q.2.2 (KXR q.1.1 q.1.2) := EvX.of pn2_SB rfl (leK rfl) (te_SB_append2 ha1 h ⟨Nat.le_of_eq (Nat.zero_add _), Nat.le_of_eq (Nat.zero_add _)⟩)
def gn_ASB_getValue (c0 : Nat) (S : St) (L : List PC) : Option (Value) := bnO (gfV L c0 15 0) fun v1 => some v1
theorem te_ASB_getValue {sc : SC} {c0 : Nat} {S : St} {L : List PC} {q : Value} (h : gn_ASB_getValue c0 S L = some q) {mc ms k n : Nat} (hk0 : k ≤ mc) (hn0 : n ≤ ms) : GX sc M_ASB_getValue mc ms 0 [(0, .ref c0)] [] (wz (S, L)) k n (KXR q (S, L)) := by
  unfold gn_ASB_getValue at h
  refine x_aloadn (pc := 0) (i0 := 0) (j := 0) (dK D_ASB_getValue 0 rfl) rfl rfl ?_
  refine bnE h ?_
  clear h
  intro v1 e_v1 h
  refine wx_getV (pc := 1) (ci := 15) (f := 0) e_v1 (dK D_ASB_getValue 1 rfl) q_1292 (ltK rfl) (ltK rfl) (fun hv1 => ?_)
  obtain rfl := Option.some.inj h
  exact wk_aret (pc := 4) hv1 (dK D_ASB_getValue 2 rfl) rfl (by first | exact .inl ⟨_, rfl⟩ | exact .inr ⟨_, rfl⟩) hk0 hn0 ⟨rfl, hv1, rfl⟩
theorem tg_ASB_getValue {sc : SC} {c0 : Nat} {S : St} {L : List PC} {q : Value} (h : gn_ASB_getValue c0 S L = some q) : EvX sc M_ASB_getValue [.ref c0] (wz (S, L)) 0 0 (KXR q (S, L)) := EvX.of pn2_ASB rfl (leK rfl) (te_ASB_getValue  h (Nat.le_refl _) (Nat.le_refl _))
def gn_ASB_length (c0 : Nat) (S : St) (L : List PC) : Option (Int) := bnO (gfI L c0 15 3) fun v1 => some v1
theorem te_ASB_length {sc : SC} {c0 : Nat} {S : St} {L : List PC} {q : Int} (h : gn_ASB_length c0 S L = some q) {mc ms k n : Nat} (hk0 : k ≤ mc) (hn0 : n ≤ ms) : GX sc M_ASB_length mc ms 0 [(0, .ref c0)] [] (wz (S, L)) k n (KXI q (S, L)) := by
  unfold gn_ASB_length at h
  refine x_aloadn (pc := 0) (i0 := 0) (j := 0) (dK D_ASB_length 0 rfl) rfl rfl ?_
  refine bnE h ?_
  clear h
  intro v1 e_v1 h
  refine wx_getI (pc := 1) (ci := 15) (f := 3) e_v1 (dK D_ASB_length 1 rfl) q_1295 (ltK rfl) (ltK rfl) ?_
  obtain rfl := Option.some.inj h
  exact wk_iretI (pc := 4) (dK D_ASB_length 2 rfl) rfl hk0 hn0 ⟨rfl, (vI_at e_v1).2, rfl⟩
theorem tg_ASB_length {sc : SC} {c0 : Nat} {S : St} {L : List PC} {q : Int} (h : gn_ASB_length c0 S L = some q) : EvX sc M_ASB_length [.ref c0] (wz (S, L)) 0 0 (KXI q (S, L)) := EvX.of pn2_ASB rfl (leK rfl) (te_ASB_length  h (Nat.le_refl _) (Nat.le_refl _))
def gn_SB_length (c0 : Nat) (S : St) (L : List PC) : Option (Int) := if isK L c0 15 = true then (bnO (gn_ASB_length c0 S L) fun p1 => some p1) else none
theorem te_SB_length {sc : SC} {c0 : Nat} {S : St} {L : List PC} {q : Int} (h : gn_SB_length c0 S L = some q) {mc ms k n : Nat} (hk0 : k ≤ mc) (hn0 : n ≤ ms) : GX sc M_SB_length mc ms 0 [(0, .ref c0)] [] (wz (S, L)) k n (KXI q (S, L)) := by
  unfold gn_SB_length at h
  refine x_aloadn (pc := 0) (i0 := 0) (j := 0) (dK D_SB_length 0 rfl) rfl rfl ?_
  refine gdE h ?_
  clear h
  intro hk2 h
  refine bnE h ?_
  clear h
  intro p1 e_p1 h
  refine x_callSU (pc := 1) (As := []) (rest := []) (mc' := 0) (ms' := 0) (C := "java/lang/StringBuilder") (dK D_SB_length 1 rfl) Q_SB_343 q_1434 q_1304 (by decide) q_1276 (fitK rfl) (isK_at (Z := (S, L)) (ci := 15) hk2) rfl (leK rfl) hk0 hn0 (tg_ASB_length  e_p1) (kxI' (fun h_p1 => ?_))
  obtain rfl := Option.some.inj h
  exact wk_iretI (pc := 4) (dK D_SB_length 2 rfl) rfl hk0 hn0 ⟨rfl, h_p1, rfl⟩
theorem tg_SB_length {sc : SC} {c0 : Nat} {S : St} {L : List PC} {q : Int} (h : gn_SB_length c0 S L = some q) : EvX sc M_SB_length [.ref c0] (wz (S, L)) 0 0 (KXI q (S, L)) := EvX.of pn2_SB rfl (leK rfl) (te_SB_length  h (Nat.le_refl _) (Nat.le_refl _))
def gn_Ars_checkLength (a0 : Int) (a1 : Int) (S : St) (L : List PC) : Option (Unit) := if a0 ≤ a1 then (some ()) else none
theorem te_Ars_checkLength {sc : SC} {a0 : Int} (ha0 : inR a0) {a1 : Int} (ha1 : inR a1) {S : St} {L : List PC} {q : Unit} (h : gn_Ars_checkLength a0 a1 S L = some q) {mc ms k n : Nat} (hk0 : k ≤ mc) (hn0 : n ≤ ms) : GX sc M_Ars_checkLength mc ms 0 [(0, V a0), (1, V a1)] [] (wz (S, L)) k n (KXU (S, L)) := by
  unfold gn_Ars_checkLength at h
  refine x_iloadn (pc := 0) (i0 := 1) (j := 1) (dK D_Ars_checkLength 0 rfl) rfl rfl ?_
  refine x_iloadn (pc := 1) (i0 := 0) (j := 0) (dK D_Ars_checkLength 1 rfl) rfl rfl ?_
  refine wx_icmp_ge (pc := 2) (t := 37) (dK D_Ars_checkLength 2 rfl) rfl ha1 ha0 (fun hc1 => ?_) (fun hc1 => ?_)
  · replace h := ifP h hc1
    exact wk_ret (pc := 37) (dK D_Ars_checkLength 17 rfl) rfl hk0 hn0 ⟨rfl, rfl⟩
  · replace h := ifN h hc1
    exact nomatch h
theorem tg_Ars_checkLength {sc : SC} {a0 : Int} (ha0 : inR a0) {a1 : Int} (ha1 : inR a1) {S : St} {L : List PC} {q : Unit} (h : gn_Ars_checkLength a0 a1 S L = some q) : EvX sc M_Ars_checkLength [V a0, V a1] (wz (S, L)) 0 0 (KXU (S, L)) := EvX.of pn2_Ars rfl (leK rfl) (te_Ars_checkLength ha0 ha1 h (Nat.le_refl _) (Nat.le_refl _))
def gn_Ars_copyOfRangeByte (c0 : Nat) (a1 : Int) (a2 : Int) (S : St) (L : List PC) : Option ((Value × LZ) × Nat × Nat) := bnO (gn_Ars_checkLength a1 a2 S L) fun p1 => nm (wr (a2 - a1)) fun v2 => if (0 : Int) ≤ v2 ∧ (v2 : Int) ≤ 16384 then (if L.length < 900000000 then adC 1 v2.toNat (nw L (101, List.replicate v2.toNat (.int 0)) fun r6 L7 => bnO (alm L7 c0) fun v8 => nm (wr (v8 - a1)) fun v9 => bnO (cpB L7 c0 a1 r6 0 (i_min v9 v2)) fun L10 => some (((.ref r6), (S, L10)), 0, 0)) else none) else none
theorem te_Ars_copyOfRangeByte {sc : SC} {c0 : Nat} {a1 : Int} (ha1 : inR a1) {a2 : Int} (ha2 : inR a2) {S : St} {L : List PC} {q : (Value × LZ) × Nat × Nat} (h : gn_Ars_copyOfRangeByte c0 a1 a2 S L = some q) {mc ms k n : Nat} (hb : Bd k n mc ms q) : GX sc M_Ars_copyOfRangeByte mc ms 0 [(0, .ref c0), (1, V a1), (2, V a2)] [] (wz (S, L)) k n (KXR q.1.1 q.1.2) := by
  unfold gn_Ars_copyOfRangeByte at h
  refine x_iloadn (pc := 0) (i0 := 1) (j := 1) (dK D_Ars_copyOfRangeByte 0 rfl) rfl rfl ?_
  refine x_iloadn (pc := 1) (i0 := 2) (j := 2) (dK D_Ars_copyOfRangeByte 1 rfl) rfl rfl ?_
  refine bnE h ?_
  clear h
  intro p1 e_p1 h
  refine x_callS (pc := 2) (As := [V a1, V a2]) (rest := []) (mc' := 0) (ms' := 0) (dK D_Ars_copyOfRangeByte 2 rfl) Q_Ars_343 (fitK rfl) rfl (leK rfl) (bdk hb) (bdn hb) (tg_Ars_checkLength ha1 ha2 e_p1) (kxU ?_)
  refine x_iloadn (pc := 5) (i0 := 2) (j := 2) (dK D_Ars_copyOfRangeByte 3 rfl) rfl rfl ?_
  refine x_iloadn (pc := 6) (i0 := 1) (j := 1) (dK D_Ars_copyOfRangeByte 4 rfl) rfl rfl ?_
  refine wx_isub (pc := 7) (dK D_Ars_copyOfRangeByte 5 rfl) ?_
  refine nmE h ?_
  clear h
  intro v2 e_v2 h
  refine wtop e_v2 ?_
  refine x_istoren (pc := 8) (i0 := 3) (ls2 := [(3, V v2), (0, .ref c0), (1, V a1), (2, V a2)]) (dK D_Ars_copyOfRangeByte 6 rfl) rfl (ltK rfl) rfl ?_
  refine x_iloadn (pc := 9) (i0 := 3) (j := 0) (dK D_Ars_copyOfRangeByte 7 rfl) rfl rfl ?_
  refine gdE h ?_
  clear h
  intro hz3 h
  refine gdE h ?_
  clear h
  intro hl4 h
  obtain ⟨y5, h9, e9⟩ := adE2 h
  clear h
  subst e9
  have h := h9
  clear h9
  refine nwE h ?_
  clear h
  intro r6 L7 e_r6 e_L7 h
  have hk1 := bd1 hb
  have hn1 := bd2 hb
  replace hb := bdA hb
  refine wn_newa_byte (Z := (S, L)) (pc := 10) e_r6 e_L7 hl4 (Vn_in e_v2) hz3 (dK D_Ars_copyOfRangeByte 8 rfl) q_675 hk1 hn1 ?_
  refine x_astore (pc := 12) (ls2 := [(4, .ref r6), (3, V v2), (0, .ref c0), (1, V a1), (2, V a2)]) (dK D_Ars_copyOfRangeByte 9 rfl) (ltK rfl) rfl ?_
  refine x_aloadn (pc := 14) (i0 := 0) (j := 2) (dK D_Ars_copyOfRangeByte 10 rfl) rfl rfl ?_
  refine x_iloadn (pc := 15) (i0 := 1) (j := 3) (dK D_Ars_copyOfRangeByte 11 rfl) rfl rfl ?_
  refine x_aload (pc := 16) (j := 0) (dK D_Ars_copyOfRangeByte 12 rfl) rfl ?_
  refine wx_iconst (pc := 18) (dK D_Ars_copyOfRangeByte 13 rfl) ?_
  refine x_aloadn (pc := 19) (i0 := 0) (j := 2) (dK D_Ars_copyOfRangeByte 14 rfl) rfl rfl ?_
  refine bnE h ?_
  clear h
  intro v8 e_v8 h
  refine wx_alm (pc := 20) e_v8 (dK D_Ars_copyOfRangeByte 15 rfl) (fun i_v8 => ?_)
  refine x_iloadn (pc := 21) (i0 := 1) (j := 3) (dK D_Ars_copyOfRangeByte 16 rfl) rfl rfl ?_
  refine wx_isub (pc := 22) (dK D_Ars_copyOfRangeByte 17 rfl) ?_
  refine x_iloadn (pc := 23) (i0 := 3) (j := 1) (dK D_Ars_copyOfRangeByte 18 rfl) rfl rfl ?_
  refine nmE h ?_
  clear h
  intro v9 e_v9 h
  refine wsk (st' := [V v2, V v9, V 0, .ref r6, V a1, .ref c0]) (congrArg (fun z9 => [V v2, z9, V 0, .ref r6, V a1, .ref c0]) (Vn e_v9)) ?_
  refine wx_mmin (pc := 24) (dK D_Ars_copyOfRangeByte 19 rfl) q_969 (leK rfl) (leK rfl) (bdk hb) (bdn hb) (Vn_in e_v9) (Vn_in e_v2) ?_
  refine bnE h ?_
  clear h
  intro L10 e_L10 h
  refine wx_copyB (Z := (S, L7)) (pc := 27) e_L10 ha1 (inRk rfl) (i_min_in (Vn_in e_v9) (Vn_in e_v2)) (dK D_Ars_copyOfRangeByte 20 rfl) q_970 (leK rfl) (leK rfl) ?_
  refine x_aload (pc := 30) (j := 0) (dK D_Ars_copyOfRangeByte 21 rfl) rfl ?_
  obtain rfl := Option.some.inj h
  exact wk_aret (pc := 32) (.inr ⟨_, rfl⟩) (dK D_Ars_copyOfRangeByte 22 rfl) rfl (by first | exact .inl ⟨_, rfl⟩ | exact .inr ⟨_, rfl⟩) (bdk hb) (bdn hb) ⟨rfl, (.inr ⟨_, rfl⟩), rfl⟩
theorem tg_Ars_copyOfRangeByte {sc : SC} {c0 : Nat} {a1 : Int} (ha1 : inR a1) {a2 : Int} (ha2 : inR a2) {S : St} {L : List PC} {q : (Value × LZ) × Nat × Nat} (h : gn_Ars_copyOfRangeByte c0 a1 a2 S L = some q) : EvX sc M_Ars_copyOfRangeByte [.ref c0, V a1, V a2] (wz (S, L)) q.2.1 q.2.2 (KXR q.1.1 q.1.2) := EvX.of pn2_Ars rfl (leK rfl) (te_Ars_copyOfRangeByte ha1 ha2 h ⟨Nat.le_of_eq (Nat.zero_add _), Nat.le_of_eq (Nat.zero_add _)⟩)
def gn_Ars_copyOfRange (c0 : Nat) (a1 : Int) (a2 : Int) (S : St) (L : List PC) : Option ((Value × LZ) × Nat × Nat) := if a1 = 0 then (bnO (alm L c0) fun v2 => if a2 = v2 then (bnO (cln L 1 c0) fun vs3 => if L.length < 900000000 then adC 1 vs3.length (nw L (101, vs3) fun r6 L7 => if isA L7 r6 1 = true then (some (((.ref r6), (S, L7)), 0, 0)) else none) else none) else (bnO (gn_Ars_copyOfRangeByte c0 a1 a2 S L) fun p9 => adC p9.2.1 p9.2.2 (some ((p9.1.1, (p9.1.2.1, p9.1.2.2)), 0, 0)))) else (bnO (gn_Ars_copyOfRangeByte c0 a1 a2 S L) fun p1 => adC p1.2.1 p1.2.2 (some ((p1.1.1, (p1.1.2.1, p1.1.2.2)), 0, 0)))
theorem te_Ars_copyOfRange {sc : SC} {c0 : Nat} {a1 : Int} (ha1 : inR a1) {a2 : Int} (ha2 : inR a2) {S : St} {L : List PC} {q : (Value × LZ) × Nat × Nat} (h : gn_Ars_copyOfRange c0 a1 a2 S L = some q) {mc ms k n : Nat} (hb : Bd k n mc ms q) : GX sc M_Ars_copyOfRange mc ms 0 [(0, .ref c0), (1, V a1), (2, V a2)] [] (wz (S, L)) k n (KXR q.1.1 q.1.2) := by
  unfold gn_Ars_copyOfRange at h
  refine x_iloadn (pc := 0) (i0 := 1) (j := 1) (dK D_Ars_copyOfRange 0 rfl) rfl rfl ?_
  refine wx_if_ne (pc := 1) (t := 10) (dK D_Ars_copyOfRange 1 rfl) rfl ha1 (fun hc11 => ?_) (fun hc11 => ?_)
  · replace h := ifN h hc11
    refine x_aloadn (pc := 10) (i0 := 0) (j := 0) (dK D_Ars_copyOfRange 6 rfl) rfl rfl ?_
    refine x_iloadn (pc := 11) (i0 := 1) (j := 1) (dK D_Ars_copyOfRange 7 rfl) rfl rfl ?_
    refine x_iloadn (pc := 12) (i0 := 2) (j := 2) (dK D_Ars_copyOfRange 8 rfl) rfl rfl ?_
    refine bnE h ?_
    clear h
    intro p1 e_p1 h
    obtain ⟨yp1, h9, e9⟩ := adE2 h
    clear h
    subst e9
    have h := h9
    clear h9
    have hk1 := bd1 hb
    have hn1 := bd2 hb
    replace hb := bdA hb
    refine x_callS (pc := 13) (As := [.ref c0, V a1, V a2]) (rest := []) (mc' := p1.2.1) (ms' := p1.2.2) (dK D_Ars_copyOfRange 9 rfl) Q_Ars_339 (fitK rfl) rfl (leK rfl) hk1 hn1 (tg_Ars_copyOfRangeByte ha1 ha2 e_p1) (kxR (fun h_p1 => ?_))
    obtain rfl := Option.some.inj h
    exact wk_aret (pc := 16) h_p1 (dK D_Ars_copyOfRange 10 rfl) rfl (by first | exact .inl ⟨_, rfl⟩ | exact .inr ⟨_, rfl⟩) (bdk hb) (bdn hb) ⟨rfl, h_p1, rfl⟩
  · replace h := ifP h hc11
    refine x_iloadn (pc := 4) (i0 := 2) (j := 2) (dK D_Ars_copyOfRange 2 rfl) rfl rfl ?_
    refine x_aloadn (pc := 5) (i0 := 0) (j := 0) (dK D_Ars_copyOfRange 3 rfl) rfl rfl ?_
    refine bnE h ?_
    clear h
    intro v2 e_v2 h
    refine wx_alm (pc := 6) e_v2 (dK D_Ars_copyOfRange 4 rfl) (fun i_v2 => ?_)
    refine wx_icmp_eq (pc := 7) (t := 17) (dK D_Ars_copyOfRange 5 rfl) rfl ha2 i_v2 (fun hc10 => ?_) (fun hc10 => ?_)
    · replace h := ifP h hc10
      refine x_aloadn (pc := 17) (i0 := 0) (j := 0) (dK D_Ars_copyOfRange 11 rfl) rfl rfl ?_
      refine bnE h ?_
      clear h
      intro vs3 e_vs3 h
      refine gdE h ?_
      clear h
      intro hl4 h
      obtain ⟨y5, h9, e9⟩ := adE2 h
      clear h
      subst e9
      have h := h9
      clear h9
      refine nwE h ?_
      clear h
      intro r6 L7 e_r6 e_L7 h
      have hk1 := bd1 hb
      have hn1 := bd2 hb
      replace hb := bdA hb
      refine wn_clone (Z := (S, L)) (pc := 18) (t := 1) e_r6 e_L7 hl4 e_vs3 (dK D_Ars_copyOfRange 12 rfl) (ltK rfl) rfl q_1330 q_1331 q_975 q_976 q_1332 (List.mem_of_getElem? (i := 6) rfl) (leK rfl) (leK rfl) hk1 hn1 ?_
      refine gdE h ?_
      clear h
      intro hk8 h
      refine wx_castA (Z := (S, L7)) (pc := 21) (t := 1) hk8 (dK D_Ars_copyOfRange 13 rfl) q_1334 (ltK rfl) rfl ?_
      obtain rfl := Option.some.inj h
      exact wk_aret (pc := 24) (.inr ⟨_, rfl⟩) (dK D_Ars_copyOfRange 14 rfl) rfl (by first | exact .inl ⟨_, rfl⟩ | exact .inr ⟨_, rfl⟩) (bdk hb) (bdn hb) ⟨rfl, (.inr ⟨_, rfl⟩), rfl⟩
    · replace h := ifN h hc10
      refine x_aloadn (pc := 10) (i0 := 0) (j := 0) (dK D_Ars_copyOfRange 6 rfl) rfl rfl ?_
      refine x_iloadn (pc := 11) (i0 := 1) (j := 1) (dK D_Ars_copyOfRange 7 rfl) rfl rfl ?_
      refine x_iloadn (pc := 12) (i0 := 2) (j := 2) (dK D_Ars_copyOfRange 8 rfl) rfl rfl ?_
      refine bnE h ?_
      clear h
      intro p9 e_p9 h
      obtain ⟨yp9, h9, e9⟩ := adE2 h
      clear h
      subst e9
      have h := h9
      clear h9
      have hk1 := bd1 hb
      have hn1 := bd2 hb
      replace hb := bdA hb
      refine x_callS (pc := 13) (As := [.ref c0, V a1, V a2]) (rest := []) (mc' := p9.2.1) (ms' := p9.2.2) (dK D_Ars_copyOfRange 9 rfl) Q_Ars_339 (fitK rfl) rfl (leK rfl) hk1 hn1 (tg_Ars_copyOfRangeByte ha1 ha2 e_p9) (kxR (fun h_p9 => ?_))
      obtain rfl := Option.some.inj h
      exact wk_aret (pc := 16) h_p9 (dK D_Ars_copyOfRange 10 rfl) rfl (by first | exact .inl ⟨_, rfl⟩ | exact .inr ⟨_, rfl⟩) (bdk hb) (bdn hb) ⟨rfl, h_p9, rfl⟩
theorem tg_Ars_copyOfRange {sc : SC} {c0 : Nat} {a1 : Int} (ha1 : inR a1) {a2 : Int} (ha2 : inR a2) {S : St} {L : List PC} {q : (Value × LZ) × Nat × Nat} (h : gn_Ars_copyOfRange c0 a1 a2 S L = some q) : EvX sc M_Ars_copyOfRange [.ref c0, V a1, V a2] (wz (S, L)) q.2.1 q.2.2 (KXR q.1.1 q.1.2) := EvX.of pn2_Ars rfl (leK rfl) (te_Ars_copyOfRange ha1 ha2 h ⟨Nat.le_of_eq (Nat.zero_add _), Nat.le_of_eq (Nat.zero_add _)⟩)
def gn_String_init2 (c0 : Nat) (c1 : Nat) (c2 : Value) (S : St) (L : List PC) : Option ((LZ) × Nat × Nat) := if isK L c1 15 = true then (bnO (gn_ASB_getValue c1 S L) fun p1 => if isK L c1 15 = true then (bnO (gn_SB_length c1 S L) fun p3 => if isK L c1 15 = true then (bnO (gn_ASB_isLatin1 c1 S L) fun p5 => if p5 = true then (bnO (pf L c0 16 1 (V 0)) fun L14 => rfB p1 fun r15 => bnO (gn_Ars_copyOfRange r15 0 p3 S L14) fun p16 => adC p16.2.1 p16.2.2 (bnO (pf p16.1.2.2 c0 16 0 (p16.1.1)) fun L17 => some ((p16.1.2.1, L17), 0, 0))) else (bnO (gfI L c1 15 2) fun v8 => if v8 = 0 then (bnO (pf L c0 16 1 (V 1)) fun L9 => rfB p1 fun r10 => bnO (gn_Ars_copyOfRange r10 0 (i_shl p3 1) S L9) fun p11 => adC p11.2.1 p11.2.2 (bnO (pf p11.1.2.2 c0 16 0 (p11.1.1)) fun L12 => some ((p11.1.2.1, L12), 0, 0))) else none)) else none) else none) else none
theorem te_String_init2 {sc : SC} {c0 : Nat} {c1 : Nat} {c2 : Value} (hc2 : c2 = .null ∨ ∃ b, c2 = .ref b) {S : St} {L : List PC} {q : (LZ) × Nat × Nat} (h : gn_String_init2 c0 c1 c2 S L = some q) {mc ms k n : Nat} (hb : Bd k n mc ms q) : GX sc M_String_init2 mc ms 0 [(0, .ref c0), (1, .ref c1), (2, c2)] [] (wz (S, L)) k n (KXU q.1) := by
  unfold gn_String_init2 at h
  refine x_aloadn (pc := 0) (i0 := 0) (j := 0) (dK D_String_init2_0 0 rfl) rfl rfl ?_
  refine x_objinit (pc := 1) (dK D_String_init2_0 1 rfl) q_1426 (leK rfl) (leK rfl) (leK rfl) ?_
  refine x_aloadn (pc := 4) (i0 := 1) (j := 1) (dK D_String_init2_0 2 rfl) rfl rfl ?_
  refine gdE h ?_
  clear h
  intro hk2 h
  refine bnE h ?_
  clear h
  intro p1 e_p1 h
  refine x_callX (pc := 5) (As := []) (rest := []) (mc' := 0) (ms' := 0) (dK D_String_init2_0 3 rfl) Q_String_552 sx_ASB_getValue (fitK rfl) (isK_at (Z := (S, L)) (ci := 15) hk2) rfl (leK rfl) (bdk hb) (bdn hb) (tg_ASB_getValue  e_p1) (kxR (fun h_p1 => ?_))
  refine x_astorenV (pc := 8) (i0 := 3) (ls2 := [(3, p1), (0, .ref c0), (1, .ref c1), (2, c2)]) h_p1 (dK D_String_init2_0 4 rfl) rfl (ltK rfl) (by simp [stI, List.filter, cato hc2]) ?_
  refine x_aloadn (pc := 9) (i0 := 1) (j := 2) (dK D_String_init2_0 5 rfl) rfl rfl ?_
  refine gdE h ?_
  clear h
  intro hk4 h
  refine bnE h ?_
  clear h
  intro p3 e_p3 h
  refine x_callU (pc := 10) (As := []) (rest := []) (mc' := 0) (ms' := 0) (C := "java/lang/StringBuilder") (dK D_String_init2_0 6 rfl) LE_SB_length q_1432 q_1434 q_1433 q_1439 q_1435 q_1436 rfl (by decide) (fitK rfl) (isK_at (Z := (S, L)) (ci := 15) hk4) rfl (leK rfl) (bdk hb) (bdn hb) (tg_SB_length  e_p3) (kxI' (fun h_p3 => ?_))
  refine x_istore (pc := 13) (ls2 := [(4, V p3), (3, p1), (0, .ref c0), (1, .ref c1), (2, c2)]) (dK D_String_init2_0 7 rfl) (ltK rfl) (by simp [stI, List.filter, cato h_p1]) ?_
  refine x_aloadn (pc := 15) (i0 := 1) (j := 3) (dK D_String_init2_0 8 rfl) rfl rfl ?_
  refine gdE h ?_
  clear h
  intro hk6 h
  refine bnE h ?_
  clear h
  intro p5 e_p5 h
  refine x_callX (pc := 16) (As := []) (rest := []) (mc' := 0) (ms' := 0) (dK D_String_init2_0 9 rfl) Q_String_1047 sx_ASB_isLatin1 (fitK rfl) (isK_at (Z := (S, L)) (ci := 15) hk6) rfl (leK rfl) (bdk hb) (bdn hb) (tg_ASB_isLatin1  e_p5) (kxB' ?_)
  refine wx_ifB_eq (pc := 19) (b := p5) (t := 41) (dK D_String_init2_0 10 rfl) rfl (fun hc7 => ?_) (fun hc7 => ?_)
  · replace h := ifP h hc7
    refine x_aloadn (pc := 22) (i0 := 0) (j := 2) (dK D_String_init2_0 11 rfl) rfl rfl ?_
    refine wx_iconst (pc := 23) (dK D_String_init2_0 12 rfl) ?_
    refine bnE h ?_
    clear h
    intro L14 e_L14 h
    refine wx_putF (Z := (S, L)) (pc := 24) (ci := 16) (f := 1) e_L14 (dK D_String_init2_0 13 rfl) q_1461 (ltK rfl) (ltK rfl) rfl rfl rfl ⟨rfl, rfl⟩ ?_
    refine x_aloadn (pc := 27) (i0 := 0) (j := 2) (dK D_String_init2_0 14 rfl) rfl rfl ?_
    refine x_aloadnV (pc := 28) (i0 := 3) (j := 1) h_p1 (dK D_String_init2_0 15 rfl) rfl rfl ?_
    refine wx_iconst (pc := 29) (dK D_String_init2_0 16 rfl) ?_
    refine x_iload (pc := 30) (j := 0) (dK D_String_init2_0 17 rfl) rfl ?_
    refine rfE h ?_
    clear h
    intro r15 e_r15 h
    rw [e_r15]
    refine bnE h ?_
    clear h
    intro p16 e_p16 h
    obtain ⟨yp16, h9, e9⟩ := adE2 h
    clear h
    subst e9
    have h := h9
    clear h9
    have hk1 := bd1 hb
    have hn1 := bd2 hb
    replace hb := bdA hb
    refine x_callS (pc := 32) (As := [.ref r15, V 0, V p3]) (rest := [.ref c0]) (mc' := p16.2.1) (ms' := p16.2.2) (dK D_String_init2_0 18 rfl) Q_String_54 (fitK rfl) rfl (leK rfl) hk1 hn1 (tg_Ars_copyOfRange (inRk rfl) h_p3 e_p16) (kxR (fun h_p16 => ?_))
    refine bnE h ?_
    clear h
    intro L17 e_L17 h
    refine wx_putF (Z := (p16.1.2.1, p16.1.2.2)) (pc := 35) (ci := 16) (f := 0) e_L17 (dK D_String_init2_0 19 rfl) q_1460 (ltK rfl) (ltK rfl) rfl rfl rfl (okArr h_p16) ?_
    refine x_goto (pc := 38) (tgt := 97) (dK D_String_init2_0 20 rfl) rfl ?_
    obtain rfl := Option.some.inj h
    exact wk_ret (pc := 97) (dK D_String_init2_1 0 rfl) rfl (bdk hb) (bdn hb) ⟨rfl, rfl⟩
  · replace h := ifN h hc7
    refine x_gs_compact (pc := 41) (dK D_String_init2_0 21 rfl) q_488 ?_
    refine wsk (st' := [V 1]) rfl ?_
    refine wx_if_eq (pc := 44) (t := 79) (dK D_String_init2_0 22 rfl) rfl (inRk rfl) (fun hc => absurd hc (by decide)) (fun _ => ?_)
    refine x_aloadn (pc := 47) (i0 := 1) (j := 3) (dK D_String_init2_0 23 rfl) rfl rfl ?_
    refine bnE h ?_
    clear h
    intro v8 e_v8 h
    refine wx_getI (pc := 48) (ci := 15) (f := 2) e_v8 (dK D_String_init2_0 24 rfl) q_1294 (ltK rfl) (ltK rfl) ?_
    refine wx_if_eq (pc := 51) (t := 79) (dK D_String_init2_0 25 rfl) rfl (vI_at e_v8).2 (fun hc13 => ?_) (fun hc13 => ?_)
    · replace h := ifP h hc13
      refine x_aloadn (pc := 79) (i0 := 0) (j := 2) (dK D_String_init2_0 39 rfl) rfl rfl ?_
      refine wx_iconst (pc := 80) (dK D_String_init2_0 40 rfl) ?_
      refine bnE h ?_
      clear h
      intro L9 e_L9 h
      refine wx_putF (Z := (S, L)) (pc := 81) (ci := 16) (f := 1) e_L9 (dK D_String_init2_0 41 rfl) q_1461 (ltK rfl) (ltK rfl) rfl rfl rfl ⟨rfl, rfl⟩ ?_
      refine x_aloadn (pc := 84) (i0 := 0) (j := 2) (dK D_String_init2_0 42 rfl) rfl rfl ?_
      refine x_aloadnV (pc := 85) (i0 := 3) (j := 1) h_p1 (dK D_String_init2_0 43 rfl) rfl rfl ?_
      refine wx_iconst (pc := 86) (dK D_String_init2_0 44 rfl) ?_
      refine x_iload (pc := 87) (j := 0) (dK D_String_init2_0 45 rfl) rfl ?_
      refine wx_iconst (pc := 89) (dK D_String_init2_0 46 rfl) ?_
      refine wx_ishl (pc := 90) (dK D_String_init2_0 47 rfl) ?_
      refine rfE h ?_
      clear h
      intro r10 e_r10 h
      rw [e_r10]
      refine bnE h ?_
      clear h
      intro p11 e_p11 h
      obtain ⟨yp11, h9, e9⟩ := adE2 h
      clear h
      subst e9
      have h := h9
      clear h9
      have hk1 := bd1 hb
      have hn1 := bd2 hb
      replace hb := bdA hb
      refine x_callS (pc := 91) (As := [.ref r10, V 0, V (i_shl p3 1)]) (rest := [.ref c0]) (mc' := p11.2.1) (ms' := p11.2.2) (dK D_String_init2_0 48 rfl) Q_String_54 (fitK rfl) rfl (leK rfl) hk1 hn1 (tg_Ars_copyOfRange (inRk rfl) (toInt_in _) e_p11) (kxR (fun h_p11 => ?_))
      refine bnE h ?_
      clear h
      intro L12 e_L12 h
      refine wx_putF (Z := (p11.1.2.1, p11.1.2.2)) (pc := 94) (ci := 16) (f := 0) e_L12 (dK D_String_init2_0 49 rfl) q_1460 (ltK rfl) (ltK rfl) rfl rfl rfl (okArr h_p11) ?_
      obtain rfl := Option.some.inj h
      exact wk_ret (pc := 97) (dK D_String_init2_1 0 rfl) rfl (bdk hb) (bdn hb) ⟨rfl, rfl⟩
    · replace h := ifN h hc13
      exact nomatch h
theorem tg_String_init2 {sc : SC} {c0 : Nat} {c1 : Nat} {c2 : Value} (hc2 : c2 = .null ∨ ∃ b, c2 = .ref b) {S : St} {L : List PC} {q : (LZ) × Nat × Nat} (h : gn_String_init2 c0 c1 c2 S L = some q) : EvX sc M_String_init2 [.ref c0, .ref c1, c2] (wz (S, L)) q.2.1 q.2.2 (KXU q.1) := by
  rcases hc2 with e_c2 | ⟨b_c2, e_c2⟩ <;> subst e_c2 <;>
  exact EvX.of pn2_String rfl (leK rfl) (te_String_init2 (by first | exact .inl rfl | exact .inr ⟨_, rfl⟩) h ⟨Nat.le_of_eq (Nat.zero_add _), Nat.le_of_eq (Nat.zero_add _)⟩)
def gn_String_init (c0 : Nat) (c1 : Nat) (S : St) (L : List PC) : Option ((LZ) × Nat × Nat) := bnO (gn_String_init2 c0 c1 .null S L) fun p1 => adC p1.2.1 p1.2.2 (some ((p1.1.1, p1.1.2), 0, 0))
theorem te_String_init {sc : SC} {c0 : Nat} {c1 : Nat} {S : St} {L : List PC} {q : (LZ) × Nat × Nat} (h : gn_String_init c0 c1 S L = some q) {mc ms k n : Nat} (hb : Bd k n mc ms q) : GX sc M_String_init mc ms 0 [(0, .ref c0), (1, .ref c1)] [] (wz (S, L)) k n (KXU q.1) := by
  unfold gn_String_init at h
  refine x_aloadn (pc := 0) (i0 := 0) (j := 0) (dK D_String_init 0 rfl) rfl rfl ?_
  refine x_aloadn (pc := 1) (i0 := 1) (j := 1) (dK D_String_init 1 rfl) rfl rfl ?_
  refine x_null (pc := 2) (dK D_String_init 2 rfl) ?_
  refine bnE h ?_
  clear h
  intro p1 e_p1 h
  obtain ⟨yp1, h9, e9⟩ := adE2 h
  clear h
  subst e9
  have h := h9
  clear h9
  have hk1 := bd1 hb
  have hn1 := bd2 hb
  replace hb := bdA hb
  refine x_callI (pc := 3) (As := [.ref c1, .null]) (rest := []) (mc' := p1.2.1) (ms' := p1.2.2) (dK D_String_init 3 rfl) Q_String_489 (fitK rfl) rfl (leK rfl) hk1 hn1 (tg_String_init2 (.inl rfl) e_p1) (kxU ?_)
  obtain rfl := Option.some.inj h
  exact wk_ret (pc := 6) (dK D_String_init 4 rfl) rfl (bdk hb) (bdn hb) ⟨rfl, rfl⟩
theorem tg_String_init {sc : SC} {c0 : Nat} {c1 : Nat} {S : St} {L : List PC} {q : (LZ) × Nat × Nat} (h : gn_String_init c0 c1 S L = some q) : EvX sc M_String_init [.ref c0, .ref c1] (wz (S, L)) q.2.1 q.2.2 (KXU q.1) := EvX.of pn2_String rfl (leK rfl) (te_String_init  h ⟨Nat.le_of_eq (Nat.zero_add _), Nat.le_of_eq (Nat.zero_add _)⟩)
def gn_SB_toString (c0 : Nat) (S : St) (L : List PC) : Option ((Value × LZ) × Nat × Nat) := if L.length < 900000000 then adC 1 4 (nw L (16, dfl 16) fun r2 L3 => bnO (gn_String_init r2 c0 S L3) fun p5 => adC p5.2.1 p5.2.2 (some (((.ref r2), (p5.1.1, p5.1.2)), 0, 0))) else none
theorem te_SB_toString {sc : SC} {c0 : Nat} {S : St} {L : List PC} {q : (Value × LZ) × Nat × Nat} (h : gn_SB_toString c0 S L = some q) {mc ms k n : Nat} (hb : Bd k n mc ms q) : GX sc M_SB_toString mc ms 0 [(0, .ref c0)] [] (wz (S, L)) k n (KXR q.1.1 q.1.2) := by
  unfold gn_SB_toString at h
  refine gdE h ?_
  clear h
  intro hl1 h
  obtain ⟨y4, h9, e9⟩ := adE2 h
  clear h
  subst e9
  have h := h9
  clear h9
  refine nwE h ?_
  clear h
  intro r2 L3 e_r2 e_L3 h
  have hk1 := bd1 hb
  have hn1 := bd2 hb
  replace hb := bdA hb
  refine wn_new (Z := (S, L)) (pc := 0) (ci := 16) (N := 4) e_r2 e_L3 hl1 rfl (dK D_SB_toString 0 rfl) (ltK rfl) q_1419 q_1180 q_25 hk1 hn1 ?_
  refine x_dup (pc := 3) (dK D_SB_toString 1 rfl) rfl ?_
  refine x_aloadn (pc := 4) (i0 := 0) (j := 0) (dK D_SB_toString 2 rfl) rfl rfl ?_
  refine bnE h ?_
  clear h
  intro p5 e_p5 h
  obtain ⟨yp5, h9, e9⟩ := adE2 h
  clear h
  subst e9
  have h := h9
  clear h9
  have hk1 := bd1 hb
  have hn1 := bd2 hb
  replace hb := bdA hb
  refine x_callI (pc := 5) (As := [.ref c0]) (rest := [.ref r2]) (mc' := p5.2.1) (ms' := p5.2.2) (dK D_SB_toString 3 rfl) Q_SB_137 (fitK rfl) rfl (leK rfl) hk1 hn1 (tg_String_init  e_p5) (kxU ?_)
  obtain rfl := Option.some.inj h
  exact wk_aret (pc := 8) (.inr ⟨_, rfl⟩) (dK D_SB_toString 4 rfl) rfl (by first | exact .inl ⟨_, rfl⟩ | exact .inr ⟨_, rfl⟩) (bdk hb) (bdn hb) ⟨rfl, (.inr ⟨_, rfl⟩), rfl⟩
theorem tg_SB_toString {sc : SC} {c0 : Nat} {S : St} {L : List PC} {q : (Value × LZ) × Nat × Nat} (h : gn_SB_toString c0 S L = some q) : EvX sc M_SB_toString [.ref c0] (wz (S, L)) q.2.1 q.2.2 (KXR q.1.1 q.1.2) := EvX.of pn2_SB rfl (leK rfl) (te_SB_toString  h ⟨Nat.le_of_eq (Nat.zero_add _), Nat.le_of_eq (Nat.zero_add _)⟩)
