def lb2_Law_choices_41 (c1 : Nat) (a2 : Int) (a3 : Int) (a4 : Int) (a5 : Int) (c6 : Nat) (go : Int × Int × LZ → Option (((Bool × LZ) ⊕ (Int × LZ)) × Nat × Nat)) (a7 : Int) (a8 : Int) (S : St) (L : List PC) : Option (((Bool × LZ) ⊕ (Int × LZ)) × Nat × Nat) := if isK L c1 12 = true then (bnO (gn_LP_pages c1 S L) fun p11 => nm (wr (p11 + 1)) fun v13 => if v13 < a8 then (some (.inr (a7, (S, L)), 0, 0)) else (if isK L c1 12 = true then (bnO (gn_LP_reason c1 c6 a8 S L) fun p14 => adC p14.2.1 p14.2.2 (bnO (fn_FP_reason 0 a5 a8 p14.1.2.1) fun p16 => if p16.1 = 0 then (adC 1 6 (if p16.2 = p14.1.1 then (if p14.1.1 = 0 then (nm (wr (a7 + 1)) fun v19 => nm (wr (a8 + 1)) fun v20 => go (v19, v20, (p14.1.2.1, p14.1.2.2))) else (nm (wr (a7 + 0)) fun v17 => nm (wr (a8 + 1)) fun v18 => go (v17, v18, (p14.1.2.1, p14.1.2.2)))) else (some (.inl (false, (p14.1.2.1, p14.1.2.2)), 0, 0)))) else none)) else none)) else none
def lo2_Law_choices_41 (c1 : Nat) (a2 : Int) (a3 : Int) (a4 : Int) (a5 : Int) (c6 : Nat) : Nat → Int × Int × LZ → Option (((Bool × LZ) ⊕ (Int × LZ)) × Nat × Nat) := lp fun go p => lb2_Law_choices_41 c1 a2 a3 a4 a5 c6 go p.1 p.2.1 p.2.2.1 p.2.2.2
theorem tl2_Law_choices_41 {sc : SC} {c1 : Nat} {a2 : Int} (ha2 : inR a2) {a3 : Int} (ha3 : inR a3) {a4 : Int} (ha4 : inR a4) {a5 : Int} (ha5 : inR a5) {c6 : Nat} {K : Option Value → List PC → Prop} {mc ms kt nt : Nat} (hkt : kt ≤ mc) (hnt : nt ≤ ms) : ∀ (N : Nat) (a : Int × Int × LZ) (q : ((Bool × LZ) ⊕ (Int × LZ)) × Nat × Nat), lo2_Law_choices_41 c1 a2 a3 a4 a5 c6 N a = some q → ∀ k n, Bd k n kt nt q → inR a.1 → inR a.2.1 → (∀ e, q.1 = .inr e → inR e.1 → GX sc M_Law_choices mc ms 98 [(0, .ref 0), (1, .ref c1), (2, V a2), (3, V a3), (4, V a4), (5, V a5), (6, .ref c6), (7, V e.1)] [] (wz e.2) kt nt K) → (∀ r, q.1 = .inl r → K (some (V (bi r.1))) (wz r.2)) → GX sc M_Law_choices mc ms 41 [(0, .ref 0), (1, .ref c1), (2, V a2), (3, V a3), (4, V a4), (5, V a5), (6, .ref c6), (7, V a.1), (8, V a.2.1)] [] (wz a.2.2) k n K := by
  refine lp_ind2 (P := fun (a : Int × Int × LZ) (q : ((Bool × LZ) ⊕ (Int × LZ)) × Nat × Nat) => ∀ k n, Bd k n kt nt q → inR a.1 → inR a.2.1 → (∀ e, q.1 = .inr e → inR e.1 → GX sc M_Law_choices mc ms 98 [(0, .ref 0), (1, .ref c1), (2, V a2), (3, V a3), (4, V a4), (5, V a5), (6, .ref c6), (7, V e.1)] [] (wz e.2) kt nt K) → (∀ r, q.1 = .inl r → K (some (V (bi r.1))) (wz r.2)) → GX sc M_Law_choices mc ms 41 [(0, .ref 0), (1, .ref c1), (2, V a2), (3, V a3), (4, V a4), (5, V a5), (6, .ref c6), (7, V a.1), (8, V a.2.1)] [] (wz a.2.2) k n K) (fun go ih a q h => ?_)
  obtain ⟨a7, a8, ⟨S, L⟩⟩ := a
  intro k n hb ha7 ha8 hx hr
  show GX sc M_Law_choices mc ms 41 [(0, .ref 0), (1, .ref c1), (2, V a2), (3, V a3), (4, V a4), (5, V a5), (6, .ref c6), (7, V a7), (8, V a8)] [] (wz (S, L)) k n K
  replace h : lb2_Law_choices_41 c1 a2 a3 a4 a5 c6 go a7 a8 S L = some q := h
  unfold lb2_Law_choices_41 at h
  refine x_iload (pc := 41) (j := 8) (dK D_Law_choices_0 21 rfl) rfl ?_
  refine x_aloadn (pc := 43) (i0 := 1) (j := 1) (dK D_Law_choices_0 22 rfl) rfl rfl ?_
  refine gdE h ?_
  clear h
  intro hk12 h
  refine bnE h ?_
  clear h
  intro p11 e_p11 h
  refine x_callX (pc := 44) (As := []) (rest := [V a8]) (mc' := 0) (ms' := 0) (dK D_Law_choices_0 23 rfl) Q_Law_42 sx_LP_pages (fitK rfl) (isK_at (Z := (S, L)) (ci := 12) hk12) rfl (leK rfl) (Nat.le_trans (bdk hb) hkt) (Nat.le_trans (bdn hb) hnt) (tg_LP_pages  e_p11) (kxI' (fun h_p11 => ?_))
  refine wx_iconst (pc := 47) (dK D_Law_choices_0 24 rfl) ?_
  refine wx_iadd (pc := 48) (dK D_Law_choices_0 25 rfl) ?_
  refine nmE h ?_
  clear h
  intro v13 e_v13 h
  refine wtop e_v13 ?_
  refine wx_icmp_gt (pc := 49) (t := 98) (dK D_Law_choices_0 26 rfl) rfl ha8 (Vn_in e_v13) (fun hc23 => ?_) (fun hc23 => ?_)
  · replace h := ifP h hc23
    obtain rfl := Option.some.inj h
    refine x_weak (ls' := [(0, .ref 0), (1, .ref c1), (2, V a2), (3, V a3), (4, V a4), (5, V a5), (6, .ref c6), (7, V a7)]) (sbc 0 rfl (sbc 1 rfl (sbc 2 rfl (sbc 3 rfl (sbc 4 rfl (sbc 5 rfl (sbc 6 rfl (sbc 7 rfl sbn)))))))) ?_
    refine x_room (bdk hb) (bdn hb) ?_
    exact hx (a7, (S, L)) rfl ha7
  · replace h := ifN h hc23
    refine x_aloadn (pc := 52) (i0 := 1) (j := 1) (dK D_Law_choices_0 27 rfl) rfl rfl ?_
    refine x_aload (pc := 53) (j := 6) (dK D_Law_choices_0 28 rfl) rfl ?_
    refine x_iload (pc := 55) (j := 8) (dK D_Law_choices_0 29 rfl) rfl ?_
    refine gdE h ?_
    clear h
    intro hk15 h
    refine bnE h ?_
    clear h
    intro p14 e_p14 h
    obtain ⟨yp14, h9, e9⟩ := adE2 h
    clear h
    subst e9
    have h := h9
    clear h9
    have hk1 := Nat.le_trans (bd1 hb) hkt
    have hn1 := Nat.le_trans (bd2 hb) hnt
    replace hb := bdA hb
    refine x_callX (pc := 57) (As := [.ref c6, V a8]) (rest := []) (mc' := p14.2.1) (ms' := p14.2.2) (dK D_Law_choices_0 30 rfl) Q_Law_261 sx_LP_reason (fitK rfl) (isK_at (Z := (S, L)) (ci := 12) hk15) rfl (leK rfl) hk1 hn1 (tg_LP_reason ha8 e_p14) (kxI' (fun h_p14 => ?_))
    refine x_istore (pc := 60) (ls2 := [(9, V p14.1.1), (0, .ref 0), (1, .ref c1), (2, V a2), (3, V a3), (4, V a4), (5, V a5), (6, .ref c6), (7, V a7), (8, V a8)]) (dK D_Law_choices_0 31 rfl) (ltK rfl) rfl ?_
    refine x_aloadn (pc := 62) (i0 := 0) (j := 1) (dK D_Law_choices_0 32 rfl) rfl rfl ?_
    refine x_iload (pc := 63) (j := 6) (dK D_Law_choices_0 33 rfl) rfl ?_
    refine x_iload (pc := 65) (j := 9) (dK D_Law_choices_0 34 rfl) rfl ?_
    refine bnE h ?_
    clear h
    intro p16 e_p16 h
    refine gdE h ?_
    clear h
    intro hz_p16 h
    obtain ⟨yp16, h9, e9⟩ := adE2 h
    clear h
    subst e9
    have h := h9
    clear h9
    have hk1 := Nat.le_trans (bd1 hb) hkt
    have hn1 := Nat.le_trans (bd2 hb) hnt
    replace hb := bdA hb
    refine x_callX (pc := 67) (As := [V a5, V a8]) (rest := []) (mc' := 1) (ms' := 6) (dK D_Law_choices_0 35 rfl) Q_Law_265 sx_FP_reason (fitK rfl) (isK_at (Z := (p14.1.2.1, p14.1.2.2)) (ci := 10) isK0) rfl (leK rfl) hk1 hn1 (clTI hz_p16 (fun E => tf_FP_reason (X := xz p14.1.2.2) rfl xz_hc ha5 ha8 e_p16)) (kxI' (fun h_p16 => ?_))
    refine x_iload (pc := 70) (j := 0) (dK D_Law_choices_0 36 rfl) rfl ?_
    refine wx_icmp_eq (pc := 72) (t := 77) (dK D_Law_choices_0 37 rfl) rfl h_p16 h_p14 (fun hc22 => ?_) (fun hc22 => ?_)
    · replace h := ifP h hc22
      refine x_iload (pc := 77) (j := 8) (dK D_Law_choices_0 40 rfl) rfl ?_
      refine x_iload (pc := 79) (j := 0) (dK D_Law_choices_0 41 rfl) rfl ?_
      refine wx_if_ne (pc := 81) (t := 88) (dK D_Law_choices_0 42 rfl) rfl h_p14 (fun hc21 => ?_) (fun hc21 => ?_)
      · replace h := ifN h hc21
        refine wx_iconst (pc := 88) (dK D_Law_choices_0 45 rfl) ?_
        refine wx_iadd (pc := 89) (dK D_Law_choices_0 46 rfl) ?_
        refine nmE h ?_
        clear h
        intro v17 e_v17 h
        refine wtop e_v17 ?_
        refine x_istore (pc := 90) (ls2 := [(7, V v17), (9, V p14.1.1), (0, .ref 0), (1, .ref c1), (2, V a2), (3, V a3), (4, V a4), (5, V a5), (6, .ref c6), (8, V a8)]) (dK D_Law_choices_0 47 rfl) (ltK rfl) rfl ?_
        refine nmE h ?_
        clear h
        intro v18 e_v18 h
        refine wx_iinc (pc := 92) (j := 9) (a := a8) (z := 1) (ls2 := [(8, V v18), (7, V v17), (9, V p14.1.1), (0, .ref 0), (1, .ref c1), (2, V a2), (3, V a3), (4, V a4), (5, V a5), (6, .ref c6)]) (dK D_Law_choices_0 48 rfl) rfl e_v18 (ltK rfl) rfl ?_
        refine x_goto (pc := 95) (tgt := 41) (dK D_Law_choices_0 49 rfl) rfl ?_
        refine x_weak (ls' := [(0, .ref 0), (1, .ref c1), (2, V a2), (3, V a3), (4, V a4), (5, V a5), (6, .ref c6), (7, V v17), (8, V v18)]) (sbc 3 rfl (sbc 4 rfl (sbc 5 rfl (sbc 6 rfl (sbc 7 rfl (sbc 8 rfl (sbc 9 rfl (sbc 1 rfl (sbc 0 rfl sbn))))))))) ?_
        replace h := ih _ _ h
        exact h _ _ hb (Vn_in e_v17) (Vn_in e_v18) hx hr
      · replace h := ifP h hc21
        refine wx_iconst (pc := 84) (dK D_Law_choices_0 43 rfl) ?_
        refine x_goto (pc := 85) (tgt := 89) (dK D_Law_choices_0 44 rfl) rfl ?_
        refine wx_iadd (pc := 89) (dK D_Law_choices_0 46 rfl) ?_
        refine nmE h ?_
        clear h
        intro v19 e_v19 h
        refine wtop e_v19 ?_
        refine x_istore (pc := 90) (ls2 := [(7, V v19), (9, V p14.1.1), (0, .ref 0), (1, .ref c1), (2, V a2), (3, V a3), (4, V a4), (5, V a5), (6, .ref c6), (8, V a8)]) (dK D_Law_choices_0 47 rfl) (ltK rfl) rfl ?_
        refine nmE h ?_
        clear h
        intro v20 e_v20 h
        refine wx_iinc (pc := 92) (j := 9) (a := a8) (z := 1) (ls2 := [(8, V v20), (7, V v19), (9, V p14.1.1), (0, .ref 0), (1, .ref c1), (2, V a2), (3, V a3), (4, V a4), (5, V a5), (6, .ref c6)]) (dK D_Law_choices_0 48 rfl) rfl e_v20 (ltK rfl) rfl ?_
        refine x_goto (pc := 95) (tgt := 41) (dK D_Law_choices_0 49 rfl) rfl ?_
        refine x_weak (ls' := [(0, .ref 0), (1, .ref c1), (2, V a2), (3, V a3), (4, V a4), (5, V a5), (6, .ref c6), (7, V v19), (8, V v20)]) (sbc 3 rfl (sbc 4 rfl (sbc 5 rfl (sbc 6 rfl (sbc 7 rfl (sbc 8 rfl (sbc 9 rfl (sbc 1 rfl (sbc 0 rfl sbn))))))))) ?_
        replace h := ih _ _ h
        exact h _ _ hb (Vn_in e_v19) (Vn_in e_v20) hx hr
    · replace h := ifN h hc22
      refine wx_iconst (pc := 75) (dK D_Law_choices_0 38 rfl) ?_
      obtain rfl := Option.some.inj h
      exact wk_iretB (pc := 76) (b := false) (dK D_Law_choices_0 39 rfl) rfl (Nat.le_trans (bdk hb) hkt) (Nat.le_trans (bdn hb) hnt) (hr (false, (p14.1.2.1, p14.1.2.2)) rfl)
def lb2_Law_choices_9 (c1 : Nat) (a2 : Int) (go : Int × Int × Int × LZ → Option (((Bool × LZ) ⊕ (Int × LZ)) × Nat × Nat)) (a3 : Int) (a4 : Int) (a5 : Int) (S : St) (L : List PC) : Option (((Bool × LZ) ⊕ (Int × LZ)) × Nat × Nat) := bnO (gfV L c1 12 4) fun v1 => rfB v1 fun r2 => if isK L r2 13 = true then (bnO (gn_AL_size r2 S L) fun p3 => if p3 ≤ a5 then (some (.inr (a3, (S, L)), 0, 0)) else (bnO (gfV L c1 12 4) fun v5 => rfB v5 fun r6 => if isK L r6 13 = true then (bnO (gn_AL_get r6 a5 S L) fun p7 => rfB p7 fun r9 => if isK L r9 11 = true then (bnT (lo2_Law_choices_41 c1 a2 a3 a4 a5 r9 FU (0, 0, (S, L))) (fun r25 => some (.inl (r25.1, (r25.2.1, r25.2.2)), 0, 0)) fun e26 => bnO (fn_FP_choices 0 a5 e26.2.1) fun p27 => if p27.1 = 0 then (adC 1 6 (if p27.2 = e26.1 then (bnO (gfI e26.2.2 r9 11 5) fun v28 => if 0 < v28 then (nm (wr (a5 + 1)) fun v29 => go (a3, a4, v29, (e26.2.1, e26.2.2))) else (if e26.1 < a4 then (nm (wr (a5 + 1)) fun v30 => go (a5, e26.1, v30, (e26.2.1, e26.2.2))) else (nm (wr (a5 + 1)) fun v31 => go (a3, a4, v31, (e26.2.1, e26.2.2))))) else (some (.inl (false, (e26.2.1, e26.2.2)), 0, 0)))) else none) else none) else none)) else none
def lo2_Law_choices_9 (c1 : Nat) (a2 : Int) : Nat → Int × Int × Int × LZ → Option (((Bool × LZ) ⊕ (Int × LZ)) × Nat × Nat) := lp fun go p => lb2_Law_choices_9 c1 a2 go p.1 p.2.1 p.2.2.1 p.2.2.2.1 p.2.2.2.2
theorem tl2_Law_choices_9 {sc : SC} {c1 : Nat} {a2 : Int} (ha2 : inR a2) {K : Option Value → List PC → Prop} {mc ms kt nt : Nat} (hkt : kt ≤ mc) (hnt : nt ≤ ms) : ∀ (N : Nat) (a : Int × Int × Int × LZ) (q : ((Bool × LZ) ⊕ (Int × LZ)) × Nat × Nat), lo2_Law_choices_9 c1 a2 N a = some q → ∀ k n, Bd k n kt nt q → inR a.1 → inR a.2.1 → inR a.2.2.1 → (∀ e, q.1 = .inr e → inR e.1 → GX sc M_Law_choices mc ms 142 [(0, .ref 0), (1, .ref c1), (2, V a2), (3, V e.1)] [] (wz e.2) kt nt K) → (∀ r, q.1 = .inl r → K (some (V (bi r.1))) (wz r.2)) → GX sc M_Law_choices mc ms 9 [(0, .ref 0), (1, .ref c1), (2, V a2), (3, V a.1), (4, V a.2.1), (5, V a.2.2.1)] [] (wz a.2.2.2) k n K := by
  refine lp_ind2 (P := fun (a : Int × Int × Int × LZ) (q : ((Bool × LZ) ⊕ (Int × LZ)) × Nat × Nat) => ∀ k n, Bd k n kt nt q → inR a.1 → inR a.2.1 → inR a.2.2.1 → (∀ e, q.1 = .inr e → inR e.1 → GX sc M_Law_choices mc ms 142 [(0, .ref 0), (1, .ref c1), (2, V a2), (3, V e.1)] [] (wz e.2) kt nt K) → (∀ r, q.1 = .inl r → K (some (V (bi r.1))) (wz r.2)) → GX sc M_Law_choices mc ms 9 [(0, .ref 0), (1, .ref c1), (2, V a2), (3, V a.1), (4, V a.2.1), (5, V a.2.2.1)] [] (wz a.2.2.2) k n K) (fun go ih a q h => ?_)
  obtain ⟨a3, a4, a5, ⟨S, L⟩⟩ := a
  intro k n hb ha3 ha4 ha5 hx hr
  show GX sc M_Law_choices mc ms 9 [(0, .ref 0), (1, .ref c1), (2, V a2), (3, V a3), (4, V a4), (5, V a5)] [] (wz (S, L)) k n K
  replace h : lb2_Law_choices_9 c1 a2 go a3 a4 a5 S L = some q := h
  unfold lb2_Law_choices_9 at h
  refine x_iload (pc := 9) (j := 5) (dK D_Law_choices_0 6 rfl) rfl ?_
  refine x_aloadn (pc := 11) (i0 := 1) (j := 1) (dK D_Law_choices_0 7 rfl) rfl rfl ?_
  refine bnE h ?_
  clear h
  intro v1 e_v1 h
  refine wx_getV (pc := 12) (ci := 12) (f := 4) e_v1 (dK D_Law_choices_0 8 rfl) q_776 (ltK rfl) (ltK rfl) (fun hv1 => ?_)
  refine rfE h ?_
  clear h
  intro r2 e_r2 h
  rw [e_r2]
  refine gdE h ?_
  clear h
  intro hk4 h
  refine bnE h ?_
  clear h
  intro p3 e_p3 h
  refine x_callX (pc := 15) (As := []) (rest := [V a5]) (mc' := 0) (ms' := 0) (dK D_Law_choices_0 9 rfl) Q_Law_55 sx_AL_size (fitK rfl) (isK_at (Z := (S, L)) (ci := 13) hk4) rfl (leK rfl) (Nat.le_trans (bdk hb) hkt) (Nat.le_trans (bdn hb) hnt) (tg_AL_size  e_p3) (kxI' (fun h_p3 => ?_))
  refine wx_icmp_ge (pc := 18) (t := 142) (dK D_Law_choices_0 10 rfl) rfl ha5 h_p3 (fun hc35 => ?_) (fun hc35 => ?_)
  · replace h := ifP h hc35
    obtain rfl := Option.some.inj h
    refine x_weak (ls' := [(0, .ref 0), (1, .ref c1), (2, V a2), (3, V a3)]) (sbc 0 rfl (sbc 1 rfl (sbc 2 rfl (sbc 3 rfl sbn)))) ?_
    refine x_room (bdk hb) (bdn hb) ?_
    exact hx (a3, (S, L)) rfl ha3
  · replace h := ifN h hc35
    refine x_aloadn (pc := 21) (i0 := 1) (j := 1) (dK D_Law_choices_0 11 rfl) rfl rfl ?_
    refine bnE h ?_
    clear h
    intro v5 e_v5 h
    refine wx_getV (pc := 22) (ci := 12) (f := 4) e_v5 (dK D_Law_choices_0 12 rfl) q_776 (ltK rfl) (ltK rfl) (fun hv5 => ?_)
    refine x_iload (pc := 25) (j := 5) (dK D_Law_choices_0 13 rfl) rfl ?_
    refine rfE h ?_
    clear h
    intro r6 e_r6 h
    rw [e_r6]
    refine gdE h ?_
    clear h
    intro hk8 h
    refine bnE h ?_
    clear h
    intro p7 e_p7 h
    refine x_callX (pc := 27) (As := [V a5]) (rest := []) (mc' := 0) (ms' := 0) (dK D_Law_choices_0 14 rfl) Q_Law_69 sx_AL_get (fitK rfl) (isK_at (Z := (S, L)) (ci := 13) hk8) rfl (leK rfl) (Nat.le_trans (bdk hb) hkt) (Nat.le_trans (bdn hb) hnt) (tg_AL_get ha5 e_p7) (kxR (fun h_p7 => ?_))
    refine rfE h ?_
    clear h
    intro r9 e_r9 h
    rw [e_r9]
    refine gdE h ?_
    clear h
    intro hk10 h
    refine x_cast (pc := 30) (dK D_Law_choices_0 15 rfl) q_1033 (isK_at (Z := (S, L)) (ci := 11) hk10) ?_
    refine x_astore (pc := 33) (ls2 := [(6, .ref r9), (0, .ref 0), (1, .ref c1), (2, V a2), (3, V a3), (4, V a4), (5, V a5)]) (dK D_Law_choices_0 16 rfl) (ltK rfl) rfl ?_
    refine wx_iconst (pc := 35) (dK D_Law_choices_0 17 rfl) ?_
    refine x_istore (pc := 36) (ls2 := [(7, V 0), (6, .ref r9), (0, .ref 0), (1, .ref c1), (2, V a2), (3, V a3), (4, V a4), (5, V a5)]) (dK D_Law_choices_0 18 rfl) (ltK rfl) rfl ?_
    refine wx_iconst (pc := 38) (dK D_Law_choices_0 19 rfl) ?_
    refine x_istore (pc := 39) (ls2 := [(8, V 0), (7, V 0), (6, .ref r9), (0, .ref 0), (1, .ref c1), (2, V a2), (3, V a3), (4, V a4), (5, V a5)]) (dK D_Law_choices_0 20 rfl) (ltK rfl) rfl ?_
    refine bnTE h ?_ ?_
    · clear h
      intro p24 r25 yp24 e_p24 f_p24 h e9
      subst e9
      have hk1 := Nat.le_trans (bd1 hb) hkt
      have hn1 := Nat.le_trans (bd2 hb) hnt
      replace hb := bdA hb
      refine x_weak (ls' := [(0, .ref 0), (1, .ref c1), (2, V a2), (3, V a3), (4, V a4), (5, V a5), (6, .ref r9), (7, V 0), (8, V 0)]) (sbc 3 rfl (sbc 4 rfl (sbc 5 rfl (sbc 6 rfl (sbc 7 rfl (sbc 8 rfl (sbc 2 rfl (sbc 1 rfl (sbc 0 rfl sbn))))))))) ?_
      refine tl2_Law_choices_41 ha2 ha3 ha4 ha5 hk1 hn1 FU _ _ e_p24 _ _ ⟨Nat.le_refl _, Nat.le_refl _⟩ (inRk rfl) (inRk rfl) (fun _ g_ => by rw [f_p24] at g_; exact nomatch g_) (fun r_ g_  => ?_)
      obtain rfl := Sum.inl.inj (f_p24.symm.trans g_)
      obtain rfl := Option.some.inj h
      exact hr (r25.1, (r25.2.1, r25.2.2)) rfl
    · clear h
      intro p24 e26 yp24 e_p24 f_p24 h e9
      subst e9
      have hk1 := Nat.le_trans (bd1 hb) hkt
      have hn1 := Nat.le_trans (bd2 hb) hnt
      replace hb := bdA hb
      refine x_weak (ls' := [(0, .ref 0), (1, .ref c1), (2, V a2), (3, V a3), (4, V a4), (5, V a5), (6, .ref r9), (7, V 0), (8, V 0)]) (sbc 3 rfl (sbc 4 rfl (sbc 5 rfl (sbc 6 rfl (sbc 7 rfl (sbc 8 rfl (sbc 2 rfl (sbc 1 rfl (sbc 0 rfl sbn))))))))) ?_
      refine tl2_Law_choices_41 ha2 ha3 ha4 ha5 hk1 hn1 FU _ _ e_p24 _ _ ⟨Nat.le_refl _, Nat.le_refl _⟩ (inRk rfl) (inRk rfl) (fun e_ g_ hx7_p24 => ?_) (fun _ g_ => by rw [f_p24] at g_; exact nomatch g_)
      obtain rfl := Sum.inr.inj (f_p24.symm.trans g_)
      refine x_aloadn (pc := 98) (i0 := 0) (j := 0) (dK D_Law_choices_1 0 rfl) rfl rfl ?_
      refine x_iload (pc := 99) (j := 5) (dK D_Law_choices_1 1 rfl) rfl ?_
      refine bnE h ?_
      clear h
      intro p27 e_p27 h
      refine gdE h ?_
      clear h
      intro hz_p27 h
      obtain ⟨yp27, h9, e9⟩ := adE2 h
      clear h
      subst e9
      have h := h9
      clear h9
      have hk1 := Nat.le_trans (bd1 hb) hkt
      have hn1 := Nat.le_trans (bd2 hb) hnt
      replace hb := bdA hb
      refine x_callX (pc := 101) (As := [V a5]) (rest := []) (mc' := 1) (ms' := 6) (dK D_Law_choices_1 2 rfl) Q_Law_267 sx_FP_choices (fitK rfl) (isK_at (Z := (e26.2.1, e26.2.2)) (ci := 10) isK0) rfl (leK rfl) hk1 hn1 (clTI hz_p27 (fun E => tf_FP_choices (X := xz e26.2.2) rfl xz_hc ha5 e_p27)) (kxI' (fun h_p27 => ?_))
      refine x_iload (pc := 104) (j := 7) (dK D_Law_choices_1 3 rfl) rfl ?_
      refine wx_icmp_eq (pc := 106) (t := 111) (dK D_Law_choices_1 4 rfl) rfl h_p27 hx7_p24 (fun hc34 => ?_) (fun hc34 => ?_)
      · replace h := ifP h hc34
        refine x_aload (pc := 111) (j := 6) (dK D_Law_choices_1 7 rfl) rfl ?_
        refine bnE h ?_
        clear h
        intro v28 e_v28 h
        refine wx_getI (pc := 113) (ci := 11) (f := 5) e_v28 (dK D_Law_choices_1 8 rfl) q_889 (ltK rfl) (ltK rfl) ?_
        refine wx_if_gt (pc := 116) (t := 136) (dK D_Law_choices_1 9 rfl) rfl (vI_at e_v28).2 (fun hc33 => ?_) (fun hc33 => ?_)
        · replace h := ifP h hc33
          refine nmE h ?_
          clear h
          intro v29 e_v29 h
          refine wx_iinc (pc := 136) (j := 5) (a := a5) (z := 1) (ls2 := [(5, V v29), (0, .ref 0), (1, .ref c1), (2, V a2), (3, V a3), (4, V a4), (6, .ref r9), (7, V e26.1)]) (dK D_Law_choices_1 18 rfl) rfl e_v29 (ltK rfl) rfl ?_
          refine x_goto (pc := 139) (tgt := 9) (dK D_Law_choices_1 19 rfl) rfl ?_
          refine x_weak (ls' := [(0, .ref 0), (1, .ref c1), (2, V a2), (3, V a3), (4, V a4), (5, V v29)]) (sbc 1 rfl (sbc 2 rfl (sbc 3 rfl (sbc 4 rfl (sbc 5 rfl (sbc 0 rfl sbn)))))) ?_
          replace h := ih _ _ h
          exact h _ _ hb ha3 ha4 (Vn_in e_v29) hx hr
        · replace h := ifN h hc33
          refine x_iload (pc := 119) (j := 7) (dK D_Law_choices_1 10 rfl) rfl ?_
          refine x_iload (pc := 121) (j := 4) (dK D_Law_choices_1 11 rfl) rfl ?_
          refine wx_icmp_lt (pc := 123) (t := 129) (dK D_Law_choices_1 12 rfl) rfl hx7_p24 ha4 (fun hc32 => ?_) (fun hc32 => ?_)
          · replace h := ifP h hc32
            refine x_iload (pc := 129) (j := 5) (dK D_Law_choices_1 14 rfl) rfl ?_
            refine x_istoren (pc := 131) (i0 := 3) (ls2 := [(3, V a5), (0, .ref 0), (1, .ref c1), (2, V a2), (4, V a4), (5, V a5), (6, .ref r9), (7, V e26.1)]) (dK D_Law_choices_1 15 rfl) rfl (ltK rfl) rfl ?_
            refine x_iload (pc := 132) (j := 7) (dK D_Law_choices_1 16 rfl) rfl ?_
            refine x_istore (pc := 134) (ls2 := [(4, V e26.1), (3, V a5), (0, .ref 0), (1, .ref c1), (2, V a2), (5, V a5), (6, .ref r9), (7, V e26.1)]) (dK D_Law_choices_1 17 rfl) (ltK rfl) rfl ?_
            refine nmE h ?_
            clear h
            intro v30 e_v30 h
            refine wx_iinc (pc := 136) (j := 5) (a := a5) (z := 1) (ls2 := [(5, V v30), (4, V e26.1), (3, V a5), (0, .ref 0), (1, .ref c1), (2, V a2), (6, .ref r9), (7, V e26.1)]) (dK D_Law_choices_1 18 rfl) rfl e_v30 (ltK rfl) rfl ?_
            refine x_goto (pc := 139) (tgt := 9) (dK D_Law_choices_1 19 rfl) rfl ?_
            refine x_weak (ls' := [(0, .ref 0), (1, .ref c1), (2, V a2), (3, V a5), (4, V e26.1), (5, V v30)]) (sbc 3 rfl (sbc 4 rfl (sbc 5 rfl (sbc 2 rfl (sbc 1 rfl (sbc 0 rfl sbn)))))) ?_
            replace h := ih _ _ h
            exact h _ _ hb ha5 hx7_p24 (Vn_in e_v30) hx hr
          · replace h := ifN h hc32
            refine x_goto (pc := 126) (tgt := 136) (dK D_Law_choices_1 13 rfl) rfl ?_
            refine nmE h ?_
            clear h
            intro v31 e_v31 h
            refine wx_iinc (pc := 136) (j := 5) (a := a5) (z := 1) (ls2 := [(5, V v31), (0, .ref 0), (1, .ref c1), (2, V a2), (3, V a3), (4, V a4), (6, .ref r9), (7, V e26.1)]) (dK D_Law_choices_1 18 rfl) rfl e_v31 (ltK rfl) rfl ?_
            refine x_goto (pc := 139) (tgt := 9) (dK D_Law_choices_1 19 rfl) rfl ?_
            refine x_weak (ls' := [(0, .ref 0), (1, .ref c1), (2, V a2), (3, V a3), (4, V a4), (5, V v31)]) (sbc 1 rfl (sbc 2 rfl (sbc 3 rfl (sbc 4 rfl (sbc 5 rfl (sbc 0 rfl sbn)))))) ?_
            replace h := ih _ _ h
            exact h _ _ hb ha3 ha4 (Vn_in e_v31) hx hr
      · replace h := ifN h hc34
        refine wx_iconst (pc := 109) (dK D_Law_choices_1 5 rfl) ?_
        obtain rfl := Option.some.inj h
        exact wk_iretB (pc := 110) (b := false) (dK D_Law_choices_1 6 rfl) rfl (Nat.le_trans (bdk hb) hkt) (Nat.le_trans (bdn hb) hnt) (hr (false, (e26.2.1, e26.2.2)) rfl)
def lb2_Law_choices_160 (c1 : Nat) (a2 : Int) (a3 : Int) (a5 : Int) (go : Int × LZ → Option (((Bool × LZ) ⊕ (LZ)) × Nat × Nat)) (a6 : Int) (S : St) (L : List PC) : Option (((Bool × LZ) ⊕ (LZ)) × Nat × Nat) := if isK L c1 12 = true then (bnO (gn_LP_pages c1 S L) fun p43 => nm (wr (p43 + 1)) fun v45 => if v45 < a6 then (some (.inr (S, L), 0, 0)) else (bnO (fn_FP_storyReason 0 a5 a6 S) fun p46 => if p46.1 = 0 then (adC 1 6 (bnO (gfV L c1 12 5) fun v47 => rfB v47 fun r48 => if isK L r48 13 = true then (bnO (gn_AL_get r48 a5 S L) fun p49 => rfB p49 fun r51 => if isK L r51 11 = true then (if isK L c1 12 = true then (bnO (gn_LP_storyReason c1 r51 a6 S L) fun p53 => adC p53.2.1 p53.2.2 (if p46.2 = p53.1.1 then (nm (wr (a6 + 1)) fun v55 => go (v55, (p53.1.2.1, p53.1.2.2))) else (some (.inl (false, (p53.1.2.1, p53.1.2.2)), 0, 0)))) else none) else none) else none)) else none)) else none
def lo2_Law_choices_160 (c1 : Nat) (a2 : Int) (a3 : Int) (a5 : Int) : Nat → Int × LZ → Option (((Bool × LZ) ⊕ (LZ)) × Nat × Nat) := lp fun go p => lb2_Law_choices_160 c1 a2 a3 a5 go p.1 p.2.1 p.2.2
theorem tl2_Law_choices_160 {sc : SC} {c1 : Nat} {a2 : Int} (ha2 : inR a2) {a3 : Int} (ha3 : inR a3) {a5 : Int} (ha5 : inR a5) {K : Option Value → List PC → Prop} {mc ms kt nt : Nat} (hkt : kt ≤ mc) (hnt : nt ≤ ms) : ∀ (N : Nat) (a : Int × LZ) (q : ((Bool × LZ) ⊕ (LZ)) × Nat × Nat), lo2_Law_choices_160 c1 a2 a3 a5 N a = some q → ∀ k n, Bd k n kt nt q → inR a.1 → (∀ e, q.1 = .inr e → GX sc M_Law_choices mc ms 208 [(0, .ref 0), (1, .ref c1), (2, V a2), (3, V a3), (5, V a5)] [] (wz e) kt nt K) → (∀ r, q.1 = .inl r → K (some (V (bi r.1))) (wz r.2)) → GX sc M_Law_choices mc ms 160 [(0, .ref 0), (1, .ref c1), (2, V a2), (3, V a3), (5, V a5), (6, V a.1)] [] (wz a.2) k n K := by
  refine lp_ind2 (P := fun (a : Int × LZ) (q : ((Bool × LZ) ⊕ (LZ)) × Nat × Nat) => ∀ k n, Bd k n kt nt q → inR a.1 → (∀ e, q.1 = .inr e → GX sc M_Law_choices mc ms 208 [(0, .ref 0), (1, .ref c1), (2, V a2), (3, V a3), (5, V a5)] [] (wz e) kt nt K) → (∀ r, q.1 = .inl r → K (some (V (bi r.1))) (wz r.2)) → GX sc M_Law_choices mc ms 160 [(0, .ref 0), (1, .ref c1), (2, V a2), (3, V a3), (5, V a5), (6, V a.1)] [] (wz a.2) k n K) (fun go ih a q h => ?_)
  obtain ⟨a6, ⟨S, L⟩⟩ := a
  intro k n hb ha6 hx hr
  show GX sc M_Law_choices mc ms 160 [(0, .ref 0), (1, .ref c1), (2, V a2), (3, V a3), (5, V a5), (6, V a6)] [] (wz (S, L)) k n K
  replace h : lb2_Law_choices_160 c1 a2 a3 a5 go a6 S L = some q := h
  unfold lb2_Law_choices_160 at h
  refine x_iload (pc := 160) (j := 5) (dK D_Law_choices_1 29 rfl) rfl ?_
  refine x_aloadn (pc := 162) (i0 := 1) (j := 1) (dK D_Law_choices_1 30 rfl) rfl rfl ?_
  refine gdE h ?_
  clear h
  intro hk44 h
  refine bnE h ?_
  clear h
  intro p43 e_p43 h
  refine x_callX (pc := 163) (As := []) (rest := [V a6]) (mc' := 0) (ms' := 0) (dK D_Law_choices_1 31 rfl) Q_Law_42 sx_LP_pages (fitK rfl) (isK_at (Z := (S, L)) (ci := 12) hk44) rfl (leK rfl) (Nat.le_trans (bdk hb) hkt) (Nat.le_trans (bdn hb) hnt) (tg_LP_pages  e_p43) (kxI' (fun h_p43 => ?_))
  refine wx_iconst (pc := 166) (dK D_Law_choices_1 32 rfl) ?_
  refine wx_iadd (pc := 167) (dK D_Law_choices_1 33 rfl) ?_
  refine nmE h ?_
  clear h
  intro v45 e_v45 h
  refine wtop e_v45 ?_
  refine wx_icmp_gt (pc := 168) (t := 208) (dK D_Law_choices_1 34 rfl) rfl ha6 (Vn_in e_v45) (fun hc57 => ?_) (fun hc57 => ?_)
  · replace h := ifP h hc57
    obtain rfl := Option.some.inj h
    refine x_weak (ls' := [(0, .ref 0), (1, .ref c1), (2, V a2), (3, V a3), (5, V a5)]) (sbc 0 rfl (sbc 1 rfl (sbc 2 rfl (sbc 3 rfl (sbc 4 rfl sbn))))) ?_
    refine x_room (bdk hb) (bdn hb) ?_
    exact hx (S, L) rfl
  · replace h := ifN h hc57
    refine x_aloadn (pc := 171) (i0 := 0) (j := 0) (dK D_Law_choices_1 35 rfl) rfl rfl ?_
    refine x_iload (pc := 172) (j := 4) (dK D_Law_choices_1 36 rfl) rfl ?_
    refine x_iload (pc := 174) (j := 5) (dK D_Law_choices_1 37 rfl) rfl ?_
    refine bnE h ?_
    clear h
    intro p46 e_p46 h
    refine gdE h ?_
    clear h
    intro hz_p46 h
    obtain ⟨yp46, h9, e9⟩ := adE2 h
    clear h
    subst e9
    have h := h9
    clear h9
    have hk1 := Nat.le_trans (bd1 hb) hkt
    have hn1 := Nat.le_trans (bd2 hb) hnt
    replace hb := bdA hb
    refine x_callX (pc := 176) (As := [V a5, V a6]) (rest := []) (mc' := 1) (ms' := 6) (dK D_Law_choices_1 38 rfl) Q_Law_270 sx_FP_storyReason (fitK rfl) (isK_at (Z := (S, L)) (ci := 10) isK0) rfl (leK rfl) hk1 hn1 (clTI hz_p46 (fun E => tf_FP_storyReason (X := xz L) rfl xz_hc ha5 ha6 e_p46)) (kxI' (fun h_p46 => ?_))
    refine x_aloadn (pc := 179) (i0 := 1) (j := 1) (dK D_Law_choices_1 39 rfl) rfl rfl ?_
    refine x_aloadn (pc := 180) (i0 := 1) (j := 1) (dK D_Law_choices_1 40 rfl) rfl rfl ?_
    refine bnE h ?_
    clear h
    intro v47 e_v47 h
    refine wx_getV (pc := 181) (ci := 12) (f := 5) e_v47 (dK D_Law_choices_1 41 rfl) q_778 (ltK rfl) (ltK rfl) (fun hv47 => ?_)
    refine x_iload (pc := 184) (j := 4) (dK D_Law_choices_1 42 rfl) rfl ?_
    refine rfE h ?_
    clear h
    intro r48 e_r48 h
    rw [e_r48]
    refine gdE h ?_
    clear h
    intro hk50 h
    refine bnE h ?_
    clear h
    intro p49 e_p49 h
    refine x_callX (pc := 186) (As := [V a5]) (rest := [.ref c1, V p46.2]) (mc' := 0) (ms' := 0) (dK D_Law_choices_1 43 rfl) Q_Law_69 sx_AL_get (fitK rfl) (isK_at (Z := (S, L)) (ci := 13) hk50) rfl (leK rfl) (Nat.le_trans (bdk hb) hkt) (Nat.le_trans (bdn hb) hnt) (tg_AL_get ha5 e_p49) (kxR (fun h_p49 => ?_))
    refine rfE h ?_
    clear h
    intro r51 e_r51 h
    rw [e_r51]
    refine gdE h ?_
    clear h
    intro hk52 h
    refine x_cast (pc := 189) (dK D_Law_choices_1 44 rfl) q_1033 (isK_at (Z := (S, L)) (ci := 11) hk52) ?_
    refine x_iload (pc := 192) (j := 5) (dK D_Law_choices_1 45 rfl) rfl ?_
    refine gdE h ?_
    clear h
    intro hk54 h
    refine bnE h ?_
    clear h
    intro p53 e_p53 h
    obtain ⟨yp53, h9, e9⟩ := adE2 h
    clear h
    subst e9
    have h := h9
    clear h9
    have hk1 := Nat.le_trans (bd1 hb) hkt
    have hn1 := Nat.le_trans (bd2 hb) hnt
    replace hb := bdA hb
    refine x_callX (pc := 194) (As := [.ref r51, V a6]) (rest := [V p46.2]) (mc' := p53.2.1) (ms' := p53.2.2) (dK D_Law_choices_1 46 rfl) Q_Law_273 sx_LP_storyReason (fitK rfl) (isK_at (Z := (S, L)) (ci := 12) hk54) rfl (leK rfl) hk1 hn1 (tg_LP_storyReason ha6 e_p53) (kxI' (fun h_p53 => ?_))
    refine wx_icmp_eq (pc := 197) (t := 202) (dK D_Law_choices_1 47 rfl) rfl h_p46 h_p53 (fun hc56 => ?_) (fun hc56 => ?_)
    · replace h := ifP h hc56
      refine nmE h ?_
      clear h
      intro v55 e_v55 h
      refine wx_iinc (pc := 202) (j := 5) (a := a6) (z := 1) (ls2 := [(6, V v55), (0, .ref 0), (1, .ref c1), (2, V a2), (3, V a3), (5, V a5)]) (dK D_Law_choices_2 0 rfl) rfl e_v55 (ltK rfl) rfl ?_
      refine x_goto (pc := 205) (tgt := 160) (dK D_Law_choices_2 1 rfl) rfl ?_
      refine x_weak (ls' := [(0, .ref 0), (1, .ref c1), (2, V a2), (3, V a3), (5, V a5), (6, V v55)]) (sbc 1 rfl (sbc 2 rfl (sbc 3 rfl (sbc 4 rfl (sbc 5 rfl (sbc 0 rfl sbn)))))) ?_
      replace h := ih _ _ h
      exact h _ _ hb (Vn_in e_v55) hx hr
    · replace h := ifN h hc56
      refine wx_iconst (pc := 200) (dK D_Law_choices_1 48 rfl) ?_
      obtain rfl := Option.some.inj h
      exact wk_iretB (pc := 201) (b := false) (dK D_Law_choices_1 49 rfl) rfl (Nat.le_trans (bdk hb) hkt) (Nat.le_trans (bdn hb) hnt) (hr (false, (p53.1.2.1, p53.1.2.2)) rfl)
def lb2_Law_choices_145 (c1 : Nat) (a2 : Int) (a3 : Int) (go : Int × LZ → Option (((Bool × LZ) ⊕ (LZ)) × Nat × Nat)) (a5 : Int) (S : St) (L : List PC) : Option (((Bool × LZ) ⊕ (LZ)) × Nat × Nat) := bnO (gfV L c1 12 5) fun v39 => rfB v39 fun r40 => if isK L r40 13 = true then (bnO (gn_AL_size r40 S L) fun p41 => if p41 ≤ a5 then (some (.inr (S, L), 0, 0)) else (bnT (lo2_Law_choices_160 c1 a2 a3 a5 FU (0, (S, L))) (fun r59 => some (.inl (r59.1, (r59.2.1, r59.2.2)), 0, 0)) fun e60 => nm (wr (a5 + 1)) fun v61 => go (v61, (e60.1, e60.2)))) else none
def lo2_Law_choices_145 (c1 : Nat) (a2 : Int) (a3 : Int) : Nat → Int × LZ → Option (((Bool × LZ) ⊕ (LZ)) × Nat × Nat) := lp fun go p => lb2_Law_choices_145 c1 a2 a3 go p.1 p.2.1 p.2.2
theorem tl2_Law_choices_145 {sc : SC} {c1 : Nat} {a2 : Int} (ha2 : inR a2) {a3 : Int} (ha3 : inR a3) {K : Option Value → List PC → Prop} {mc ms kt nt : Nat} (hkt : kt ≤ mc) (hnt : nt ≤ ms) : ∀ (N : Nat) (a : Int × LZ) (q : ((Bool × LZ) ⊕ (LZ)) × Nat × Nat), lo2_Law_choices_145 c1 a2 a3 N a = some q → ∀ k n, Bd k n kt nt q → inR a.1 → (∀ e, q.1 = .inr e → GX sc M_Law_choices mc ms 214 [(0, .ref 0), (1, .ref c1), (2, V a2), (3, V a3)] [] (wz e) kt nt K) → (∀ r, q.1 = .inl r → K (some (V (bi r.1))) (wz r.2)) → GX sc M_Law_choices mc ms 145 [(0, .ref 0), (1, .ref c1), (2, V a2), (3, V a3), (5, V a.1)] [] (wz a.2) k n K := by
  refine lp_ind2 (P := fun (a : Int × LZ) (q : ((Bool × LZ) ⊕ (LZ)) × Nat × Nat) => ∀ k n, Bd k n kt nt q → inR a.1 → (∀ e, q.1 = .inr e → GX sc M_Law_choices mc ms 214 [(0, .ref 0), (1, .ref c1), (2, V a2), (3, V a3)] [] (wz e) kt nt K) → (∀ r, q.1 = .inl r → K (some (V (bi r.1))) (wz r.2)) → GX sc M_Law_choices mc ms 145 [(0, .ref 0), (1, .ref c1), (2, V a2), (3, V a3), (5, V a.1)] [] (wz a.2) k n K) (fun go ih a q h => ?_)
  obtain ⟨a5, ⟨S, L⟩⟩ := a
  intro k n hb ha5 hx hr
  show GX sc M_Law_choices mc ms 145 [(0, .ref 0), (1, .ref c1), (2, V a2), (3, V a3), (5, V a5)] [] (wz (S, L)) k n K
  replace h : lb2_Law_choices_145 c1 a2 a3 go a5 S L = some q := h
  unfold lb2_Law_choices_145 at h
  refine x_iload (pc := 145) (j := 4) (dK D_Law_choices_1 22 rfl) rfl ?_
  refine x_aloadn (pc := 147) (i0 := 1) (j := 1) (dK D_Law_choices_1 23 rfl) rfl rfl ?_
  refine bnE h ?_
  clear h
  intro v39 e_v39 h
  refine wx_getV (pc := 148) (ci := 12) (f := 5) e_v39 (dK D_Law_choices_1 24 rfl) q_778 (ltK rfl) (ltK rfl) (fun hv39 => ?_)
  refine rfE h ?_
  clear h
  intro r40 e_r40 h
  rw [e_r40]
  refine gdE h ?_
  clear h
  intro hk42 h
  refine bnE h ?_
  clear h
  intro p41 e_p41 h
  refine x_callX (pc := 151) (As := []) (rest := [V a5]) (mc' := 0) (ms' := 0) (dK D_Law_choices_1 25 rfl) Q_Law_55 sx_AL_size (fitK rfl) (isK_at (Z := (S, L)) (ci := 13) hk42) rfl (leK rfl) (Nat.le_trans (bdk hb) hkt) (Nat.le_trans (bdn hb) hnt) (tg_AL_size  e_p41) (kxI' (fun h_p41 => ?_))
  refine wx_icmp_ge (pc := 154) (t := 214) (dK D_Law_choices_1 26 rfl) rfl ha5 h_p41 (fun hc62 => ?_) (fun hc62 => ?_)
  · replace h := ifP h hc62
    obtain rfl := Option.some.inj h
    refine x_weak (ls' := [(0, .ref 0), (1, .ref c1), (2, V a2), (3, V a3)]) (sbc 0 rfl (sbc 1 rfl (sbc 2 rfl (sbc 3 rfl sbn)))) ?_
    refine x_room (bdk hb) (bdn hb) ?_
    exact hx (S, L) rfl
  · replace h := ifN h hc62
    refine wx_iconst (pc := 157) (dK D_Law_choices_1 27 rfl) ?_
    refine x_istore (pc := 158) (ls2 := [(6, V 0), (0, .ref 0), (1, .ref c1), (2, V a2), (3, V a3), (5, V a5)]) (dK D_Law_choices_1 28 rfl) (ltK rfl) rfl ?_
    refine bnTE h ?_ ?_
    · clear h
      intro p58 r59 yp58 e_p58 f_p58 h e9
      subst e9
      have hk1 := Nat.le_trans (bd1 hb) hkt
      have hn1 := Nat.le_trans (bd2 hb) hnt
      replace hb := bdA hb
      refine x_weak (ls' := [(0, .ref 0), (1, .ref c1), (2, V a2), (3, V a3), (5, V a5), (6, V 0)]) (sbc 1 rfl (sbc 2 rfl (sbc 3 rfl (sbc 4 rfl (sbc 5 rfl (sbc 0 rfl sbn)))))) ?_
      refine tl2_Law_choices_160 ha2 ha3 ha5 hk1 hn1 FU _ _ e_p58 _ _ ⟨Nat.le_refl _, Nat.le_refl _⟩ (inRk rfl) (fun _ g_ => by rw [f_p58] at g_; exact nomatch g_) (fun r_ g_  => ?_)
      obtain rfl := Sum.inl.inj (f_p58.symm.trans g_)
      obtain rfl := Option.some.inj h
      exact hr (r59.1, (r59.2.1, r59.2.2)) rfl
    · clear h
      intro p58 e60 yp58 e_p58 f_p58 h e9
      subst e9
      have hk1 := Nat.le_trans (bd1 hb) hkt
      have hn1 := Nat.le_trans (bd2 hb) hnt
      replace hb := bdA hb
      refine x_weak (ls' := [(0, .ref 0), (1, .ref c1), (2, V a2), (3, V a3), (5, V a5), (6, V 0)]) (sbc 1 rfl (sbc 2 rfl (sbc 3 rfl (sbc 4 rfl (sbc 5 rfl (sbc 0 rfl sbn)))))) ?_
      refine tl2_Law_choices_160 ha2 ha3 ha5 hk1 hn1 FU _ _ e_p58 _ _ ⟨Nat.le_refl _, Nat.le_refl _⟩ (inRk rfl) (fun e_ g_  => ?_) (fun _ g_ => by rw [f_p58] at g_; exact nomatch g_)
      obtain rfl := Sum.inr.inj (f_p58.symm.trans g_)
      refine nmE h ?_
      clear h
      intro v61 e_v61 h
      refine wx_iinc (pc := 208) (j := 4) (a := a5) (z := 1) (ls2 := [(5, V v61), (0, .ref 0), (1, .ref c1), (2, V a2), (3, V a3)]) (dK D_Law_choices_2 2 rfl) rfl e_v61 (ltK rfl) rfl ?_
      refine x_goto (pc := 211) (tgt := 145) (dK D_Law_choices_2 3 rfl) rfl ?_
      refine x_weak (ls' := [(0, .ref 0), (1, .ref c1), (2, V a2), (3, V a3), (5, V v61)]) (sbc 1 rfl (sbc 2 rfl (sbc 3 rfl (sbc 4 rfl (sbc 0 rfl sbn))))) ?_
      replace h := ih _ _ h
      exact h _ _ hb (Vn_in e_v61) hx hr
def lb2_Law_choices_233 (c1 : Nat) (a2 : Int) (c5 : Nat) (go : Int × LZ → Option ((LZ) × Nat × Nat)) (a6 : Int) (S : St) (L : List PC) : Option ((LZ) × Nat × Nat) := if 65 ≤ a6 then (some ((S, L), 0, 0)) else (bnO (ast L 100 c5 a6 (V (-1))) fun L72 => nm (wr (a6 + 1)) fun v73 => go (v73, (S, L72)))
def lo2_Law_choices_233 (c1 : Nat) (a2 : Int) (c5 : Nat) : Nat → Int × LZ → Option ((LZ) × Nat × Nat) := lp fun go p => lb2_Law_choices_233 c1 a2 c5 go p.1 p.2.1 p.2.2
theorem tl2_Law_choices_233 {sc : SC} {c1 : Nat} {a2 : Int} (ha2 : inR a2) {c5 : Nat} {K : Option Value → List PC → Prop} {mc ms kt nt : Nat} (hkt : kt ≤ mc) (hnt : nt ≤ ms) : ∀ (N : Nat) (a : Int × LZ) (q : (LZ) × Nat × Nat), lo2_Law_choices_233 c1 a2 c5 N a = some q → ∀ k n, Bd k n kt nt q → inR a.1 → (GX sc M_Law_choices mc ms 252 [(0, .ref 0), (1, .ref c1), (2, V a2), (5, .ref c5)] [] (wz q.1) kt nt K) → GX sc M_Law_choices mc ms 233 [(0, .ref 0), (1, .ref c1), (2, V a2), (5, .ref c5), (6, V a.1)] [] (wz a.2) k n K := by
  refine lp_ind2 (P := fun (a : Int × LZ) (q : (LZ) × Nat × Nat) => ∀ k n, Bd k n kt nt q → inR a.1 → (GX sc M_Law_choices mc ms 252 [(0, .ref 0), (1, .ref c1), (2, V a2), (5, .ref c5)] [] (wz q.1) kt nt K) → GX sc M_Law_choices mc ms 233 [(0, .ref 0), (1, .ref c1), (2, V a2), (5, .ref c5), (6, V a.1)] [] (wz a.2) k n K) (fun go ih a q h => ?_)
  obtain ⟨a6, ⟨S, L⟩⟩ := a
  intro k n hb ha6 hx
  show GX sc M_Law_choices mc ms 233 [(0, .ref 0), (1, .ref c1), (2, V a2), (5, .ref c5), (6, V a6)] [] (wz (S, L)) k n K
  replace h : lb2_Law_choices_233 c1 a2 c5 go a6 S L = some q := h
  unfold lb2_Law_choices_233 at h
  refine x_iload (pc := 233) (j := 4) (dK D_Law_choices_2 15 rfl) rfl ?_
  refine wx_bipush (pc := 235) (dK D_Law_choices_2 16 rfl) rfl ?_
  refine wx_icmp_ge (pc := 237) (t := 252) (dK D_Law_choices_2 17 rfl) rfl ha6 (inRk rfl) (fun hc74 => ?_) (fun hc74 => ?_)
  · replace h := ifP h hc74
    obtain rfl := Option.some.inj h
    refine x_weak (ls' := [(0, .ref 0), (1, .ref c1), (2, V a2), (5, .ref c5)]) (sbc 0 rfl (sbc 1 rfl (sbc 2 rfl (sbc 3 rfl sbn)))) ?_
    refine x_room (bdk hb) (bdn hb) ?_
    exact hx 
  · replace h := ifN h hc74
    refine x_aload (pc := 240) (j := 3) (dK D_Law_choices_2 18 rfl) rfl ?_
    refine x_iload (pc := 242) (j := 4) (dK D_Law_choices_2 19 rfl) rfl ?_
    refine wx_iconst (pc := 244) (dK D_Law_choices_2 20 rfl) ?_
    refine bnE h ?_
    clear h
    intro L72 e_L72 h
    refine wx_iast (Z := (S, L)) (pc := 245) (z := (-1)) e_L72 ha6 (dK D_Law_choices_2 21 rfl) ?_
    refine nmE h ?_
    clear h
    intro v73 e_v73 h
    refine wx_iinc (pc := 246) (j := 4) (a := a6) (z := 1) (ls2 := [(6, V v73), (0, .ref 0), (1, .ref c1), (2, V a2), (5, .ref c5)]) (dK D_Law_choices_2 22 rfl) rfl e_v73 (ltK rfl) rfl ?_
    refine x_goto (pc := 249) (tgt := 233) (dK D_Law_choices_2 23 rfl) rfl ?_
    refine x_weak (ls' := [(0, .ref 0), (1, .ref c1), (2, V a2), (5, .ref c5), (6, V v73)]) (sbc 1 rfl (sbc 2 rfl (sbc 3 rfl (sbc 4 rfl (sbc 0 rfl sbn))))) ?_
    replace h := ih _ _ h
    exact h _ _ hb (Vn_in e_v73) hx
def lb2_Law_choices_258 (c1 : Nat) (a2 : Int) (c5 : Nat) (go : Int × Int × LZ → Option ((Int × LZ) × Nat × Nat)) (a6 : Int) (a7 : Int) (S : St) (L : List PC) : Option ((Int × LZ) × Nat × Nat) := bnO (gfV L c1 12 4) fun v76 => rfB v76 fun r77 => if isK L r77 13 = true then (bnO (gn_AL_size r77 S L) fun p78 => if p78 ≤ a7 then (some ((a6, (S, L)), 0, 0)) else (bnO (gfV L c1 12 4) fun v80 => rfB v80 fun r81 => if isK L r81 13 = true then (bnO (gn_AL_get r81 a7 S L) fun p82 => rfB p82 fun r84 => if isK L r84 11 = true then (bnO (gfI L r84 11 0) fun v86 => if v86 = 4 then (bnO (gfV L c1 12 4) fun v88 => rfB v88 fun r89 => if isK L r89 13 = true then (bnO (gn_AL_get r89 a7 S L) fun p90 => rfB p90 fun r92 => if isK L r92 11 = true then (bnO (gfI L r92 11 5) fun v94 => if v94 = 0 then (if (0 : Int) ≤ 65 ∧ (65 : Int) ≤ 16384 then (if L.length < 900000000 then adC 1 (65 : Int).toNat (nw L (102, List.replicate (65 : Int).toNat (.int 0)) fun r99 L100 => if isK L100 c1 12 = true then (bnO (gr_LP_joins 70 c1 a7 c5 r99 S L100) fun p101 => adC p101.2.1 p101.2.2 (if p101.1.1 = true then (nm (wr (a6 + 1)) fun v106 => nm (wr (a7 + 1)) fun v107 => go (v106, v107, (p101.1.2.1, p101.1.2.2))) else (nm (wr (a6 + 0)) fun v104 => nm (wr (a7 + 1)) fun v105 => go (v104, v105, (p101.1.2.1, p101.1.2.2))))) else none) else none) else none) else (nm (wr (a7 + 1)) fun v95 => go (a6, v95, (S, L)))) else none) else none) else (nm (wr (a7 + 1)) fun v87 => go (a6, v87, (S, L)))) else none) else none)) else none
def lo2_Law_choices_258 (c1 : Nat) (a2 : Int) (c5 : Nat) : Nat → Int × Int × LZ → Option ((Int × LZ) × Nat × Nat) := lp fun go p => lb2_Law_choices_258 c1 a2 c5 go p.1 p.2.1 p.2.2.1 p.2.2.2
theorem tl2_Law_choices_258 {sc : SC} {c1 : Nat} {a2 : Int} (ha2 : inR a2) {c5 : Nat} {K : Option Value → List PC → Prop} {mc ms kt nt : Nat} (hkt : kt ≤ mc) (hnt : nt ≤ ms) : ∀ (N : Nat) (a : Int × Int × LZ) (q : (Int × LZ) × Nat × Nat), lo2_Law_choices_258 c1 a2 c5 N a = some q → ∀ k n, Bd k n kt nt q → inR a.1 → inR a.2.1 → (inR q.1.1 → GX sc M_Law_choices mc ms 338 [(0, .ref 0), (1, .ref c1), (2, V a2), (6, V q.1.1)] [] (wz q.1.2) kt nt K) → GX sc M_Law_choices mc ms 258 [(0, .ref 0), (1, .ref c1), (2, V a2), (5, .ref c5), (6, V a.1), (7, V a.2.1)] [] (wz a.2.2) k n K := by
  refine lp_ind2 (P := fun (a : Int × Int × LZ) (q : (Int × LZ) × Nat × Nat) => ∀ k n, Bd k n kt nt q → inR a.1 → inR a.2.1 → (inR q.1.1 → GX sc M_Law_choices mc ms 338 [(0, .ref 0), (1, .ref c1), (2, V a2), (6, V q.1.1)] [] (wz q.1.2) kt nt K) → GX sc M_Law_choices mc ms 258 [(0, .ref 0), (1, .ref c1), (2, V a2), (5, .ref c5), (6, V a.1), (7, V a.2.1)] [] (wz a.2.2) k n K) (fun go ih a q h => ?_)
  obtain ⟨a6, a7, ⟨S, L⟩⟩ := a
  intro k n hb ha6 ha7 hx
  show GX sc M_Law_choices mc ms 258 [(0, .ref 0), (1, .ref c1), (2, V a2), (5, .ref c5), (6, V a6), (7, V a7)] [] (wz (S, L)) k n K
  replace h : lb2_Law_choices_258 c1 a2 c5 go a6 a7 S L = some q := h
  unfold lb2_Law_choices_258 at h
  refine x_iload (pc := 258) (j := 5) (dK D_Law_choices_2 28 rfl) rfl ?_
  refine x_aloadn (pc := 260) (i0 := 1) (j := 1) (dK D_Law_choices_2 29 rfl) rfl rfl ?_
  refine bnE h ?_
  clear h
  intro v76 e_v76 h
  refine wx_getV (pc := 261) (ci := 12) (f := 4) e_v76 (dK D_Law_choices_2 30 rfl) q_776 (ltK rfl) (ltK rfl) (fun hv76 => ?_)
  refine rfE h ?_
  clear h
  intro r77 e_r77 h
  rw [e_r77]
  refine gdE h ?_
  clear h
  intro hk79 h
  refine bnE h ?_
  clear h
  intro p78 e_p78 h
  refine x_callX (pc := 264) (As := []) (rest := [V a7]) (mc' := 0) (ms' := 0) (dK D_Law_choices_2 31 rfl) Q_Law_55 sx_AL_size (fitK rfl) (isK_at (Z := (S, L)) (ci := 13) hk79) rfl (leK rfl) (Nat.le_trans (bdk hb) hkt) (Nat.le_trans (bdn hb) hnt) (tg_AL_size  e_p78) (kxI' (fun h_p78 => ?_))
  refine wx_icmp_ge (pc := 267) (t := 338) (dK D_Law_choices_2 32 rfl) rfl ha7 h_p78 (fun hc110 => ?_) (fun hc110 => ?_)
  · replace h := ifP h hc110
    obtain rfl := Option.some.inj h
    refine x_weak (ls' := [(0, .ref 0), (1, .ref c1), (2, V a2), (6, V a6)]) (sbc 0 rfl (sbc 1 rfl (sbc 2 rfl (sbc 4 rfl sbn)))) ?_
    refine x_room (bdk hb) (bdn hb) ?_
    exact hx ha6
  · replace h := ifN h hc110
    refine x_aloadn (pc := 270) (i0 := 1) (j := 1) (dK D_Law_choices_2 33 rfl) rfl rfl ?_
    refine bnE h ?_
    clear h
    intro v80 e_v80 h
    refine wx_getV (pc := 271) (ci := 12) (f := 4) e_v80 (dK D_Law_choices_2 34 rfl) q_776 (ltK rfl) (ltK rfl) (fun hv80 => ?_)
    refine x_iload (pc := 274) (j := 5) (dK D_Law_choices_2 35 rfl) rfl ?_
    refine rfE h ?_
    clear h
    intro r81 e_r81 h
    rw [e_r81]
    refine gdE h ?_
    clear h
    intro hk83 h
    refine bnE h ?_
    clear h
    intro p82 e_p82 h
    refine x_callX (pc := 276) (As := [V a7]) (rest := []) (mc' := 0) (ms' := 0) (dK D_Law_choices_2 36 rfl) Q_Law_69 sx_AL_get (fitK rfl) (isK_at (Z := (S, L)) (ci := 13) hk83) rfl (leK rfl) (Nat.le_trans (bdk hb) hkt) (Nat.le_trans (bdn hb) hnt) (tg_AL_get ha7 e_p82) (kxR (fun h_p82 => ?_))
    refine rfE h ?_
    clear h
    intro r84 e_r84 h
    rw [e_r84]
    refine gdE h ?_
    clear h
    intro hk85 h
    refine x_cast (pc := 279) (dK D_Law_choices_2 37 rfl) q_1033 (isK_at (Z := (S, L)) (ci := 11) hk85) ?_
    refine bnE h ?_
    clear h
    intro v86 e_v86 h
    refine wx_getI (pc := 282) (ci := 11) (f := 0) e_v86 (dK D_Law_choices_2 38 rfl) q_874 (ltK rfl) (ltK rfl) ?_
    refine wx_iconst (pc := 285) (dK D_Law_choices_2 39 rfl) ?_
    refine wx_icmp_ne (pc := 286) (t := 332) (dK D_Law_choices_2 40 rfl) rfl (vI_at e_v86).2 (inRk rfl) (fun hc109 => ?_) (fun hc109 => ?_)
    · replace h := ifN h hc109
      refine nmE h ?_
      clear h
      intro v87 e_v87 h
      refine wx_iinc (pc := 332) (j := 5) (a := a7) (z := 1) (ls2 := [(7, V v87), (0, .ref 0), (1, .ref c1), (2, V a2), (5, .ref c5), (6, V a6)]) (dK D_Law_choices_3 11 rfl) rfl e_v87 (ltK rfl) rfl ?_
      refine x_goto (pc := 335) (tgt := 258) (dK D_Law_choices_3 12 rfl) rfl ?_
      refine x_weak (ls' := [(0, .ref 0), (1, .ref c1), (2, V a2), (5, .ref c5), (6, V a6), (7, V v87)]) (sbc 1 rfl (sbc 2 rfl (sbc 3 rfl (sbc 4 rfl (sbc 5 rfl (sbc 0 rfl sbn)))))) ?_
      replace h := ih _ _ h
      exact h _ _ hb ha6 (Vn_in e_v87) hx
    · replace h := ifP h hc109
      refine x_aloadn (pc := 289) (i0 := 1) (j := 1) (dK D_Law_choices_2 41 rfl) rfl rfl ?_
      refine bnE h ?_
      clear h
      intro v88 e_v88 h
      refine wx_getV (pc := 290) (ci := 12) (f := 4) e_v88 (dK D_Law_choices_2 42 rfl) q_776 (ltK rfl) (ltK rfl) (fun hv88 => ?_)
      refine x_iload (pc := 293) (j := 5) (dK D_Law_choices_2 43 rfl) rfl ?_
      refine rfE h ?_
      clear h
      intro r89 e_r89 h
      rw [e_r89]
      refine gdE h ?_
      clear h
      intro hk91 h
      refine bnE h ?_
      clear h
      intro p90 e_p90 h
      refine x_callX (pc := 295) (As := [V a7]) (rest := []) (mc' := 0) (ms' := 0) (dK D_Law_choices_2 44 rfl) Q_Law_69 sx_AL_get (fitK rfl) (isK_at (Z := (S, L)) (ci := 13) hk91) rfl (leK rfl) (Nat.le_trans (bdk hb) hkt) (Nat.le_trans (bdn hb) hnt) (tg_AL_get ha7 e_p90) (kxR (fun h_p90 => ?_))
      refine rfE h ?_
      clear h
      intro r92 e_r92 h
      rw [e_r92]
      refine gdE h ?_
      clear h
      intro hk93 h
      refine x_cast (pc := 298) (dK D_Law_choices_2 45 rfl) q_1033 (isK_at (Z := (S, L)) (ci := 11) hk93) ?_
      refine bnE h ?_
      clear h
      intro v94 e_v94 h
      refine wx_getI (pc := 301) (ci := 11) (f := 5) e_v94 (dK D_Law_choices_2 46 rfl) q_889 (ltK rfl) (ltK rfl) ?_
      refine wx_if_ne (pc := 304) (t := 332) (dK D_Law_choices_2 47 rfl) rfl (vI_at e_v94).2 (fun hc108 => ?_) (fun hc108 => ?_)
      · replace h := ifN h hc108
        refine nmE h ?_
        clear h
        intro v95 e_v95 h
        refine wx_iinc (pc := 332) (j := 5) (a := a7) (z := 1) (ls2 := [(7, V v95), (0, .ref 0), (1, .ref c1), (2, V a2), (5, .ref c5), (6, V a6)]) (dK D_Law_choices_3 11 rfl) rfl e_v95 (ltK rfl) rfl ?_
        refine x_goto (pc := 335) (tgt := 258) (dK D_Law_choices_3 12 rfl) rfl ?_
        refine x_weak (ls' := [(0, .ref 0), (1, .ref c1), (2, V a2), (5, .ref c5), (6, V a6), (7, V v95)]) (sbc 1 rfl (sbc 2 rfl (sbc 3 rfl (sbc 4 rfl (sbc 5 rfl (sbc 0 rfl sbn)))))) ?_
        replace h := ih _ _ h
        exact h _ _ hb ha6 (Vn_in e_v95) hx
      · replace h := ifP h hc108
        refine x_iload (pc := 307) (j := 4) (dK D_Law_choices_2 48 rfl) rfl ?_
        refine x_aloadn (pc := 309) (i0 := 1) (j := 1) (dK D_Law_choices_2 49 rfl) rfl rfl ?_
        refine x_iload (pc := 310) (j := 5) (dK D_Law_choices_3 0 rfl) rfl ?_
        refine x_aload (pc := 312) (j := 3) (dK D_Law_choices_3 1 rfl) rfl ?_
        refine wx_bipush (pc := 314) (dK D_Law_choices_3 2 rfl) rfl ?_
        refine gdE h ?_
        clear h
        intro hz96 h
        refine gdE h ?_
        clear h
        intro hl97 h
        obtain ⟨y98, h9, e9⟩ := adE2 h
        clear h
        subst e9
        have h := h9
        clear h9
        refine nwE h ?_
        clear h
        intro r99 L100 e_r99 e_L100 h
        have hk1 := Nat.le_trans (bd1 hb) hkt
        have hn1 := Nat.le_trans (bd2 hb) hnt
        replace hb := bdA hb
        refine wn_newa_bool (Z := (S, L)) (pc := 316) e_r99 e_L100 hl97 (inRk rfl) hz96 (dK D_Law_choices_3 3 rfl) q_808 hk1 hn1 ?_
        refine gdE h ?_
        clear h
        intro hk102 h
        refine bnE h ?_
        clear h
        intro p101 e_p101 h
        obtain ⟨yp101, h9, e9⟩ := adE2 h
        clear h
        subst e9
        have h := h9
        clear h9
        have hk1 := Nat.le_trans (bd1 hb) hkt
        have hn1 := Nat.le_trans (bd2 hb) hnt
        replace hb := bdA hb
        refine x_callX (pc := 318) (Y' := MJ 70) (As := [V a7, .ref c5, .ref r99]) (rest := [V a6]) (mc' := p101.2.1) (ms' := p101.2.2) (dK D_Law_choices_3 4 rfl) Q_Law_278 sx_LP_joins (fitK rfl) (isK_at (Z := (S, L100)) (ci := 12) hk102) rfl (leK rfl) hk1 hn1 (tr_LP_joins 70 _ _ _ _ _ _ ha7 e_p101) (kxB' ?_)
        refine wx_ifB_eq (pc := 321) (b := p101.1.1) (t := 328) (dK D_Law_choices_3 5 rfl) rfl (fun hc103 => ?_) (fun hc103 => ?_)
        · replace h := ifP h hc103
          refine wx_iconst (pc := 324) (dK D_Law_choices_3 6 rfl) ?_
          refine x_goto (pc := 325) (tgt := 329) (dK D_Law_choices_3 7 rfl) rfl ?_
          refine wx_iadd (pc := 329) (dK D_Law_choices_3 9 rfl) ?_
          refine nmE h ?_
          clear h
          intro v106 e_v106 h
          refine wtop e_v106 ?_
          refine x_istore (pc := 330) (ls2 := [(6, V v106), (0, .ref 0), (1, .ref c1), (2, V a2), (5, .ref c5), (7, V a7)]) (dK D_Law_choices_3 10 rfl) (ltK rfl) rfl ?_
          refine nmE h ?_
          clear h
          intro v107 e_v107 h
          refine wx_iinc (pc := 332) (j := 5) (a := a7) (z := 1) (ls2 := [(7, V v107), (6, V v106), (0, .ref 0), (1, .ref c1), (2, V a2), (5, .ref c5)]) (dK D_Law_choices_3 11 rfl) rfl e_v107 (ltK rfl) rfl ?_
          refine x_goto (pc := 335) (tgt := 258) (dK D_Law_choices_3 12 rfl) rfl ?_
          refine x_weak (ls' := [(0, .ref 0), (1, .ref c1), (2, V a2), (5, .ref c5), (6, V v106), (7, V v107)]) (sbc 2 rfl (sbc 3 rfl (sbc 4 rfl (sbc 5 rfl (sbc 1 rfl (sbc 0 rfl sbn)))))) ?_
          replace h := ih _ _ h
          exact h _ _ hb (Vn_in e_v106) (Vn_in e_v107) hx
        · replace h := ifN h hc103
          refine wx_iconst (pc := 328) (dK D_Law_choices_3 8 rfl) ?_
          refine wx_iadd (pc := 329) (dK D_Law_choices_3 9 rfl) ?_
          refine nmE h ?_
          clear h
          intro v104 e_v104 h
          refine wtop e_v104 ?_
          refine x_istore (pc := 330) (ls2 := [(6, V v104), (0, .ref 0), (1, .ref c1), (2, V a2), (5, .ref c5), (7, V a7)]) (dK D_Law_choices_3 10 rfl) (ltK rfl) rfl ?_
          refine nmE h ?_
          clear h
          intro v105 e_v105 h
          refine wx_iinc (pc := 332) (j := 5) (a := a7) (z := 1) (ls2 := [(7, V v105), (6, V v104), (0, .ref 0), (1, .ref c1), (2, V a2), (5, .ref c5)]) (dK D_Law_choices_3 11 rfl) rfl e_v105 (ltK rfl) rfl ?_
          refine x_goto (pc := 335) (tgt := 258) (dK D_Law_choices_3 12 rfl) rfl ?_
          refine x_weak (ls' := [(0, .ref 0), (1, .ref c1), (2, V a2), (5, .ref c5), (6, V v104), (7, V v105)]) (sbc 2 rfl (sbc 3 rfl (sbc 4 rfl (sbc 5 rfl (sbc 1 rfl (sbc 0 rfl sbn)))))) ?_
          replace h := ih _ _ h
          exact h _ _ hb (Vn_in e_v104) (Vn_in e_v105) hx
def gn_Law_choices (c1 : Nat) (a2 : Int) (S : St) (L : List PC) : Option ((Bool × LZ) × Nat × Nat) := bnT (lo2_Law_choices_9 c1 a2 FU ((-1), 99, 0, (S, L))) (fun r37 => some ((r37.1, (r37.2.1, r37.2.2)), 0, 0)) fun e38 => bnT (lo2_Law_choices_145 c1 a2 e38.1 FU (0, (e38.2.1, e38.2.2))) (fun r64 => some ((r64.1, (r64.2.1, r64.2.2)), 0, 0)) fun e65 => bnO (fn_FP_tightest 0 e65.1) fun p66 => if p66 = e38.1 then (if (0 : Int) ≤ 65 ∧ (65 : Int) ≤ 16384 then (if e65.2.length < 900000000 then adC 1 (65 : Int).toNat (nw e65.2 (100, List.replicate (65 : Int).toNat (.int 0)) fun r70 L71 => bnO (lo2_Law_choices_233 c1 a2 r70 FU (0, (e65.1, L71))) fun p75 => adC p75.2.1 p75.2.2 (bnO (lo2_Law_choices_258 c1 a2 r70 FU (0, 0, (p75.1.1, p75.1.2))) fun p111 => adC p111.2.1 p111.2.2 (bnO (fn_FP_matching 0 p111.1.2.1) fun p112 => if p112.1 = p111.1.1 then (bnO (gfV p111.1.2.2 c1 12 4) fun v113 => rfB v113 fun r114 => if isK p111.1.2.2 r114 13 = true then (bnO (gn_AL_isEmpty r114 p112.2 p111.1.2.2) fun p115 => if p115 = true then (some ((true, (p112.2, p111.1.2.2)), 0, 0)) else (bnO (gn_Law_evictions c1 a2 p112.2 p111.1.2.2) fun p118 => adC p118.2.1 p118.2.2 (if p118.1.1 = true then (some ((true, (p118.1.2.1, p118.1.2.2)), 0, 0)) else (some ((false, (p118.1.2.1, p118.1.2.2)), 0, 0))))) else none) else (some ((false, (p112.2, p111.1.2.2)), 0, 0))))) else none) else none) else (some ((false, (e65.1, e65.2)), 0, 0))
theorem te_Law_choices {sc : SC} {c1 : Nat} {a2 : Int} (ha2 : inR a2) {S : St} {L : List PC} {q : (Bool × LZ) × Nat × Nat} (h : gn_Law_choices c1 a2 S L = some q) {mc ms k n : Nat} (hb : Bd k n mc ms q) : GX sc M_Law_choices mc ms 0 [(0, .ref 0), (1, .ref c1), (2, V a2)] [] (wz (S, L)) k n (KXB q.1.1 q.1.2) := by
  unfold gn_Law_choices at h
  refine wx_iconst (pc := 0) (dK D_Law_choices_0 0 rfl) ?_
  refine x_istoren (pc := 1) (i0 := 3) (ls2 := [(3, V (-1)), (0, .ref 0), (1, .ref c1), (2, V a2)]) (dK D_Law_choices_0 1 rfl) rfl (ltK rfl) rfl ?_
  refine wx_bipush (pc := 2) (dK D_Law_choices_0 2 rfl) rfl ?_
  refine x_istore (pc := 4) (ls2 := [(4, V 99), (3, V (-1)), (0, .ref 0), (1, .ref c1), (2, V a2)]) (dK D_Law_choices_0 3 rfl) (ltK rfl) rfl ?_
  refine wx_iconst (pc := 6) (dK D_Law_choices_0 4 rfl) ?_
  refine x_istore (pc := 7) (ls2 := [(5, V 0), (4, V 99), (3, V (-1)), (0, .ref 0), (1, .ref c1), (2, V a2)]) (dK D_Law_choices_0 5 rfl) (ltK rfl) rfl ?_
  refine bnTE h ?_ ?_
  · clear h
    intro p36 r37 yp36 e_p36 f_p36 h e9
    subst e9
    have hk1 := bd1 hb
    have hn1 := bd2 hb
    replace hb := bdA hb
    refine x_weak (ls' := [(0, .ref 0), (1, .ref c1), (2, V a2), (3, V (-1)), (4, V 99), (5, V 0)]) (sbc 3 rfl (sbc 4 rfl (sbc 5 rfl (sbc 2 rfl (sbc 1 rfl (sbc 0 rfl sbn)))))) ?_
    refine tl2_Law_choices_9 ha2 hk1 hn1 FU _ _ e_p36 _ _ ⟨Nat.le_refl _, Nat.le_refl _⟩ (inRk rfl) (inRk rfl) (inRk rfl) (fun _ g_ => by rw [f_p36] at g_; exact nomatch g_) (fun r_ g_  => ?_)
    obtain rfl := Sum.inl.inj (f_p36.symm.trans g_)
    obtain rfl := Option.some.inj h
    exact ⟨rfl, rfl⟩
  · clear h
    intro p36 e38 yp36 e_p36 f_p36 h e9
    subst e9
    have hk1 := bd1 hb
    have hn1 := bd2 hb
    replace hb := bdA hb
    refine x_weak (ls' := [(0, .ref 0), (1, .ref c1), (2, V a2), (3, V (-1)), (4, V 99), (5, V 0)]) (sbc 3 rfl (sbc 4 rfl (sbc 5 rfl (sbc 2 rfl (sbc 1 rfl (sbc 0 rfl sbn)))))) ?_
    refine tl2_Law_choices_9 ha2 hk1 hn1 FU _ _ e_p36 _ _ ⟨Nat.le_refl _, Nat.le_refl _⟩ (inRk rfl) (inRk rfl) (inRk rfl) (fun e_ g_ hx3_p36 => ?_) (fun _ g_ => by rw [f_p36] at g_; exact nomatch g_)
    obtain rfl := Sum.inr.inj (f_p36.symm.trans g_)
    refine wx_iconst (pc := 142) (dK D_Law_choices_1 20 rfl) ?_
    refine x_istore (pc := 143) (ls2 := [(5, V 0), (0, .ref 0), (1, .ref c1), (2, V a2), (3, V e38.1)]) (dK D_Law_choices_1 21 rfl) (ltK rfl) rfl ?_
    refine bnTE h ?_ ?_
    · clear h
      intro p63 r64 yp63 e_p63 f_p63 h e9
      subst e9
      have hk1 := bd1 hb
      have hn1 := bd2 hb
      replace hb := bdA hb
      refine x_weak (ls' := [(0, .ref 0), (1, .ref c1), (2, V a2), (3, V e38.1), (5, V 0)]) (sbc 1 rfl (sbc 2 rfl (sbc 3 rfl (sbc 4 rfl (sbc 0 rfl sbn))))) ?_
      refine tl2_Law_choices_145 ha2 hx3_p36 hk1 hn1 FU _ _ e_p63 _ _ ⟨Nat.le_refl _, Nat.le_refl _⟩ (inRk rfl) (fun _ g_ => by rw [f_p63] at g_; exact nomatch g_) (fun r_ g_  => ?_)
      obtain rfl := Sum.inl.inj (f_p63.symm.trans g_)
      obtain rfl := Option.some.inj h
      exact ⟨rfl, rfl⟩
    · clear h
      intro p63 e65 yp63 e_p63 f_p63 h e9
      subst e9
      have hk1 := bd1 hb
      have hn1 := bd2 hb
      replace hb := bdA hb
      refine x_weak (ls' := [(0, .ref 0), (1, .ref c1), (2, V a2), (3, V e38.1), (5, V 0)]) (sbc 1 rfl (sbc 2 rfl (sbc 3 rfl (sbc 4 rfl (sbc 0 rfl sbn))))) ?_
      refine tl2_Law_choices_145 ha2 hx3_p36 hk1 hn1 FU _ _ e_p63 _ _ ⟨Nat.le_refl _, Nat.le_refl _⟩ (inRk rfl) (fun e_ g_  => ?_) (fun _ g_ => by rw [f_p63] at g_; exact nomatch g_)
      obtain rfl := Sum.inr.inj (f_p63.symm.trans g_)
      refine x_aloadn (pc := 214) (i0 := 0) (j := 0) (dK D_Law_choices_2 4 rfl) rfl rfl ?_
      refine bnE h ?_
      clear h
      intro p66 e_p66 h
      refine x_callX (pc := 215) (As := []) (rest := []) (mc' := 0) (ms' := 0) (dK D_Law_choices_2 5 rfl) Q_Law_275 sx_FP_tightest (fitK rfl) (isK_at (Z := (e65.1, e65.2)) (ci := 10) isK0) rfl (leK rfl) (bdk hb) (bdn hb) (clI (fun E => tf_FP_tightest (X := xz e65.2) xz_hc  e_p66)) (kxI' (fun h_p66 => ?_))
      refine x_iloadn (pc := 218) (i0 := 3) (j := 3) (dK D_Law_choices_2 6 rfl) rfl rfl ?_
      refine wx_icmp_eq (pc := 219) (t := 224) (dK D_Law_choices_2 7 rfl) rfl h_p66 hx3_p36 (fun hc121 => ?_) (fun hc121 => ?_)
      · replace h := ifP h hc121
        refine wx_bipush (pc := 224) (dK D_Law_choices_2 10 rfl) rfl ?_
        refine gdE h ?_
        clear h
        intro hz67 h
        refine gdE h ?_
        clear h
        intro hl68 h
        obtain ⟨y69, h9, e9⟩ := adE2 h
        clear h
        subst e9
        have h := h9
        clear h9
        refine nwE h ?_
        clear h
        intro r70 L71 e_r70 e_L71 h
        have hk1 := bd1 hb
        have hn1 := bd2 hb
        replace hb := bdA hb
        refine wn_newa_int (Z := (e65.1, e65.2)) (pc := 226) e_r70 e_L71 hl68 (inRk rfl) hz67 (dK D_Law_choices_2 11 rfl) q_68 hk1 hn1 ?_
        refine x_astore (pc := 228) (ls2 := [(5, .ref r70), (0, .ref 0), (1, .ref c1), (2, V a2), (3, V e38.1)]) (dK D_Law_choices_2 12 rfl) (ltK rfl) rfl ?_
        refine wx_iconst (pc := 230) (dK D_Law_choices_2 13 rfl) ?_
        refine x_istore (pc := 231) (ls2 := [(6, V 0), (5, .ref r70), (0, .ref 0), (1, .ref c1), (2, V a2), (3, V e38.1)]) (dK D_Law_choices_2 14 rfl) (ltK rfl) rfl ?_
        refine bnE h ?_
        clear h
        intro p75 e_p75 h
        obtain ⟨yp75, h9, e9⟩ := adE2 h
        clear h
        subst e9
        have h := h9
        clear h9
        have hk1 := bd1 hb
        have hn1 := bd2 hb
        replace hb := bdA hb
        refine x_weak (ls' := [(0, .ref 0), (1, .ref c1), (2, V a2), (5, .ref r70), (6, V 0)]) (sbc 2 rfl (sbc 3 rfl (sbc 4 rfl (sbc 1 rfl (sbc 0 rfl sbn))))) ?_
        refine tl2_Law_choices_233 ha2 hk1 hn1 FU _ _ e_p75 _ _ ⟨Nat.le_refl _, Nat.le_refl _⟩ (inRk rfl) ?_
        refine wx_iconst (pc := 252) (dK D_Law_choices_2 24 rfl) ?_
        refine x_istore (pc := 253) (ls2 := [(6, V 0), (0, .ref 0), (1, .ref c1), (2, V a2), (5, .ref r70)]) (dK D_Law_choices_2 25 rfl) (ltK rfl) rfl ?_
        refine wx_iconst (pc := 255) (dK D_Law_choices_2 26 rfl) ?_
        refine x_istore (pc := 256) (ls2 := [(7, V 0), (6, V 0), (0, .ref 0), (1, .ref c1), (2, V a2), (5, .ref r70)]) (dK D_Law_choices_2 27 rfl) (ltK rfl) rfl ?_
        refine bnE h ?_
        clear h
        intro p111 e_p111 h
        obtain ⟨yp111, h9, e9⟩ := adE2 h
        clear h
        subst e9
        have h := h9
        clear h9
        have hk1 := bd1 hb
        have hn1 := bd2 hb
        replace hb := bdA hb
        refine x_weak (ls' := [(0, .ref 0), (1, .ref c1), (2, V a2), (5, .ref r70), (6, V 0), (7, V 0)]) (sbc 2 rfl (sbc 3 rfl (sbc 4 rfl (sbc 5 rfl (sbc 1 rfl (sbc 0 rfl sbn)))))) ?_
        refine tl2_Law_choices_258 ha2 hk1 hn1 FU _ _ e_p111 _ _ ⟨Nat.le_refl _, Nat.le_refl _⟩ (inRk rfl) (inRk rfl) (fun hx6_p111 => ?_)
        refine x_aloadn (pc := 338) (i0 := 0) (j := 0) (dK D_Law_choices_3 13 rfl) rfl rfl ?_
        refine bnE h ?_
        clear h
        intro p112 e_p112 h
        refine x_callX (pc := 339) (As := []) (rest := []) (mc' := 0) (ms' := 0) (dK D_Law_choices_3 14 rfl) Q_Law_282 sx_FP_matching (fitK rfl) (isK_at (Z := (p111.1.2.1, p111.1.2.2)) (ci := 10) isK0) rfl (leK rfl) (bdk hb) (bdn hb) (clI (fun E => tf_FP_matching (X := xz p111.1.2.2) xz_hc  e_p112)) (kxI' (fun h_p112 => ?_))
        refine x_iload (pc := 342) (j := 3) (dK D_Law_choices_3 15 rfl) rfl ?_
        refine wx_icmp_ne (pc := 344) (t := 370) (dK D_Law_choices_3 16 rfl) rfl h_p112 hx6_p111 (fun hc120 => ?_) (fun hc120 => ?_)
        · replace h := ifN h hc120
          refine wx_iconst (pc := 370) (dK D_Law_choices_3 28 rfl) ?_
          obtain rfl := Option.some.inj h
          exact wk_iretB (pc := 371) (b := false) (dK D_Law_choices_3 29 rfl) rfl (bdk hb) (bdn hb) ⟨rfl, rfl⟩
        · replace h := ifP h hc120
          refine x_aloadn (pc := 347) (i0 := 1) (j := 1) (dK D_Law_choices_3 17 rfl) rfl rfl ?_
          refine bnE h ?_
          clear h
          intro v113 e_v113 h
          refine wx_getV (pc := 348) (ci := 12) (f := 4) e_v113 (dK D_Law_choices_3 18 rfl) q_776 (ltK rfl) (ltK rfl) (fun hv113 => ?_)
          refine rfE h ?_
          clear h
          intro r114 e_r114 h
          rw [e_r114]
          refine gdE h ?_
          clear h
          intro hk116 h
          refine bnE h ?_
          clear h
          intro p115 e_p115 h
          refine x_callX (pc := 351) (As := []) (rest := []) (mc' := 0) (ms' := 0) (dK D_Law_choices_3 19 rfl) Q_Law_285 sx_AL_isEmpty (fitK rfl) (isK_at (Z := (p112.2, p111.1.2.2)) (ci := 13) hk116) rfl (leK rfl) (bdk hb) (bdn hb) (tg_AL_isEmpty  e_p115) (kxB' ?_)
          refine wx_ifB_ne (pc := 354) (b := p115) (t := 366) (dK D_Law_choices_3 20 rfl) rfl (fun hc117 => ?_) (fun hc117 => ?_)
          · replace h := ifP h hc117
            refine wx_iconst (pc := 366) (dK D_Law_choices_3 26 rfl) ?_
            refine x_goto (pc := 367) (tgt := 371) (dK D_Law_choices_3 27 rfl) rfl ?_
            obtain rfl := Option.some.inj h
            exact wk_iretB (pc := 371) (b := true) (dK D_Law_choices_3 29 rfl) rfl (bdk hb) (bdn hb) ⟨rfl, rfl⟩
          · replace h := ifN h hc117
            refine x_aloadn (pc := 357) (i0 := 0) (j := 0) (dK D_Law_choices_3 21 rfl) rfl rfl ?_
            refine x_aloadn (pc := 358) (i0 := 1) (j := 1) (dK D_Law_choices_3 22 rfl) rfl rfl ?_
            refine x_iloadn (pc := 359) (i0 := 2) (j := 2) (dK D_Law_choices_3 23 rfl) rfl rfl ?_
            refine bnE h ?_
            clear h
            intro p118 e_p118 h
            obtain ⟨yp118, h9, e9⟩ := adE2 h
            clear h
            subst e9
            have h := h9
            clear h9
            have hk1 := bd1 hb
            have hn1 := bd2 hb
            replace hb := bdA hb
            refine x_callS (pc := 360) (As := [.ref 0, .ref c1, V a2]) (rest := []) (mc' := p118.2.1) (ms' := p118.2.2) (dK D_Law_choices_3 24 rfl) Q_Law_288 (fitK rfl) rfl (leK rfl) hk1 hn1 (tg_Law_evictions ha2 e_p118) (kxB' ?_)
            refine wx_ifB_eq (pc := 363) (b := p118.1.1) (t := 370) (dK D_Law_choices_3 25 rfl) rfl (fun hc119 => ?_) (fun hc119 => ?_)
            · replace h := ifP h hc119
              refine wx_iconst (pc := 366) (dK D_Law_choices_3 26 rfl) ?_
              refine x_goto (pc := 367) (tgt := 371) (dK D_Law_choices_3 27 rfl) rfl ?_
              obtain rfl := Option.some.inj h
              exact wk_iretB (pc := 371) (b := true) (dK D_Law_choices_3 29 rfl) rfl (bdk hb) (bdn hb) ⟨rfl, rfl⟩
            · replace h := ifN h hc119
              refine wx_iconst (pc := 370) (dK D_Law_choices_3 28 rfl) ?_
              obtain rfl := Option.some.inj h
              exact wk_iretB (pc := 371) (b := false) (dK D_Law_choices_3 29 rfl) rfl (bdk hb) (bdn hb) ⟨rfl, rfl⟩
      · replace h := ifN h hc121
        refine wx_iconst (pc := 222) (dK D_Law_choices_2 8 rfl) ?_
        obtain rfl := Option.some.inj h
        exact wk_iretB (pc := 223) (b := false) (dK D_Law_choices_2 9 rfl) rfl (bdk hb) (bdn hb) ⟨rfl, rfl⟩
theorem tg_Law_choices {sc : SC} {c1 : Nat} {a2 : Int} (ha2 : inR a2) {S : St} {L : List PC} {q : (Bool × LZ) × Nat × Nat} (h : gn_Law_choices c1 a2 S L = some q) : EvX sc M_Law_choices [.ref 0, .ref c1, V a2] (wz (S, L)) q.2.1 q.2.2 (KXB q.1.1 q.1.2) := EvX.of pn2_Law rfl (leK rfl) (te_Law_choices ha2 h ⟨Nat.le_of_eq (Nat.zero_add _), Nat.le_of_eq (Nat.zero_add _)⟩)
def lb2_LP_open_2 (c0 : Nat) (c1 : Nat) (S : St) (L : List PC) (go : Int → Option ((Bool) ⊕ (Unit))) (a2 : Int) : Option ((Bool) ⊕ (Unit)) := bnO (gfI L c0 12 0) fun v1 => nm (wr (2 * v1)) fun v2 => if v2 ≤ a2 then (some (.inr ())) else (bnO (gfV L c0 12 8) fun v3 => rfB v3 fun r4 => bnO (ald L 2 r4 a2) fun v5 => if v5 = 0 then (if isK L c0 12 = true then (bnO (gn_LP_touches c0 c1 a2 S L) fun p7 => if p7 = true then (some (.inl true)) else (nm (wr (a2 + 1)) fun v10 => go v10)) else none) else (nm (wr (a2 + 1)) fun v6 => go v6))
def lo2_LP_open_2 (c0 : Nat) (c1 : Nat) (S : St) (L : List PC) : Nat → Int → Option ((Bool) ⊕ (Unit)) := lp fun go p => lb2_LP_open_2 c0 c1 S L go p
theorem tl2_LP_open_2 {sc : SC} {c0 : Nat} {c1 : Nat} {K : Option Value → List PC → Prop} {S : St} {L : List PC} {mc ms k n : Nat} (hk0 : k ≤ mc) (hn0 : n ≤ ms) : ∀ (N : Nat) (a : Int) (q : (Bool) ⊕ (Unit)), lo2_LP_open_2 c0 c1 S L N a = some q → inR a → (∀ e, q = .inr e → GX sc M_LP_open mc ms 38 [] [] (wz (S, L)) k n K) → (∀ r, q = .inl r → K (some (V (bi r))) (wz (S, L))) → GX sc M_LP_open mc ms 2 [(0, .ref c0), (1, .ref c1), (2, V a)] [] (wz (S, L)) k n K := by
  refine lp_ind2 (P := fun (a : Int) (q : (Bool) ⊕ (Unit)) => inR a → (∀ e, q = .inr e → GX sc M_LP_open mc ms 38 [] [] (wz (S, L)) k n K) → (∀ r, q = .inl r → K (some (V (bi r))) (wz (S, L))) → GX sc M_LP_open mc ms 2 [(0, .ref c0), (1, .ref c1), (2, V a)] [] (wz (S, L)) k n K) (fun go ih a q h => ?_)
  revert h; generalize a = a2; intro h
  intro ha2 hx hr
  show GX sc M_LP_open mc ms 2 [(0, .ref c0), (1, .ref c1), (2, V a2)] [] (wz (S, L)) k n K
  replace h : lb2_LP_open_2 c0 c1 S L go a2 = some q := h
  unfold lb2_LP_open_2 at h
  refine x_iloadn (pc := 2) (i0 := 2) (j := 2) (dK D_LP_open 2 rfl) rfl rfl ?_
  refine wx_iconst (pc := 3) (dK D_LP_open 3 rfl) ?_
  refine x_aloadn (pc := 4) (i0 := 0) (j := 0) (dK D_LP_open 4 rfl) rfl rfl ?_
  refine bnE h ?_
  clear h
  intro v1 e_v1 h
  refine wx_getI (pc := 5) (ci := 12) (f := 0) e_v1 (dK D_LP_open 5 rfl) q_767 (ltK rfl) (ltK rfl) ?_
  refine wx_imul (pc := 8) (dK D_LP_open 6 rfl) ?_
  refine nmE h ?_
  clear h
  intro v2 e_v2 h
  refine wtop e_v2 ?_
  refine wx_icmp_ge (pc := 9) (t := 38) (dK D_LP_open 7 rfl) rfl ha2 (Vn_in e_v2) (fun hc12 => ?_) (fun hc12 => ?_)
  · replace h := ifP h hc12
    obtain rfl := Option.some.inj h
    refine x_weak (ls' := []) sbn ?_
    exact hx () rfl
  · replace h := ifN h hc12
    refine x_aloadn (pc := 12) (i0 := 0) (j := 0) (dK D_LP_open 8 rfl) rfl rfl ?_
    refine bnE h ?_
    clear h
    intro v3 e_v3 h
    refine wx_getV (pc := 13) (ci := 12) (f := 8) e_v3 (dK D_LP_open 9 rfl) q_783 (ltK rfl) (ltK rfl) (fun hv3 => ?_)
    refine x_iloadn (pc := 16) (i0 := 2) (j := 2) (dK D_LP_open 10 rfl) rfl rfl ?_
    refine rfE h ?_
    clear h
    intro r4 e_r4 h
    rw [e_r4]
    refine bnE h ?_
    clear h
    intro v5 e_v5 h
    refine wx_zald (pc := 17) e_v5 ha2 (dK D_LP_open 11 rfl) ?_
    refine wx_if_ne (pc := 18) (t := 32) (dK D_LP_open 12 rfl) rfl (vI_at e_v5).2 (fun hc11 => ?_) (fun hc11 => ?_)
    · replace h := ifN h hc11
      refine nmE h ?_
      clear h
      intro v6 e_v6 h
      refine wx_iinc (pc := 32) (j := 2) (a := a2) (z := 1) (ls2 := [(2, V v6), (0, .ref c0), (1, .ref c1)]) (dK D_LP_open 20 rfl) rfl e_v6 (ltK rfl) rfl ?_
      refine x_goto (pc := 35) (tgt := 2) (dK D_LP_open 21 rfl) rfl ?_
      refine x_weak (ls' := [(0, .ref c0), (1, .ref c1), (2, V v6)]) (sbc 1 rfl (sbc 2 rfl (sbc 0 rfl sbn))) ?_
      replace h := ih _ _ h
      exact h (Vn_in e_v6) hx hr
    · replace h := ifP h hc11
      refine x_aloadn (pc := 21) (i0 := 0) (j := 0) (dK D_LP_open 13 rfl) rfl rfl ?_
      refine x_aloadn (pc := 22) (i0 := 1) (j := 1) (dK D_LP_open 14 rfl) rfl rfl ?_
      refine x_iloadn (pc := 23) (i0 := 2) (j := 2) (dK D_LP_open 15 rfl) rfl rfl ?_
      refine gdE h ?_
      clear h
      intro hk8 h
      refine bnE h ?_
      clear h
      intro p7 e_p7 h
      refine x_callX (pc := 24) (As := [.ref c1, V a2]) (rest := []) (mc' := 0) (ms' := 0) (dK D_LP_open 16 rfl) Q_LP_137 sx_LP_touches (fitK rfl) (isK_at (Z := (S, L)) (ci := 12) hk8) rfl (leK rfl) hk0 hn0 (tg_LP_touches ha2 e_p7) (kxB' ?_)
      refine wx_ifB_eq (pc := 27) (b := p7) (t := 32) (dK D_LP_open 17 rfl) rfl (fun hc9 => ?_) (fun hc9 => ?_)
      · replace h := ifP h hc9
        refine wx_iconst (pc := 30) (dK D_LP_open 18 rfl) ?_
        obtain rfl := Option.some.inj h
        exact wk_iretB (pc := 31) (b := true) (dK D_LP_open 19 rfl) rfl hk0 hn0 (hr true rfl)
      · replace h := ifN h hc9
        refine nmE h ?_
        clear h
        intro v10 e_v10 h
        refine wx_iinc (pc := 32) (j := 2) (a := a2) (z := 1) (ls2 := [(2, V v10), (0, .ref c0), (1, .ref c1)]) (dK D_LP_open 20 rfl) rfl e_v10 (ltK rfl) rfl ?_
        refine x_goto (pc := 35) (tgt := 2) (dK D_LP_open 21 rfl) rfl ?_
        refine x_weak (ls' := [(0, .ref c0), (1, .ref c1), (2, V v10)]) (sbc 1 rfl (sbc 2 rfl (sbc 0 rfl sbn))) ?_
        replace h := ih _ _ h
        exact h (Vn_in e_v10) hx hr
def gn_LP_open (c0 : Nat) (c1 : Nat) (S : St) (L : List PC) : Option (Bool) := bnS (lo2_LP_open_2 c0 c1 S L FU 0) (fun r14 => some r14) fun e15 => some false
theorem te_LP_open {sc : SC} {c0 : Nat} {c1 : Nat} {S : St} {L : List PC} {q : Bool} (h : gn_LP_open c0 c1 S L = some q) {mc ms k n : Nat} (hk0 : k ≤ mc) (hn0 : n ≤ ms) : GX sc M_LP_open mc ms 0 [(0, .ref c0), (1, .ref c1)] [] (wz (S, L)) k n (KXB q (S, L)) := by
  unfold gn_LP_open at h
  refine wx_iconst (pc := 0) (dK D_LP_open 0 rfl) ?_
  refine x_istoren (pc := 1) (i0 := 2) (ls2 := [(2, V 0), (0, .ref c0), (1, .ref c1)]) (dK D_LP_open 1 rfl) rfl (ltK rfl) rfl ?_
  refine bnSE h ?_ ?_
  · clear h
    intro r14 e_p13 h
    refine x_weak (ls' := [(0, .ref c0), (1, .ref c1), (2, V 0)]) (sbc 1 rfl (sbc 2 rfl (sbc 0 rfl sbn))) ?_
    refine tl2_LP_open_2  hk0 hn0 FU _ _ e_p13 (inRk rfl) (fun _ g_ => nomatch g_) (fun r_ g_  => ?_)
    obtain rfl := Sum.inl.inj g_
    obtain rfl := Option.some.inj h
    exact ⟨rfl, rfl⟩
  · clear h
    intro e15 e_p13 h
    refine x_weak (ls' := [(0, .ref c0), (1, .ref c1), (2, V 0)]) (sbc 1 rfl (sbc 2 rfl (sbc 0 rfl sbn))) ?_
    refine tl2_LP_open_2  hk0 hn0 FU _ _ e_p13 (inRk rfl) (fun e_ g_  => ?_) (fun _ g_ => nomatch g_)
    obtain rfl := Sum.inr.inj g_
    refine wx_iconst (pc := 38) (dK D_LP_open 22 rfl) ?_
    obtain rfl := Option.some.inj h
    exact wk_iretB (pc := 39) (b := false) (dK D_LP_open 23 rfl) rfl hk0 hn0 ⟨rfl, rfl⟩
theorem tg_LP_open {sc : SC} {c0 : Nat} {c1 : Nat} {S : St} {L : List PC} {q : Bool} (h : gn_LP_open c0 c1 S L = some q) : EvX sc M_LP_open [.ref c0, .ref c1] (wz (S, L)) 0 0 (KXB q (S, L)) := EvX.of pn2_LP rfl (leK rfl) (te_LP_open  h (Nat.le_refl _) (Nat.le_refl _))
def gn_Law_ready (c0 : Nat) (a1 : Int) (S : St) (L : List PC) : Option (Int) := if 100 ≤ a1 then (bnO (gfV L c0 12 5) fun v1 => nm (wr (a1 - 100)) fun v2 => rfB v1 fun r3 => if isK L r3 13 = true then (bnO (gn_AL_get r3 v2 S L) fun p4 => rfB p4 fun r6 => if isK L r6 11 = true then (bnO (gfI L r6 11 4) fun v8 => some v8) else none) else none) else (bnO (gfV L c0 12 4) fun v9 => rfB v9 fun r10 => if isK L r10 13 = true then (bnO (gn_AL_get r10 a1 S L) fun p11 => rfB p11 fun r13 => if isK L r13 11 = true then (bnO (gfI L r13 11 4) fun v15 => some v15) else none) else none)
theorem te_Law_ready {sc : SC} {c0 : Nat} {a1 : Int} (ha1 : inR a1) {S : St} {L : List PC} {q : Int} (h : gn_Law_ready c0 a1 S L = some q) {mc ms k n : Nat} (hk0 : k ≤ mc) (hn0 : n ≤ ms) : GX sc M_Law_ready mc ms 0 [(0, .ref c0), (1, V a1)] [] (wz (S, L)) k n (KXI q (S, L)) := by
  unfold gn_Law_ready at h
  refine x_iloadn (pc := 0) (i0 := 1) (j := 1) (dK D_Law_ready 0 rfl) rfl rfl ?_
  refine wx_bipush (pc := 1) (dK D_Law_ready 1 rfl) rfl ?_
  refine wx_icmp_ge (pc := 3) (t := 23) (dK D_Law_ready 2 rfl) rfl ha1 (inRk rfl) (fun hc16 => ?_) (fun hc16 => ?_)
  · replace h := ifP h hc16
    refine x_aloadn (pc := 23) (i0 := 0) (j := 0) (dK D_Law_ready 10 rfl) rfl rfl ?_
    refine bnE h ?_
    clear h
    intro v1 e_v1 h
    refine wx_getV (pc := 24) (ci := 12) (f := 5) e_v1 (dK D_Law_ready 11 rfl) q_778 (ltK rfl) (ltK rfl) (fun hv1 => ?_)
    refine x_iloadn (pc := 27) (i0 := 1) (j := 1) (dK D_Law_ready 12 rfl) rfl rfl ?_
    refine wx_bipush (pc := 28) (dK D_Law_ready 13 rfl) rfl ?_
    refine wx_isub (pc := 30) (dK D_Law_ready 14 rfl) ?_
    refine nmE h ?_
    clear h
    intro v2 e_v2 h
    refine wtop e_v2 ?_
    refine rfE h ?_
    clear h
    intro r3 e_r3 h
    rw [e_r3]
    refine gdE h ?_
    clear h
    intro hk5 h
    refine bnE h ?_
    clear h
    intro p4 e_p4 h
    refine x_callX (pc := 31) (As := [V v2]) (rest := []) (mc' := 0) (ms' := 0) (dK D_Law_ready 15 rfl) Q_Law_69 sx_AL_get (fitK rfl) (isK_at (Z := (S, L)) (ci := 13) hk5) rfl (leK rfl) hk0 hn0 (tg_AL_get (Vn_in e_v2) e_p4) (kxR (fun h_p4 => ?_))
    refine rfE h ?_
    clear h
    intro r6 e_r6 h
    rw [e_r6]
    refine gdE h ?_
    clear h
    intro hk7 h
    refine x_cast (pc := 34) (dK D_Law_ready 16 rfl) q_1033 (isK_at (Z := (S, L)) (ci := 11) hk7) ?_
    refine bnE h ?_
    clear h
    intro v8 e_v8 h
    refine wx_getI (pc := 37) (ci := 11) (f := 4) e_v8 (dK D_Law_ready 17 rfl) q_885 (ltK rfl) (ltK rfl) ?_
    obtain rfl := Option.some.inj h
    exact wk_iretI (pc := 40) (dK D_Law_ready 18 rfl) rfl hk0 hn0 ⟨rfl, (vI_at e_v8).2, rfl⟩
  · replace h := ifN h hc16
    refine x_aloadn (pc := 6) (i0 := 0) (j := 0) (dK D_Law_ready 3 rfl) rfl rfl ?_
    refine bnE h ?_
    clear h
    intro v9 e_v9 h
    refine wx_getV (pc := 7) (ci := 12) (f := 4) e_v9 (dK D_Law_ready 4 rfl) q_776 (ltK rfl) (ltK rfl) (fun hv9 => ?_)
    refine x_iloadn (pc := 10) (i0 := 1) (j := 1) (dK D_Law_ready 5 rfl) rfl rfl ?_
    refine rfE h ?_
    clear h
    intro r10 e_r10 h
    rw [e_r10]
    refine gdE h ?_
    clear h
    intro hk12 h
    refine bnE h ?_
    clear h
    intro p11 e_p11 h
    refine x_callX (pc := 11) (As := [V a1]) (rest := []) (mc' := 0) (ms' := 0) (dK D_Law_ready 6 rfl) Q_Law_69 sx_AL_get (fitK rfl) (isK_at (Z := (S, L)) (ci := 13) hk12) rfl (leK rfl) hk0 hn0 (tg_AL_get ha1 e_p11) (kxR (fun h_p11 => ?_))
    refine rfE h ?_
    clear h
    intro r13 e_r13 h
    rw [e_r13]
    refine gdE h ?_
    clear h
    intro hk14 h
    refine x_cast (pc := 14) (dK D_Law_ready 7 rfl) q_1033 (isK_at (Z := (S, L)) (ci := 11) hk14) ?_
    refine bnE h ?_
    clear h
    intro v15 e_v15 h
    refine wx_getI (pc := 17) (ci := 11) (f := 4) e_v15 (dK D_Law_ready 8 rfl) q_885 (ltK rfl) (ltK rfl) ?_
    refine x_goto (pc := 20) (tgt := 40) (dK D_Law_ready 9 rfl) rfl ?_
    obtain rfl := Option.some.inj h
    exact wk_iretI (pc := 40) (dK D_Law_ready 18 rfl) rfl hk0 hn0 ⟨rfl, (vI_at e_v15).2, rfl⟩
theorem tg_Law_ready {sc : SC} {c0 : Nat} {a1 : Int} (ha1 : inR a1) {S : St} {L : List PC} {q : Int} (h : gn_Law_ready c0 a1 S L = some q) : EvX sc M_Law_ready [.ref c0, V a1] (wz (S, L)) 0 0 (KXI q (S, L)) := EvX.of pn2_Law rfl (leK rfl) (te_Law_ready ha1 h (Nat.le_refl _) (Nat.le_refl _))
def gn_AL_rangeCheckForAdd (c0 : Nat) (a1 : Int) (S : St) (L : List PC) : Option (Unit) := bnO (gfI L c0 13 1) fun v1 => if v1 < a1 then none else (if 0 ≤ a1 then (some ()) else none)
theorem te_AL_rangeCheckForAdd {sc : SC} {c0 : Nat} {a1 : Int} (ha1 : inR a1) {S : St} {L : List PC} {q : Unit} (h : gn_AL_rangeCheckForAdd c0 a1 S L = some q) {mc ms k n : Nat} (hk0 : k ≤ mc) (hn0 : n ≤ ms) : GX sc M_AL_rangeCheckForAdd mc ms 0 [(0, .ref c0), (1, V a1)] [] (wz (S, L)) k n (KXU (S, L)) := by
  unfold gn_AL_rangeCheckForAdd at h
  refine x_iloadn (pc := 0) (i0 := 1) (j := 1) (dK D_AL_rangeCheckForAdd 0 rfl) rfl rfl ?_
  refine x_aloadn (pc := 1) (i0 := 0) (j := 0) (dK D_AL_rangeCheckForAdd 1 rfl) rfl rfl ?_
  refine bnE h ?_
  clear h
  intro v1 e_v1 h
  refine wx_getI (pc := 2) (ci := 13) (f := 1) e_v1 (dK D_AL_rangeCheckForAdd 2 rfl) q_755 (ltK rfl) (ltK rfl) ?_
  refine wx_icmp_gt (pc := 5) (t := 12) (dK D_AL_rangeCheckForAdd 3 rfl) rfl ha1 (vI_at e_v1).2 (fun hc3 => ?_) (fun hc3 => ?_)
  · replace h := ifP h hc3
    exact nomatch h
  · replace h := ifN h hc3
    refine x_iloadn (pc := 8) (i0 := 1) (j := 1) (dK D_AL_rangeCheckForAdd 4 rfl) rfl rfl ?_
    refine wx_if_ge (pc := 9) (t := 25) (dK D_AL_rangeCheckForAdd 5 rfl) rfl ha1 (fun hc2 => ?_) (fun hc2 => ?_)
    · replace h := ifP h hc2
      exact wk_ret (pc := 25) (dK D_AL_rangeCheckForAdd 13 rfl) rfl hk0 hn0 ⟨rfl, rfl⟩
    · replace h := ifN h hc2
      exact nomatch h
theorem tg_AL_rangeCheckForAdd {sc : SC} {c0 : Nat} {a1 : Int} (ha1 : inR a1) {S : St} {L : List PC} {q : Unit} (h : gn_AL_rangeCheckForAdd c0 a1 S L = some q) : EvX sc M_AL_rangeCheckForAdd [.ref c0, V a1] (wz (S, L)) 0 0 (KXU (S, L)) := EvX.of pn2_AL rfl (leK rfl) (te_AL_rangeCheckForAdd ha1 h (Nat.le_refl _) (Nat.le_refl _))
def gn_AL_add3 (c0 : Nat) (a1 : Int) (c2 : Value) (S : St) (L : List PC) : Option ((LZ) × Nat × Nat) := if isK L c0 13 = true then (bnO (gn_AL_rangeCheckForAdd c0 a1 S L) fun p1 => bnO (gfI L c0 13 2) fun v3 => nm (wr (v3 + 1)) fun v4 => bnO (pf L c0 13 2 (V v4)) fun L5 => bnO (gfI L5 c0 13 1) fun v6 => bnO (gfV L5 c0 13 0) fun v7 => rfB v7 fun r8 => bnO (alm L5 r8) fun v9 => if v6 = v9 then (if isK L5 c0 13 = true then (bnO (gn_AL_grow c0 S L5) fun p17 => adC p17.2.1 p17.2.2 (nm (wr (v6 - a1)) fun v19 => nm (wr (a1 + 1)) fun v20 => rfB p17.1.1 fun r21 => bnO (cpQ p17.1.2.2 r21 a1 r21 v20 v19) fun L22 => if okE L22 c2 = true then bnO (ast L22 103 r21 a1 c2) fun L23 => nm (wr (v6 + 1)) fun v25 => bnO (pf L23 c0 13 1 (V v25)) fun L26 => some ((p17.1.2.1, L26), 0, 0) else none)) else none) else (nm (wr (v6 - a1)) fun v10 => nm (wr (a1 + 1)) fun v11 => bnO (cpQ L5 r8 a1 r8 v11 v10) fun L12 => if okE L12 c2 = true then bnO (ast L12 103 r8 a1 c2) fun L13 => nm (wr (v6 + 1)) fun v15 => bnO (pf L13 c0 13 1 (V v15)) fun L16 => some ((S, L16), 0, 0) else none)) else none
theorem te_AL_add3 {sc : SC} {c0 : Nat} {a1 : Int} (ha1 : inR a1) {c2 : Value} (hc2 : c2 = .null ∨ ∃ b, c2 = .ref b) {S : St} {L : List PC} {q : (LZ) × Nat × Nat} (h : gn_AL_add3 c0 a1 c2 S L = some q) {mc ms k n : Nat} (hb : Bd k n mc ms q) : GX sc M_AL_add3 mc ms 0 [(0, .ref c0), (1, V a1), (2, c2)] [] (wz (S, L)) k n (KXU q.1) := by
  unfold gn_AL_add3 at h
  refine x_aloadn (pc := 0) (i0 := 0) (j := 0) (dK D_AL_add3 0 rfl) rfl rfl ?_
  refine x_iloadn (pc := 1) (i0 := 1) (j := 1) (dK D_AL_add3 1 rfl) rfl rfl ?_
  refine gdE h ?_
  clear h
  intro hk2 h
  refine bnE h ?_
  clear h
  intro p1 e_p1 h
  refine x_callX (pc := 2) (As := [V a1]) (rest := []) (mc' := 0) (ms' := 0) (dK D_AL_add3 2 rfl) Q_AL_135 sx_AL_rangeCheckForAdd (fitK rfl) (isK_at (Z := (S, L)) (ci := 13) hk2) rfl (leK rfl) (bdk hb) (bdn hb) (tg_AL_rangeCheckForAdd ha1 e_p1) (kxU ?_)
  refine x_aloadn (pc := 5) (i0 := 0) (j := 0) (dK D_AL_add3 3 rfl) rfl rfl ?_
  refine x_dup (pc := 6) (dK D_AL_add3 4 rfl) rfl ?_
  refine bnE h ?_
  clear h
  intro v3 e_v3 h
  refine wx_getIR (pc := 7) (f := 2) e_v3 (dK D_AL_add3 5 rfl) q_759 q_758 (ltK rfl) ?_
  refine wx_iconst (pc := 10) (dK D_AL_add3 6 rfl) ?_
  refine wx_iadd (pc := 11) (dK D_AL_add3 7 rfl) ?_
  refine nmE h ?_
  clear h
  intro v4 e_v4 h
  refine wtop e_v4 ?_
  refine bnE h ?_
  clear h
  intro L5 e_L5 h
  refine wx_putR (Z := (S, L)) (pc := 12) (ci := 13) (f := 2) e_L5 (dK D_AL_add3 8 rfl) q_759 q_758 (ltK rfl) (ltK rfl) rfl okInt ?_
  refine x_aloadn (pc := 15) (i0 := 0) (j := 0) (dK D_AL_add3 9 rfl) rfl rfl ?_
  refine bnE h ?_
  clear h
  intro v6 e_v6 h
  refine wx_getI (pc := 16) (ci := 13) (f := 1) e_v6 (dK D_AL_add3 10 rfl) q_755 (ltK rfl) (ltK rfl) ?_
  refine x_dup (pc := 19) (dK D_AL_add3 11 rfl) rfl ?_
  refine x_istoren (pc := 20) (i0 := 3) (ls2 := [(3, V v6), (0, .ref c0), (1, V a1), (2, c2)]) (dK D_AL_add3 12 rfl) rfl (ltK rfl) (by simp [stI, List.filter, cato hc2]) ?_
  refine x_aloadn (pc := 21) (i0 := 0) (j := 1) (dK D_AL_add3 13 rfl) rfl rfl ?_
  refine bnE h ?_
  clear h
  intro v7 e_v7 h
  refine wx_getV (pc := 22) (ci := 13) (f := 0) e_v7 (dK D_AL_add3 14 rfl) q_752 (ltK rfl) (ltK rfl) (fun hv7 => ?_)
  refine x_dup (pc := 25) (dK D_AL_add3 15 rfl) (cato hv7) ?_
  refine x_astoreV (pc := 26) (ls2 := [(4, v7), (3, V v6), (0, .ref c0), (1, V a1), (2, c2)]) hv7 (dK D_AL_add3 16 rfl) (ltK rfl) rfl ?_
  refine rfE h ?_
  clear h
  intro r8 e_r8 h
  rw [e_r8]
  refine bnE h ?_
  clear h
  intro v9 e_v9 h
  refine wx_alm (pc := 28) e_v9 (dK D_AL_add3 17 rfl) (fun i_v9 => ?_)
  refine wx_icmp_ne (pc := 29) (t := 38) (dK D_AL_add3 18 rfl) rfl (vI_at e_v6).2 i_v9 (fun hc27 => ?_) (fun hc27 => ?_)
  · replace h := ifN h hc27
    refine x_aload (pc := 38) (j := 0) (dK D_AL_add3 22 rfl) rfl ?_
    refine x_iloadn (pc := 40) (i0 := 1) (j := 3) (dK D_AL_add3 23 rfl) rfl rfl ?_
    refine x_aload (pc := 41) (j := 0) (dK D_AL_add3 24 rfl) rfl ?_
    refine x_iloadn (pc := 43) (i0 := 1) (j := 3) (dK D_AL_add3 25 rfl) rfl rfl ?_
    refine wx_iconst (pc := 44) (dK D_AL_add3 26 rfl) ?_
    refine wx_iadd (pc := 45) (dK D_AL_add3 27 rfl) ?_
    refine x_iloadn (pc := 46) (i0 := 3) (j := 1) (dK D_AL_add3 28 rfl) rfl rfl ?_
    refine x_iloadn (pc := 47) (i0 := 1) (j := 3) (dK D_AL_add3 29 rfl) rfl rfl ?_
    refine wx_isub (pc := 48) (dK D_AL_add3 30 rfl) ?_
    refine nmE h ?_
    clear h
    intro v10 e_v10 h
    refine wtop e_v10 ?_
    refine nmE h ?_
    clear h
    intro v11 e_v11 h
    refine wsk (st' := [V v10, V v11, .ref r8, V a1, .ref r8]) (congrArg (fun z9 => [V v10, z9, .ref r8, V a1, .ref r8]) (Vn e_v11)) ?_
    refine bnE h ?_
    clear h
    intro L12 e_L12 h
    refine wx_copyQ (Z := (S, L5)) (pc := 49) e_L12 ha1 (Vn_in e_v11) (Vn_in e_v10) (dK D_AL_add3 31 rfl) q_1789 (leK rfl) (leK rfl) ?_
    refine x_aload (pc := 52) (j := 0) (dK D_AL_add3 32 rfl) rfl ?_
    refine x_iloadn (pc := 54) (i0 := 1) (j := 3) (dK D_AL_add3 33 rfl) rfl rfl ?_
    refine x_aloadnV (pc := 55) (i0 := 2) (j := 4) hc2 (dK D_AL_add3 34 rfl) rfl rfl ?_
    refine gdE h ?_
    clear h
    intro hk14 h
    refine bnE h ?_
    clear h
    intro L13 e_L13 h
    refine wx_aast (Z := (S, L12)) (pc := 56) e_L13 hk14 ha1 (dK D_AL_add3 35 rfl) ?_
    refine x_aloadn (pc := 57) (i0 := 0) (j := 2) (dK D_AL_add3 36 rfl) rfl rfl ?_
    refine x_iloadn (pc := 58) (i0 := 3) (j := 1) (dK D_AL_add3 37 rfl) rfl rfl ?_
    refine wx_iconst (pc := 59) (dK D_AL_add3 38 rfl) ?_
    refine wx_iadd (pc := 60) (dK D_AL_add3 39 rfl) ?_
    refine nmE h ?_
    clear h
    intro v15 e_v15 h
    refine wtop e_v15 ?_
    refine bnE h ?_
    clear h
    intro L16 e_L16 h
    refine wx_put (Z := (S, L13)) (pc := 61) (ci := 13) (f := 1) e_L16 (dK D_AL_add3 40 rfl) q_755 (ltK rfl) (ltK rfl) rfl okInt ?_
    obtain rfl := Option.some.inj h
    exact wk_ret (pc := 64) (dK D_AL_add3 41 rfl) rfl (bdk hb) (bdn hb) ⟨rfl, rfl⟩
  · replace h := ifP h hc27
    refine x_aloadn (pc := 32) (i0 := 0) (j := 2) (dK D_AL_add3 19 rfl) rfl rfl ?_
    refine gdE h ?_
    clear h
    intro hk18 h
    refine bnE h ?_
    clear h
    intro p17 e_p17 h
    obtain ⟨yp17, h9, e9⟩ := adE2 h
    clear h
    subst e9
    have h := h9
    clear h9
    have hk1 := bd1 hb
    have hn1 := bd2 hb
    replace hb := bdA hb
    refine x_callX (pc := 33) (As := []) (rest := []) (mc' := p17.2.1) (ms' := p17.2.2) (dK D_AL_add3 20 rfl) Q_AL_129 sx_AL_grow (fitK rfl) (isK_at (Z := (S, L5)) (ci := 13) hk18) rfl (leK rfl) hk1 hn1 (tg_AL_grow  e_p17) (kxR (fun h_p17 => ?_))
    refine x_astoreV (pc := 36) (ls2 := [(4, p17.1.1), (3, V v6), (0, .ref c0), (1, V a1), (2, c2)]) h_p17 (dK D_AL_add3 21 rfl) (ltK rfl) rfl ?_
    refine x_aloadV (pc := 38) (j := 0) h_p17 (dK D_AL_add3 22 rfl) rfl ?_
    refine x_iloadn (pc := 40) (i0 := 1) (j := 3) (dK D_AL_add3 23 rfl) rfl rfl ?_
    refine x_aloadV (pc := 41) (j := 0) h_p17 (dK D_AL_add3 24 rfl) rfl ?_
    refine x_iloadn (pc := 43) (i0 := 1) (j := 3) (dK D_AL_add3 25 rfl) rfl rfl ?_
    refine wx_iconst (pc := 44) (dK D_AL_add3 26 rfl) ?_
    refine wx_iadd (pc := 45) (dK D_AL_add3 27 rfl) ?_
    refine x_iloadn (pc := 46) (i0 := 3) (j := 1) (dK D_AL_add3 28 rfl) rfl rfl ?_
    refine x_iloadn (pc := 47) (i0 := 1) (j := 3) (dK D_AL_add3 29 rfl) rfl rfl ?_
    refine wx_isub (pc := 48) (dK D_AL_add3 30 rfl) ?_
    refine nmE h ?_
    clear h
    intro v19 e_v19 h
    refine wtop e_v19 ?_
    refine nmE h ?_
    clear h
    intro v20 e_v20 h
    refine wsk (st' := [V v19, V v20, p17.1.1, V a1, p17.1.1]) (congrArg (fun z9 => [V v19, z9, p17.1.1, V a1, p17.1.1]) (Vn e_v20)) ?_
    refine rfE h ?_
    clear h
    intro r21 e_r21 h
    rw [e_r21]
    refine bnE h ?_
    clear h
    intro L22 e_L22 h
    refine wx_copyQ (Z := (p17.1.2.1, p17.1.2.2)) (pc := 49) e_L22 ha1 (Vn_in e_v20) (Vn_in e_v19) (dK D_AL_add3 31 rfl) q_1789 (leK rfl) (leK rfl) ?_
    refine x_aload (pc := 52) (j := 0) (dK D_AL_add3 32 rfl) rfl ?_
    refine x_iloadn (pc := 54) (i0 := 1) (j := 3) (dK D_AL_add3 33 rfl) rfl rfl ?_
    refine x_aloadnV (pc := 55) (i0 := 2) (j := 4) hc2 (dK D_AL_add3 34 rfl) rfl rfl ?_
    refine gdE h ?_
    clear h
    intro hk24 h
    refine bnE h ?_
    clear h
    intro L23 e_L23 h
    refine wx_aast (Z := (p17.1.2.1, L22)) (pc := 56) e_L23 hk24 ha1 (dK D_AL_add3 35 rfl) ?_
    refine x_aloadn (pc := 57) (i0 := 0) (j := 2) (dK D_AL_add3 36 rfl) rfl rfl ?_
    refine x_iloadn (pc := 58) (i0 := 3) (j := 1) (dK D_AL_add3 37 rfl) rfl rfl ?_
    refine wx_iconst (pc := 59) (dK D_AL_add3 38 rfl) ?_
    refine wx_iadd (pc := 60) (dK D_AL_add3 39 rfl) ?_
    refine nmE h ?_
    clear h
    intro v25 e_v25 h
    refine wtop e_v25 ?_
    refine bnE h ?_
    clear h
    intro L26 e_L26 h
    refine wx_put (Z := (p17.1.2.1, L23)) (pc := 61) (ci := 13) (f := 1) e_L26 (dK D_AL_add3 40 rfl) q_755 (ltK rfl) (ltK rfl) rfl okInt ?_
    obtain rfl := Option.some.inj h
    exact wk_ret (pc := 64) (dK D_AL_add3 41 rfl) rfl (bdk hb) (bdn hb) ⟨rfl, rfl⟩
theorem tg_AL_add3 {sc : SC} {c0 : Nat} {a1 : Int} (ha1 : inR a1) {c2 : Value} (hc2 : c2 = .null ∨ ∃ b, c2 = .ref b) {S : St} {L : List PC} {q : (LZ) × Nat × Nat} (h : gn_AL_add3 c0 a1 c2 S L = some q) : EvX sc M_AL_add3 [.ref c0, V a1, c2] (wz (S, L)) q.2.1 q.2.2 (KXU q.1) := by
  rcases hc2 with e_c2 | ⟨b_c2, e_c2⟩ <;> subst e_c2 <;>
  exact EvX.of pn2_AL rfl (leK rfl) (te_AL_add3 ha1 (by first | exact .inl rfl | exact .inr ⟨_, rfl⟩) h ⟨Nat.le_of_eq (Nat.zero_add _), Nat.le_of_eq (Nat.zero_add _)⟩)
def lb2_Law_items_181 (c1 : Nat) (c2 : Nat) (a3 : Int) (a4 : Int) (a5 : Int) (c6 : Nat) (S : St) (L : List PC) (go : Int → Option (Int)) (a7 : Int) : Option (Int) := if a7 ≤ 0 then (some a7) else (nm (wr (a7 - 1)) fun v25 => if isK L c2 13 = true then (bnO (gn_AL_get c2 v25 S L) fun p26 => rfB p26 fun r28 => if isK L r28 17 = true then (if isK L r28 17 = true then (bnO (gn_Integer_intValue r28 S L) fun p30 => bnO (gn_Law_ready c1 p30 S L) fun p32 => bnO (gfI L c6 11 4) fun v33 => if p32 ≤ v33 then (some a7) else (nm (wr (a7 + (-1))) fun v34 => go v34)) else none) else none) else none)
def lo2_Law_items_181 (c1 : Nat) (c2 : Nat) (a3 : Int) (a4 : Int) (a5 : Int) (c6 : Nat) (S : St) (L : List PC) : Nat → Int → Option (Int) := lp fun go p => lb2_Law_items_181 c1 c2 a3 a4 a5 c6 S L go p
theorem tl2_Law_items_181 {sc : SC} {c1 : Nat} {c2 : Nat} {a3 : Int} (ha3 : inR a3) {a4 : Int} (ha4 : inR a4) {a5 : Int} (ha5 : inR a5) {c6 : Nat} {K : Option Value → List PC → Prop} {S : St} {L : List PC} {mc ms k n : Nat} (hk0 : k ≤ mc) (hn0 : n ≤ ms) : ∀ (N : Nat) (a : Int) (q : Int), lo2_Law_items_181 c1 c2 a3 a4 a5 c6 S L N a = some q → inR a → (inR q → GX sc M_Law_items mc ms 218 [(0, .ref 0), (1, .ref c1), (2, .ref c2), (3, V a3), (4, V a4), (5, V a5), (7, V q)] [] (wz (S, L)) k n K) → GX sc M_Law_items mc ms 181 [(0, .ref 0), (1, .ref c1), (2, .ref c2), (3, V a3), (4, V a4), (5, V a5), (6, .ref c6), (7, V a)] [] (wz (S, L)) k n K := by
  refine lp_ind2 (P := fun (a : Int) (q : Int) => inR a → (inR q → GX sc M_Law_items mc ms 218 [(0, .ref 0), (1, .ref c1), (2, .ref c2), (3, V a3), (4, V a4), (5, V a5), (7, V q)] [] (wz (S, L)) k n K) → GX sc M_Law_items mc ms 181 [(0, .ref 0), (1, .ref c1), (2, .ref c2), (3, V a3), (4, V a4), (5, V a5), (6, .ref c6), (7, V a)] [] (wz (S, L)) k n K) (fun go ih a q h => ?_)
  revert h; generalize a = a7; intro h
  intro ha7 hx
  show GX sc M_Law_items mc ms 181 [(0, .ref 0), (1, .ref c1), (2, .ref c2), (3, V a3), (4, V a4), (5, V a5), (6, .ref c6), (7, V a7)] [] (wz (S, L)) k n K
  replace h : lb2_Law_items_181 c1 c2 a3 a4 a5 c6 S L go a7 = some q := h
  unfold lb2_Law_items_181 at h
  refine x_iload (pc := 181) (j := 7) (dK D_Law_items_1 31 rfl) rfl ?_
  refine wx_if_le (pc := 183) (t := 218) (dK D_Law_items_1 32 rfl) rfl ha7 (fun hc36 => ?_) (fun hc36 => ?_)
  · replace h := ifP h hc36
    obtain rfl := Option.some.inj h
    refine x_weak (ls' := [(0, .ref 0), (1, .ref c1), (2, .ref c2), (3, V a3), (4, V a4), (5, V a5), (7, V a7)]) (sbc 0 rfl (sbc 1 rfl (sbc 2 rfl (sbc 3 rfl (sbc 4 rfl (sbc 5 rfl (sbc 7 rfl sbn))))))) ?_
    exact hx ha7
  · replace h := ifN h hc36
    refine x_aloadn (pc := 186) (i0 := 1) (j := 1) (dK D_Law_items_1 33 rfl) rfl rfl ?_
    refine x_aloadn (pc := 187) (i0 := 2) (j := 2) (dK D_Law_items_1 34 rfl) rfl rfl ?_
    refine x_iload (pc := 188) (j := 7) (dK D_Law_items_1 35 rfl) rfl ?_
    refine wx_iconst (pc := 190) (dK D_Law_items_1 36 rfl) ?_
    refine wx_isub (pc := 191) (dK D_Law_items_1 37 rfl) ?_
    refine nmE h ?_
    clear h
    intro v25 e_v25 h
    refine wtop e_v25 ?_
    refine gdE h ?_
    clear h
    intro hk27 h
    refine bnE h ?_
    clear h
    intro p26 e_p26 h
    refine x_callX (pc := 192) (As := [V v25]) (rest := [.ref c1]) (mc' := 0) (ms' := 0) (dK D_Law_items_1 38 rfl) Q_Law_69 sx_AL_get (fitK rfl) (isK_at (Z := (S, L)) (ci := 13) hk27) rfl (leK rfl) hk0 hn0 (tg_AL_get (Vn_in e_v25) e_p26) (kxR (fun h_p26 => ?_))
    refine rfE h ?_
    clear h
    intro r28 e_r28 h
    rw [e_r28]
    refine gdE h ?_
    clear h
    intro hk29 h
    refine x_cast (pc := 195) (dK D_Law_items_1 39 rfl) q_1269 (isK_at (Z := (S, L)) (ci := 17) hk29) ?_
    refine gdE h ?_
    clear h
    intro hk31 h
    refine bnE h ?_
    clear h
    intro p30 e_p30 h
    refine x_callX (pc := 198) (As := []) (rest := [.ref c1]) (mc' := 0) (ms' := 0) (dK D_Law_items_1 40 rfl) Q_Law_158 sx_Integer_intValue (fitK rfl) (isK_at (Z := (S, L)) (ci := 17) hk31) rfl (leK rfl) hk0 hn0 (tg_Integer_intValue  e_p30) (kxI' (fun h_p30 => ?_))
    refine bnE h ?_
    clear h
    intro p32 e_p32 h
    refine x_callS (pc := 201) (As := [.ref c1, V p30]) (rest := []) (mc' := 0) (ms' := 0) (dK D_Law_items_1 41 rfl) Q_Law_332 (fitK rfl) rfl (leK rfl) hk0 hn0 (tg_Law_ready h_p30 e_p32) (kxI' (fun h_p32 => ?_))
    refine x_aload (pc := 204) (j := 6) (dK D_Law_items_1 42 rfl) rfl ?_
    refine bnE h ?_
    clear h
    intro v33 e_v33 h
    refine wx_getI (pc := 206) (ci := 11) (f := 4) e_v33 (dK D_Law_items_1 43 rfl) q_885 (ltK rfl) (ltK rfl) ?_
    refine wx_icmp_le (pc := 209) (t := 218) (dK D_Law_items_1 44 rfl) rfl h_p32 (vI_at e_v33).2 (fun hc35 => ?_) (fun hc35 => ?_)
    · replace h := ifP h hc35
      obtain rfl := Option.some.inj h
      refine x_weak (ls' := [(0, .ref 0), (1, .ref c1), (2, .ref c2), (3, V a3), (4, V a4), (5, V a5), (7, V a7)]) (sbc 0 rfl (sbc 1 rfl (sbc 2 rfl (sbc 3 rfl (sbc 4 rfl (sbc 5 rfl (sbc 7 rfl sbn))))))) ?_
      exact hx ha7
    · replace h := ifN h hc35
      refine nmE h ?_
      clear h
      intro v34 e_v34 h
      refine wx_iinc (pc := 212) (j := 7) (a := a7) (z := -1) (ls2 := [(7, V v34), (0, .ref 0), (1, .ref c1), (2, .ref c2), (3, V a3), (4, V a4), (5, V a5), (6, .ref c6)]) (dK D_Law_items_1 45 rfl) rfl e_v34 (ltK rfl) rfl ?_
      refine x_goto (pc := 215) (tgt := 181) (dK D_Law_items_1 46 rfl) rfl ?_
      refine x_weak (ls' := [(0, .ref 0), (1, .ref c1), (2, .ref c2), (3, V a3), (4, V a4), (5, V a5), (6, .ref c6), (7, V v34)]) (sbc 1 rfl (sbc 2 rfl (sbc 3 rfl (sbc 4 rfl (sbc 5 rfl (sbc 6 rfl (sbc 7 rfl (sbc 0 rfl sbn)))))))) ?_
      replace h := ih _ _ h
      exact h (Vn_in e_v34) hx
def jf2_Law_items_140_16 (c1 : Nat) (c2 : Nat) (go : Int × Int × Int × LZ → Option ((Int × LZ) × Nat × Nat)) (a3 : Int) (a4 : Int) (a5 : Int) (c6 : Value) (S : St) (L : List PC) : Option ((Int × LZ) × Nat × Nat) := rfB c6 fun r19 => bnO (gfI L r19 11 4) fun v20 => if v20 ≤ a4 then (bnO (gfI L r19 11 4) fun v21 => bnO (gfI L c1 12 2) fun v22 => if v22 < v21 then (if isK L c2 13 = true then (bnO (gn_AL_size c2 S L) fun p23 => bnO (lo2_Law_items_181 c1 c2 a3 a4 a5 r19 S L FU p23) fun p37 => bnO (gn_Integer_valueOf a5 S L) fun p38 => adC p38.2.1 p38.2.2 (if isK p38.1.2.2 c2 13 = true then (bnO (gn_AL_add3 c2 p37 p38.1.1 p38.1.2.1 p38.1.2.2) fun p39 => adC p39.2.1 p39.2.2 (nm (wr (a5 + 1)) fun v41 => go (a3, a4, v41, (p39.1.1, p39.1.2)))) else none)) else none) else (nm (wr (a5 + 1)) fun v42 => go (a3, a4, v42, (S, L)))) else (bnO (gfI L r19 11 4) fun v44 => bnO (gfI L r19 11 4) fun v45 => bnO (gfI L c1 12 2) fun v46 => if v46 < v45 then (if isK L c2 13 = true then (bnO (gn_AL_size c2 S L) fun p47 => bnO (lo2_Law_items_181 c1 c2 a5 v44 a5 r19 S L FU p47) fun p49 => bnO (gn_Integer_valueOf a5 S L) fun p50 => adC p50.2.1 p50.2.2 (if isK p50.1.2.2 c2 13 = true then (bnO (gn_AL_add3 c2 p49 p50.1.1 p50.1.2.1 p50.1.2.2) fun p51 => adC p51.2.1 p51.2.2 (nm (wr (a5 + 1)) fun v53 => go (a5, v44, v53, (p51.1.1, p51.1.2)))) else none)) else none) else (nm (wr (a5 + 1)) fun v54 => go (a5, v44, v54, (S, L))))
theorem tj2_Law_items_140_16 {sc : SC} {c1 : Nat} {c2 : Nat} {K : Option Value → List PC → Prop} {mc ms kt nt : Nat} (hkt : kt ≤ mc) (hnt : nt ≤ ms) {go : Int × Int × Int × LZ → Option ((Int × LZ) × Nat × Nat)} (ih : ∀ (a : Int × Int × Int × LZ) (q : (Int × LZ) × Nat × Nat), go a = some q → ∀ k n, Bd k n kt nt q → inR a.1 → inR a.2.1 → inR a.2.2.1 → (inR q.1.1 → GX sc M_Law_items mc ms 235 [(0, .ref 0), (2, .ref c2), (3, V q.1.1)] [] (wz q.1.2) kt nt K) → GX sc M_Law_items mc ms 16 [(0, .ref 0), (1, .ref c1), (2, .ref c2), (3, V a.1), (4, V a.2.1), (5, V a.2.2.1)] [] (wz a.2.2.2) k n K) {a3 : Int} (ha3 : inR a3) {a4 : Int} (ha4 : inR a4) {a5 : Int} (ha5 : inR a5) {c6 : Value} (hc6 : c6 = .null ∨ ∃ b, c6 = .ref b) {S : St} {L : List PC} {q : (Int × LZ) × Nat × Nat} (h : jf2_Law_items_140_16 c1 c2 go a3 a4 a5 c6 S L = some q) {k n : Nat} (hb : Bd k n kt nt q) (hx : (inR q.1.1 → GX sc M_Law_items mc ms 235 [(0, .ref 0), (2, .ref c2), (3, V q.1.1)] [] (wz q.1.2) kt nt K)) : GX sc M_Law_items mc ms 140 [(0, .ref 0), (1, .ref c1), (2, .ref c2), (3, V a3), (4, V a4), (5, V a5), (6, c6)] [] (wz (S, L)) k n K := by
  unfold jf2_Law_items_140_16 at h
  refine x_aloadV (pc := 140) (j := 6) hc6 (dK D_Law_items_1 13 rfl) rfl ?_
  refine rfE h ?_
  clear h
  intro r19 e_r19 h
  rw [e_r19]
  refine bnE h ?_
  clear h
  intro v20 e_v20 h
  refine wx_getI (pc := 142) (ci := 11) (f := 4) e_v20 (dK D_Law_items_1 14 rfl) q_885 (ltK rfl) (ltK rfl) ?_
  refine x_iload (pc := 145) (j := 4) (dK D_Law_items_1 15 rfl) rfl ?_
  refine wx_icmp_le (pc := 147) (t := 160) (dK D_Law_items_1 16 rfl) rfl (vI_at e_v20).2 ha4 (fun hc56 => ?_) (fun hc56 => ?_)
  · replace h := ifP h hc56
    refine x_aload (pc := 160) (j := 6) (dK D_Law_items_1 22 rfl) rfl ?_
    refine bnE h ?_
    clear h
    intro v21 e_v21 h
    refine wx_getI (pc := 162) (ci := 11) (f := 4) e_v21 (dK D_Law_items_1 23 rfl) q_885 (ltK rfl) (ltK rfl) ?_
    refine x_aloadn (pc := 165) (i0 := 1) (j := 1) (dK D_Law_items_1 24 rfl) rfl rfl ?_
    refine bnE h ?_
    clear h
    intro v22 e_v22 h
    refine wx_getI (pc := 166) (ci := 12) (f := 2) e_v22 (dK D_Law_items_1 25 rfl) q_772 (ltK rfl) (ltK rfl) ?_
    refine wx_icmp_gt (pc := 169) (t := 175) (dK D_Law_items_1 26 rfl) rfl (vI_at e_v21).2 (vI_at e_v22).2 (fun hc43 => ?_) (fun hc43 => ?_)
    · replace h := ifP h hc43
      refine x_aloadn (pc := 175) (i0 := 2) (j := 2) (dK D_Law_items_1 28 rfl) rfl rfl ?_
      refine gdE h ?_
      clear h
      intro hk24 h
      refine bnE h ?_
      clear h
      intro p23 e_p23 h
      refine x_callX (pc := 176) (As := []) (rest := []) (mc' := 0) (ms' := 0) (dK D_Law_items_1 29 rfl) Q_Law_55 sx_AL_size (fitK rfl) (isK_at (Z := (S, L)) (ci := 13) hk24) rfl (leK rfl) (Nat.le_trans (bdk hb) hkt) (Nat.le_trans (bdn hb) hnt) (tg_AL_size  e_p23) (kxI' (fun h_p23 => ?_))
      refine x_istore (pc := 179) (ls2 := [(7, V p23), (0, .ref 0), (1, .ref c1), (2, .ref c2), (3, V a3), (4, V a4), (5, V a5), (6, .ref r19)]) (dK D_Law_items_1 30 rfl) (ltK rfl) rfl ?_
      refine bnE h ?_
      clear h
      intro p37 e_p37 h
      refine x_weak (ls' := [(0, .ref 0), (1, .ref c1), (2, .ref c2), (3, V a3), (4, V a4), (5, V a5), (6, .ref r19), (7, V p23)]) (sbc 1 rfl (sbc 2 rfl (sbc 3 rfl (sbc 4 rfl (sbc 5 rfl (sbc 6 rfl (sbc 7 rfl (sbc 0 rfl sbn)))))))) ?_
      refine tl2_Law_items_181 ha3 ha4 ha5 (Nat.le_trans (bdk hb) hkt) (Nat.le_trans (bdn hb) hnt) FU _ _ e_p37 h_p23 (fun hx7_p37 => ?_)
      refine x_aloadn (pc := 218) (i0 := 2) (j := 2) (dK D_Law_items_1 47 rfl) rfl rfl ?_
      refine x_iload (pc := 219) (j := 6) (dK D_Law_items_1 48 rfl) rfl ?_
      refine x_iload (pc := 221) (j := 5) (dK D_Law_items_1 49 rfl) rfl ?_
      refine bnE h ?_
      clear h
      intro p38 e_p38 h
      obtain ⟨yp38, h9, e9⟩ := adE2 h
      clear h
      subst e9
      have h := h9
      clear h9
      have hk1 := Nat.le_trans (bd1 hb) hkt
      have hn1 := Nat.le_trans (bd2 hb) hnt
      replace hb := bdA hb
      refine x_callS (pc := 223) (As := [V a5]) (rest := [V p37, .ref c2]) (mc' := p38.2.1) (ms' := p38.2.2) (dK D_Law_items_2 0 rfl) Q_Law_335 (fitK rfl) rfl (leK rfl) hk1 hn1 (tg_Integer_valueOf ha5 e_p38) (kxR (fun h_p38 => ?_))
      refine gdE h ?_
      clear h
      intro hk40 h
      refine bnE h ?_
      clear h
      intro p39 e_p39 h
      obtain ⟨yp39, h9, e9⟩ := adE2 h
      clear h
      subst e9
      have h := h9
      clear h9
      have hk1 := Nat.le_trans (bd1 hb) hkt
      have hn1 := Nat.le_trans (bd2 hb) hnt
      replace hb := bdA hb
      refine x_callX (pc := 226) (As := [V p37, p38.1.1]) (rest := []) (mc' := p39.2.1) (ms' := p39.2.2) (dK D_Law_items_2 1 rfl) Q_Law_339 sx_AL_add3 (fitK rfl) (isK_at (Z := (p38.1.2.1, p38.1.2.2)) (ci := 13) hk40) rfl (leK rfl) hk1 hn1 (tg_AL_add3 hx7_p37 h_p38 e_p39) (kxU ?_)
      refine nmE h ?_
      clear h
      intro v41 e_v41 h
      refine wx_iinc (pc := 229) (j := 5) (a := a5) (z := 1) (ls2 := [(5, V v41), (0, .ref 0), (1, .ref c1), (2, .ref c2), (3, V a3), (4, V a4), (7, V p37)]) (dK D_Law_items_2 2 rfl) rfl e_v41 (ltK rfl) rfl ?_
      refine x_goto (pc := 232) (tgt := 16) (dK D_Law_items_2 3 rfl) rfl ?_
      refine x_weak (ls' := [(0, .ref 0), (1, .ref c1), (2, .ref c2), (3, V a3), (4, V a4), (5, V v41)]) (sbc 1 rfl (sbc 2 rfl (sbc 3 rfl (sbc 4 rfl (sbc 5 rfl (sbc 0 rfl sbn)))))) ?_
      replace h := ih _ _ h
      exact h _ _ hb ha3 ha4 (Vn_in e_v41) hx
    · replace h := ifN h hc43
      refine x_goto (pc := 172) (tgt := 229) (dK D_Law_items_1 27 rfl) rfl ?_
      refine nmE h ?_
      clear h
      intro v42 e_v42 h
      refine wx_iinc (pc := 229) (j := 5) (a := a5) (z := 1) (ls2 := [(5, V v42), (0, .ref 0), (1, .ref c1), (2, .ref c2), (3, V a3), (4, V a4), (6, .ref r19)]) (dK D_Law_items_2 2 rfl) rfl e_v42 (ltK rfl) rfl ?_
      refine x_goto (pc := 232) (tgt := 16) (dK D_Law_items_2 3 rfl) rfl ?_
      refine x_weak (ls' := [(0, .ref 0), (1, .ref c1), (2, .ref c2), (3, V a3), (4, V a4), (5, V v42)]) (sbc 1 rfl (sbc 2 rfl (sbc 3 rfl (sbc 4 rfl (sbc 5 rfl (sbc 0 rfl sbn)))))) ?_
      replace h := ih _ _ h
      exact h _ _ hb ha3 ha4 (Vn_in e_v42) hx
  · replace h := ifN h hc56
    refine x_iload (pc := 150) (j := 5) (dK D_Law_items_1 17 rfl) rfl ?_
    refine x_istoren (pc := 152) (i0 := 3) (ls2 := [(3, V a5), (0, .ref 0), (1, .ref c1), (2, .ref c2), (4, V a4), (5, V a5), (6, .ref r19)]) (dK D_Law_items_1 18 rfl) rfl (ltK rfl) rfl ?_
    refine x_aload (pc := 153) (j := 6) (dK D_Law_items_1 19 rfl) rfl ?_
    refine bnE h ?_
    clear h
    intro v44 e_v44 h
    refine wx_getI (pc := 155) (ci := 11) (f := 4) e_v44 (dK D_Law_items_1 20 rfl) q_885 (ltK rfl) (ltK rfl) ?_
    refine x_istore (pc := 158) (ls2 := [(4, V v44), (3, V a5), (0, .ref 0), (1, .ref c1), (2, .ref c2), (5, V a5), (6, .ref r19)]) (dK D_Law_items_1 21 rfl) (ltK rfl) rfl ?_
    refine x_aload (pc := 160) (j := 6) (dK D_Law_items_1 22 rfl) rfl ?_
    refine bnE h ?_
    clear h
    intro v45 e_v45 h
    refine wx_getI (pc := 162) (ci := 11) (f := 4) e_v45 (dK D_Law_items_1 23 rfl) q_885 (ltK rfl) (ltK rfl) ?_
    refine x_aloadn (pc := 165) (i0 := 1) (j := 3) (dK D_Law_items_1 24 rfl) rfl rfl ?_
    refine bnE h ?_
    clear h
    intro v46 e_v46 h
    refine wx_getI (pc := 166) (ci := 12) (f := 2) e_v46 (dK D_Law_items_1 25 rfl) q_772 (ltK rfl) (ltK rfl) ?_
    refine wx_icmp_gt (pc := 169) (t := 175) (dK D_Law_items_1 26 rfl) rfl (vI_at e_v45).2 (vI_at e_v46).2 (fun hc55 => ?_) (fun hc55 => ?_)
    · replace h := ifP h hc55
      refine x_aloadn (pc := 175) (i0 := 2) (j := 4) (dK D_Law_items_1 28 rfl) rfl rfl ?_
      refine gdE h ?_
      clear h
      intro hk48 h
      refine bnE h ?_
      clear h
      intro p47 e_p47 h
      refine x_callX (pc := 176) (As := []) (rest := []) (mc' := 0) (ms' := 0) (dK D_Law_items_1 29 rfl) Q_Law_55 sx_AL_size (fitK rfl) (isK_at (Z := (S, L)) (ci := 13) hk48) rfl (leK rfl) (Nat.le_trans (bdk hb) hkt) (Nat.le_trans (bdn hb) hnt) (tg_AL_size  e_p47) (kxI' (fun h_p47 => ?_))
      refine x_istore (pc := 179) (ls2 := [(7, V p47), (4, V v44), (3, V a5), (0, .ref 0), (1, .ref c1), (2, .ref c2), (5, V a5), (6, .ref r19)]) (dK D_Law_items_1 30 rfl) (ltK rfl) rfl ?_
      refine bnE h ?_
      clear h
      intro p49 e_p49 h
      refine x_weak (ls' := [(0, .ref 0), (1, .ref c1), (2, .ref c2), (3, V a5), (4, V v44), (5, V a5), (6, .ref r19), (7, V p47)]) (sbc 3 rfl (sbc 4 rfl (sbc 5 rfl (sbc 2 rfl (sbc 1 rfl (sbc 6 rfl (sbc 7 rfl (sbc 0 rfl sbn)))))))) ?_
      refine tl2_Law_items_181 ha5 (vI_at e_v44).2 ha5 (Nat.le_trans (bdk hb) hkt) (Nat.le_trans (bdn hb) hnt) FU _ _ e_p49 h_p47 (fun hx7_p49 => ?_)
      refine x_aloadn (pc := 218) (i0 := 2) (j := 2) (dK D_Law_items_1 47 rfl) rfl rfl ?_
      refine x_iload (pc := 219) (j := 6) (dK D_Law_items_1 48 rfl) rfl ?_
      refine x_iload (pc := 221) (j := 5) (dK D_Law_items_1 49 rfl) rfl ?_
      refine bnE h ?_
      clear h
      intro p50 e_p50 h
      obtain ⟨yp50, h9, e9⟩ := adE2 h
      clear h
      subst e9
      have h := h9
      clear h9
      have hk1 := Nat.le_trans (bd1 hb) hkt
      have hn1 := Nat.le_trans (bd2 hb) hnt
      replace hb := bdA hb
      refine x_callS (pc := 223) (As := [V a5]) (rest := [V p49, .ref c2]) (mc' := p50.2.1) (ms' := p50.2.2) (dK D_Law_items_2 0 rfl) Q_Law_335 (fitK rfl) rfl (leK rfl) hk1 hn1 (tg_Integer_valueOf ha5 e_p50) (kxR (fun h_p50 => ?_))
      refine gdE h ?_
      clear h
      intro hk52 h
      refine bnE h ?_
      clear h
      intro p51 e_p51 h
      obtain ⟨yp51, h9, e9⟩ := adE2 h
      clear h
      subst e9
      have h := h9
      clear h9
      have hk1 := Nat.le_trans (bd1 hb) hkt
      have hn1 := Nat.le_trans (bd2 hb) hnt
      replace hb := bdA hb
      refine x_callX (pc := 226) (As := [V p49, p50.1.1]) (rest := []) (mc' := p51.2.1) (ms' := p51.2.2) (dK D_Law_items_2 1 rfl) Q_Law_339 sx_AL_add3 (fitK rfl) (isK_at (Z := (p50.1.2.1, p50.1.2.2)) (ci := 13) hk52) rfl (leK rfl) hk1 hn1 (tg_AL_add3 hx7_p49 h_p50 e_p51) (kxU ?_)
      refine nmE h ?_
      clear h
      intro v53 e_v53 h
      refine wx_iinc (pc := 229) (j := 5) (a := a5) (z := 1) (ls2 := [(5, V v53), (0, .ref 0), (1, .ref c1), (2, .ref c2), (3, V a5), (4, V v44), (7, V p49)]) (dK D_Law_items_2 2 rfl) rfl e_v53 (ltK rfl) rfl ?_
      refine x_goto (pc := 232) (tgt := 16) (dK D_Law_items_2 3 rfl) rfl ?_
      refine x_weak (ls' := [(0, .ref 0), (1, .ref c1), (2, .ref c2), (3, V a5), (4, V v44), (5, V v53)]) (sbc 1 rfl (sbc 2 rfl (sbc 3 rfl (sbc 4 rfl (sbc 5 rfl (sbc 0 rfl sbn)))))) ?_
      replace h := ih _ _ h
      exact h _ _ hb ha5 (vI_at e_v44).2 (Vn_in e_v53) hx
    · replace h := ifN h hc55
      refine x_goto (pc := 172) (tgt := 229) (dK D_Law_items_1 27 rfl) rfl ?_
      refine nmE h ?_
      clear h
      intro v54 e_v54 h
      refine wx_iinc (pc := 229) (j := 5) (a := a5) (z := 1) (ls2 := [(5, V v54), (4, V v44), (3, V a5), (0, .ref 0), (1, .ref c1), (2, .ref c2), (6, .ref r19)]) (dK D_Law_items_2 2 rfl) rfl e_v54 (ltK rfl) rfl ?_
      refine x_goto (pc := 232) (tgt := 16) (dK D_Law_items_2 3 rfl) rfl ?_
      refine x_weak (ls' := [(0, .ref 0), (1, .ref c1), (2, .ref c2), (3, V a5), (4, V v44), (5, V v54)]) (sbc 3 rfl (sbc 4 rfl (sbc 5 rfl (sbc 2 rfl (sbc 1 rfl (sbc 0 rfl sbn)))))) ?_
      replace h := ih _ _ h
      exact h _ _ hb ha5 (vI_at e_v44).2 (Vn_in e_v54) hx
def jf2_Law_items_91_16 (c1 : Nat) (c2 : Nat) (go : Int × Int × Int × LZ → Option ((Int × LZ) × Nat × Nat)) (a3 : Int) (a4 : Int) (a5 : Int) (dt0 : Value) (S : St) (L : List PC) : Option ((Int × LZ) × Nat × Nat) := nlB dt0 (nm (wr (a5 + 1)) fun v12 => go (a3, a4, v12, (S, L))) (rfB dt0 fun r13 => bnO (gfI L r13 11 5) fun v14 => if v14 = 0 then (nm (wr (a5 + 1)) fun v15 => go (a3, a4, v15, (S, L))) else (if 100 ≤ a5 then (if isK L c1 12 = true then (bnO (gn_LP_open c1 r13 S L) fun p16 => if p16 = true then (jf2_Law_items_140_16 c1 c2 go a3 a4 a5 (.ref r13) S L) else (nm (wr (a5 + 1)) fun v57 => go (a3, a4, v57, (S, L)))) else none) else (bnO (gfI L r13 11 5) fun v58 => if isK L c1 12 = true then (bnO (gn_LP_isShut c1 v58 S L) fun p59 => if p59 = true then (nm (wr (a5 + 1)) fun v62 => go (a3, a4, v62, (S, L))) else (jf2_Law_items_140_16 c1 c2 go a3 a4 a5 (.ref r13) S L)) else none)))
theorem tj2_Law_items_91_16 {sc : SC} {c1 : Nat} {c2 : Nat} {K : Option Value → List PC → Prop} {mc ms kt nt : Nat} (hkt : kt ≤ mc) (hnt : nt ≤ ms) {go : Int × Int × Int × LZ → Option ((Int × LZ) × Nat × Nat)} (ih : ∀ (a : Int × Int × Int × LZ) (q : (Int × LZ) × Nat × Nat), go a = some q → ∀ k n, Bd k n kt nt q → inR a.1 → inR a.2.1 → inR a.2.2.1 → (inR q.1.1 → GX sc M_Law_items mc ms 235 [(0, .ref 0), (2, .ref c2), (3, V q.1.1)] [] (wz q.1.2) kt nt K) → GX sc M_Law_items mc ms 16 [(0, .ref 0), (1, .ref c1), (2, .ref c2), (3, V a.1), (4, V a.2.1), (5, V a.2.2.1)] [] (wz a.2.2.2) k n K) {a3 : Int} (ha3 : inR a3) {a4 : Int} (ha4 : inR a4) {a5 : Int} (ha5 : inR a5) {dt0 : Value} (hdt0 : dt0 = .null ∨ ∃ b, dt0 = .ref b) {S : St} {L : List PC} {q : (Int × LZ) × Nat × Nat} (h : jf2_Law_items_91_16 c1 c2 go a3 a4 a5 dt0 S L = some q) {k n : Nat} (hb : Bd k n kt nt q) (hx : (inR q.1.1 → GX sc M_Law_items mc ms 235 [(0, .ref 0), (2, .ref c2), (3, V q.1.1)] [] (wz q.1.2) kt nt K)) : GX sc M_Law_items mc ms 91 [(0, .ref 0), (1, .ref c1), (2, .ref c2), (3, V a3), (4, V a4), (5, V a5)] [dt0] (wz (S, L)) k n K := by
  unfold jf2_Law_items_91_16 at h
  refine x_astoreV (pc := 91) (ls2 := [(6, dt0), (0, .ref 0), (1, .ref c1), (2, .ref c2), (3, V a3), (4, V a4), (5, V a5)]) hdt0 (dK D_Law_items_0 43 rfl) (ltK rfl) rfl ?_
  refine x_aloadV (pc := 93) (j := 0) hdt0 (dK D_Law_items_0 44 rfl) rfl ?_
  refine nlE h ?_ ?_
  · clear h
    intro hc10 h
    refine x_ifnull (pc := 95) (tgt := 229) hdt0 (dK D_Law_items_0 45 rfl) rfl (fun _ => ?_) (fun e => absurd hc10 e)
    refine nmE h ?_
    clear h
    intro v12 e_v12 h
    refine wx_iinc (pc := 229) (j := 6) (a := a5) (z := 1) (ls2 := [(5, V v12), (6, dt0), (0, .ref 0), (1, .ref c1), (2, .ref c2), (3, V a3), (4, V a4)]) (dK D_Law_items_2 2 rfl) rfl e_v12 (ltK rfl) rfl ?_
    refine x_goto (pc := 232) (tgt := 16) (dK D_Law_items_2 3 rfl) rfl ?_
    refine x_weak (ls' := [(0, .ref 0), (1, .ref c1), (2, .ref c2), (3, V a3), (4, V a4), (5, V v12)]) (sbc 2 rfl (sbc 3 rfl (sbc 4 rfl (sbc 5 rfl (sbc 6 rfl (sbc 0 rfl sbn)))))) ?_
    replace h := ih _ _ h
    exact h _ _ hb ha3 ha4 (Vn_in e_v12) hx
  · clear h
    intro hc11 h
    refine x_ifnull (pc := 95) (tgt := 229) hdt0 (dK D_Law_items_0 45 rfl) rfl (fun e => absurd e hc11) (fun _ => ?_)
    refine x_aloadV (pc := 98) (j := 0) hdt0 (dK D_Law_items_0 46 rfl) rfl ?_
    refine rfE h ?_
    clear h
    intro r13 e_r13 h
    rw [e_r13]
    refine bnE h ?_
    clear h
    intro v14 e_v14 h
    refine wx_getI (pc := 100) (ci := 11) (f := 5) e_v14 (dK D_Law_items_0 47 rfl) q_889 (ltK rfl) (ltK rfl) ?_
    refine wx_if_eq (pc := 103) (t := 229) (dK D_Law_items_0 48 rfl) rfl (vI_at e_v14).2 (fun hc64 => ?_) (fun hc64 => ?_)
    · replace h := ifP h hc64
      refine nmE h ?_
      clear h
      intro v15 e_v15 h
      refine wx_iinc (pc := 229) (j := 6) (a := a5) (z := 1) (ls2 := [(5, V v15), (6, .ref r13), (0, .ref 0), (1, .ref c1), (2, .ref c2), (3, V a3), (4, V a4)]) (dK D_Law_items_2 2 rfl) rfl e_v15 (ltK rfl) rfl ?_
      refine x_goto (pc := 232) (tgt := 16) (dK D_Law_items_2 3 rfl) rfl ?_
      refine x_weak (ls' := [(0, .ref 0), (1, .ref c1), (2, .ref c2), (3, V a3), (4, V a4), (5, V v15)]) (sbc 2 rfl (sbc 3 rfl (sbc 4 rfl (sbc 5 rfl (sbc 6 rfl (sbc 0 rfl sbn)))))) ?_
      replace h := ih _ _ h
      exact h _ _ hb ha3 ha4 (Vn_in e_v15) hx
    · replace h := ifN h hc64
      refine x_iload (pc := 106) (j := 6) (dK D_Law_items_0 49 rfl) rfl ?_
      refine wx_bipush (pc := 108) (dK D_Law_items_1 0 rfl) rfl ?_
      refine wx_icmp_ge (pc := 110) (t := 128) (dK D_Law_items_1 1 rfl) rfl ha5 (inRk rfl) (fun hc63 => ?_) (fun hc63 => ?_)
      · replace h := ifP h hc63
        refine x_aloadn (pc := 128) (i0 := 1) (j := 2) (dK D_Law_items_1 8 rfl) rfl rfl ?_
        refine x_aload (pc := 129) (j := 0) (dK D_Law_items_1 9 rfl) rfl ?_
        refine gdE h ?_
        clear h
        intro hk17 h
        refine bnE h ?_
        clear h
        intro p16 e_p16 h
        refine x_callX (pc := 131) (As := [.ref r13]) (rest := []) (mc' := 0) (ms' := 0) (dK D_Law_items_1 10 rfl) Q_Law_328 sx_LP_open (fitK rfl) (isK_at (Z := (S, L)) (ci := 12) hk17) rfl (leK rfl) (Nat.le_trans (bdk hb) hkt) (Nat.le_trans (bdn hb) hnt) (tg_LP_open  e_p16) (kxB' ?_)
        refine wx_ifB_ne (pc := 134) (b := p16) (t := 140) (dK D_Law_items_1 11 rfl) rfl (fun hc18 => ?_) (fun hc18 => ?_)
        · replace h := ifP h hc18
          refine x_weak (ls' := [(0, .ref 0), (1, .ref c1), (2, .ref c2), (3, V a3), (4, V a4), (5, V a5), (6, .ref r13)]) (sbc 1 rfl (sbc 2 rfl (sbc 3 rfl (sbc 4 rfl (sbc 5 rfl (sbc 6 rfl (sbc 0 rfl sbn))))))) ?_
          exact tj2_Law_items_140_16 hkt hnt ih ha3 ha4 ha5 (.inr ⟨_, rfl⟩) h hb hx
        · replace h := ifN h hc18
          refine x_goto (pc := 137) (tgt := 229) (dK D_Law_items_1 12 rfl) rfl ?_
          refine nmE h ?_
          clear h
          intro v57 e_v57 h
          refine wx_iinc (pc := 229) (j := 6) (a := a5) (z := 1) (ls2 := [(5, V v57), (6, .ref r13), (0, .ref 0), (1, .ref c1), (2, .ref c2), (3, V a3), (4, V a4)]) (dK D_Law_items_2 2 rfl) rfl e_v57 (ltK rfl) rfl ?_
          refine x_goto (pc := 232) (tgt := 16) (dK D_Law_items_2 3 rfl) rfl ?_
          refine x_weak (ls' := [(0, .ref 0), (1, .ref c1), (2, .ref c2), (3, V a3), (4, V a4), (5, V v57)]) (sbc 2 rfl (sbc 3 rfl (sbc 4 rfl (sbc 5 rfl (sbc 6 rfl (sbc 0 rfl sbn)))))) ?_
          replace h := ih _ _ h
          exact h _ _ hb ha3 ha4 (Vn_in e_v57) hx
      · replace h := ifN h hc63
        refine x_aloadn (pc := 113) (i0 := 1) (j := 2) (dK D_Law_items_1 2 rfl) rfl rfl ?_
        refine x_aload (pc := 114) (j := 0) (dK D_Law_items_1 3 rfl) rfl ?_
        refine bnE h ?_
        clear h
        intro v58 e_v58 h
        refine wx_getI (pc := 116) (ci := 11) (f := 5) e_v58 (dK D_Law_items_1 4 rfl) q_889 (ltK rfl) (ltK rfl) ?_
        refine gdE h ?_
        clear h
        intro hk60 h
        refine bnE h ?_
        clear h
        intro p59 e_p59 h
        refine x_callX (pc := 119) (As := [V v58]) (rest := []) (mc' := 0) (ms' := 0) (dK D_Law_items_1 5 rfl) Q_Law_325 sx_LP_isShut (fitK rfl) (isK_at (Z := (S, L)) (ci := 12) hk60) rfl (leK rfl) (Nat.le_trans (bdk hb) hkt) (Nat.le_trans (bdn hb) hnt) (tg_LP_isShut (vI_at e_v58).2 e_p59) (kxB' ?_)
        refine wx_ifB_eq (pc := 122) (b := p59) (t := 140) (dK D_Law_items_1 6 rfl) rfl (fun hc61 => ?_) (fun hc61 => ?_)
        · replace h := ifP h hc61
          refine x_goto (pc := 125) (tgt := 229) (dK D_Law_items_1 7 rfl) rfl ?_
          refine nmE h ?_
          clear h
          intro v62 e_v62 h
          refine wx_iinc (pc := 229) (j := 6) (a := a5) (z := 1) (ls2 := [(5, V v62), (6, .ref r13), (0, .ref 0), (1, .ref c1), (2, .ref c2), (3, V a3), (4, V a4)]) (dK D_Law_items_2 2 rfl) rfl e_v62 (ltK rfl) rfl ?_
          refine x_goto (pc := 232) (tgt := 16) (dK D_Law_items_2 3 rfl) rfl ?_
          refine x_weak (ls' := [(0, .ref 0), (1, .ref c1), (2, .ref c2), (3, V a3), (4, V a4), (5, V v62)]) (sbc 2 rfl (sbc 3 rfl (sbc 4 rfl (sbc 5 rfl (sbc 6 rfl (sbc 0 rfl sbn)))))) ?_
          replace h := ih _ _ h
          exact h _ _ hb ha3 ha4 (Vn_in e_v62) hx
        · replace h := ifN h hc61
          refine x_weak (ls' := [(0, .ref 0), (1, .ref c1), (2, .ref c2), (3, V a3), (4, V a4), (5, V a5), (6, .ref r13)]) (sbc 1 rfl (sbc 2 rfl (sbc 3 rfl (sbc 4 rfl (sbc 5 rfl (sbc 6 rfl (sbc 0 rfl sbn))))))) ?_
          exact tj2_Law_items_140_16 hkt hnt ih ha3 ha4 ha5 (.inr ⟨_, rfl⟩) h hb hx
def lb2_Law_items_16 (c1 : Nat) (c2 : Nat) (go : Int × Int × Int × LZ → Option ((Int × LZ) × Nat × Nat)) (a3 : Int) (a4 : Int) (a5 : Int) (S : St) (L : List PC) : Option ((Int × LZ) × Nat × Nat) := if 110 ≤ a5 then (some ((a3, (S, L)), 0, 0)) else (bnO (gfV L c1 12 4) fun v6 => rfB v6 fun r7 => if isK L r7 13 = true then (bnO (gn_AL_size r7 S L) fun p8 => if p8 ≤ a5 then (if a5 < 100 then (jf2_Law_items_91_16 c1 c2 go a3 a4 a5 .null S L) else (bnO (gfV L c1 12 5) fun v65 => rfB v65 fun r66 => if isK L r66 13 = true then (bnO (gn_AL_size r66 S L) fun p67 => nm (wr (a5 - 100)) fun v69 => if p67 ≤ v69 then (jf2_Law_items_91_16 c1 c2 go a3 a4 a5 .null S L) else (bnO (gfV L c1 12 5) fun v70 => nm (wr (a5 - 100)) fun v71 => rfB v70 fun r72 => if isK L r72 13 = true then (bnO (gn_AL_get r72 v71 S L) fun p73 => rfB p73 fun r75 => if isK L r75 11 = true then (jf2_Law_items_91_16 c1 c2 go a3 a4 a5 (.ref r75) S L) else none) else none)) else none)) else (bnO (gfV L c1 12 4) fun v79 => rfB v79 fun r80 => if isK L r80 13 = true then (bnO (gn_AL_get r80 a5 S L) fun p81 => rfB p81 fun r83 => if isK L r83 11 = true then (jf2_Law_items_91_16 c1 c2 go a3 a4 a5 (.ref r83) S L) else none) else none)) else none)
def lo2_Law_items_16 (c1 : Nat) (c2 : Nat) : Nat → Int × Int × Int × LZ → Option ((Int × LZ) × Nat × Nat) := lp fun go p => lb2_Law_items_16 c1 c2 go p.1 p.2.1 p.2.2.1 p.2.2.2.1 p.2.2.2.2
theorem tl2_Law_items_16 {sc : SC} {c1 : Nat} {c2 : Nat} {K : Option Value → List PC → Prop} {mc ms kt nt : Nat} (hkt : kt ≤ mc) (hnt : nt ≤ ms) : ∀ (N : Nat) (a : Int × Int × Int × LZ) (q : (Int × LZ) × Nat × Nat), lo2_Law_items_16 c1 c2 N a = some q → ∀ k n, Bd k n kt nt q → inR a.1 → inR a.2.1 → inR a.2.2.1 → (inR q.1.1 → GX sc M_Law_items mc ms 235 [(0, .ref 0), (2, .ref c2), (3, V q.1.1)] [] (wz q.1.2) kt nt K) → GX sc M_Law_items mc ms 16 [(0, .ref 0), (1, .ref c1), (2, .ref c2), (3, V a.1), (4, V a.2.1), (5, V a.2.2.1)] [] (wz a.2.2.2) k n K := by
  refine lp_ind2 (P := fun (a : Int × Int × Int × LZ) (q : (Int × LZ) × Nat × Nat) => ∀ k n, Bd k n kt nt q → inR a.1 → inR a.2.1 → inR a.2.2.1 → (inR q.1.1 → GX sc M_Law_items mc ms 235 [(0, .ref 0), (2, .ref c2), (3, V q.1.1)] [] (wz q.1.2) kt nt K) → GX sc M_Law_items mc ms 16 [(0, .ref 0), (1, .ref c1), (2, .ref c2), (3, V a.1), (4, V a.2.1), (5, V a.2.2.1)] [] (wz a.2.2.2) k n K) (fun go ih a q h => ?_)
  obtain ⟨a3, a4, a5, ⟨S, L⟩⟩ := a
  intro k n hb ha3 ha4 ha5 hx
  show GX sc M_Law_items mc ms 16 [(0, .ref 0), (1, .ref c1), (2, .ref c2), (3, V a3), (4, V a4), (5, V a5)] [] (wz (S, L)) k n K
  replace h : lb2_Law_items_16 c1 c2 go a3 a4 a5 S L = some q := h
  unfold lb2_Law_items_16 at h
  refine x_iload (pc := 16) (j := 5) (dK D_Law_items_0 10 rfl) rfl ?_
  refine wx_bipush (pc := 18) (dK D_Law_items_0 11 rfl) rfl ?_
  refine wx_icmp_ge (pc := 20) (t := 235) (dK D_Law_items_0 12 rfl) rfl ha5 (inRk rfl) (fun hc86 => ?_) (fun hc86 => ?_)
  · replace h := ifP h hc86
    obtain rfl := Option.some.inj h
    refine x_weak (ls' := [(0, .ref 0), (2, .ref c2), (3, V a3)]) (sbc 0 rfl (sbc 2 rfl (sbc 3 rfl sbn))) ?_
    refine x_room (bdk hb) (bdn hb) ?_
    exact hx ha3
  · replace h := ifN h hc86
    refine x_iload (pc := 23) (j := 5) (dK D_Law_items_0 13 rfl) rfl ?_
    refine x_aloadn (pc := 25) (i0 := 1) (j := 1) (dK D_Law_items_0 14 rfl) rfl rfl ?_
    refine bnE h ?_
    clear h
    intro v6 e_v6 h
    refine wx_getV (pc := 26) (ci := 12) (f := 4) e_v6 (dK D_Law_items_0 15 rfl) q_776 (ltK rfl) (ltK rfl) (fun hv6 => ?_)
    refine rfE h ?_
    clear h
    intro r7 e_r7 h
    rw [e_r7]
    refine gdE h ?_
    clear h
    intro hk9 h
    refine bnE h ?_
    clear h
    intro p8 e_p8 h
    refine x_callX (pc := 29) (As := []) (rest := [V a5]) (mc' := 0) (ms' := 0) (dK D_Law_items_0 16 rfl) Q_Law_55 sx_AL_size (fitK rfl) (isK_at (Z := (S, L)) (ci := 13) hk9) rfl (leK rfl) (Nat.le_trans (bdk hb) hkt) (Nat.le_trans (bdn hb) hnt) (tg_AL_size  e_p8) (kxI' (fun h_p8 => ?_))
    refine wx_icmp_ge (pc := 32) (t := 50) (dK D_Law_items_0 17 rfl) rfl ha5 h_p8 (fun hc85 => ?_) (fun hc85 => ?_)
    · replace h := ifP h hc85
      refine x_iload (pc := 50) (j := 5) (dK D_Law_items_0 24 rfl) rfl ?_
      refine wx_bipush (pc := 52) (dK D_Law_items_0 25 rfl) rfl ?_
      refine wx_icmp_lt (pc := 54) (t := 90) (dK D_Law_items_0 26 rfl) rfl ha5 (inRk rfl) (fun hc78 => ?_) (fun hc78 => ?_)
      · replace h := ifP h hc78
        refine x_null (pc := 90) (dK D_Law_items_0 42 rfl) ?_
        exact tj2_Law_items_91_16 hkt hnt ih ha3 ha4 ha5 (.inl rfl) h hb hx
      · replace h := ifN h hc78
        refine x_iload (pc := 57) (j := 5) (dK D_Law_items_0 27 rfl) rfl ?_
        refine wx_bipush (pc := 59) (dK D_Law_items_0 28 rfl) rfl ?_
        refine wx_isub (pc := 61) (dK D_Law_items_0 29 rfl) ?_
        refine x_aloadn (pc := 62) (i0 := 1) (j := 1) (dK D_Law_items_0 30 rfl) rfl rfl ?_
        refine bnE h ?_
        clear h
        intro v65 e_v65 h
        refine wx_getV (pc := 63) (ci := 12) (f := 5) e_v65 (dK D_Law_items_0 31 rfl) q_778 (ltK rfl) (ltK rfl) (fun hv65 => ?_)
        refine rfE h ?_
        clear h
        intro r66 e_r66 h
        rw [e_r66]
        refine gdE h ?_
        clear h
        intro hk68 h
        refine bnE h ?_
        clear h
        intro p67 e_p67 h
        refine x_callX (pc := 66) (As := []) (rest := [V (a5 - 100)]) (mc' := 0) (ms' := 0) (dK D_Law_items_0 32 rfl) Q_Law_55 sx_AL_size (fitK rfl) (isK_at (Z := (S, L)) (ci := 13) hk68) rfl (leK rfl) (Nat.le_trans (bdk hb) hkt) (Nat.le_trans (bdn hb) hnt) (tg_AL_size  e_p67) (kxI' (fun h_p67 => ?_))
        refine nmE h ?_
        clear h
        intro v69 e_v69 h
        refine wsk (st' := [V p67, V v69]) (congrArg (fun z9 => [V p67, z9]) (Vn e_v69)) ?_
        refine wx_icmp_ge (pc := 69) (t := 90) (dK D_Law_items_0 33 rfl) rfl (Vn_in e_v69) h_p67 (fun hc77 => ?_) (fun hc77 => ?_)
        · replace h := ifP h hc77
          refine x_null (pc := 90) (dK D_Law_items_0 42 rfl) ?_
          exact tj2_Law_items_91_16 hkt hnt ih ha3 ha4 ha5 (.inl rfl) h hb hx
        · replace h := ifN h hc77
          refine x_aloadn (pc := 72) (i0 := 1) (j := 1) (dK D_Law_items_0 34 rfl) rfl rfl ?_
          refine bnE h ?_
          clear h
          intro v70 e_v70 h
          refine wx_getV (pc := 73) (ci := 12) (f := 5) e_v70 (dK D_Law_items_0 35 rfl) q_778 (ltK rfl) (ltK rfl) (fun hv70 => ?_)
          refine x_iload (pc := 76) (j := 5) (dK D_Law_items_0 36 rfl) rfl ?_
          refine wx_bipush (pc := 78) (dK D_Law_items_0 37 rfl) rfl ?_
          refine wx_isub (pc := 80) (dK D_Law_items_0 38 rfl) ?_
          refine nmE h ?_
          clear h
          intro v71 e_v71 h
          refine wtop e_v71 ?_
          refine rfE h ?_
          clear h
          intro r72 e_r72 h
          rw [e_r72]
          refine gdE h ?_
          clear h
          intro hk74 h
          refine bnE h ?_
          clear h
          intro p73 e_p73 h
          refine x_callX (pc := 81) (As := [V v71]) (rest := []) (mc' := 0) (ms' := 0) (dK D_Law_items_0 39 rfl) Q_Law_69 sx_AL_get (fitK rfl) (isK_at (Z := (S, L)) (ci := 13) hk74) rfl (leK rfl) (Nat.le_trans (bdk hb) hkt) (Nat.le_trans (bdn hb) hnt) (tg_AL_get (Vn_in e_v71) e_p73) (kxR (fun h_p73 => ?_))
          refine rfE h ?_
          clear h
          intro r75 e_r75 h
          rw [e_r75]
          refine gdE h ?_
          clear h
          intro hk76 h
          refine x_cast (pc := 84) (dK D_Law_items_0 40 rfl) q_1033 (isK_at (Z := (S, L)) (ci := 11) hk76) ?_
          refine x_goto (pc := 87) (tgt := 91) (dK D_Law_items_0 41 rfl) rfl ?_
          exact tj2_Law_items_91_16 hkt hnt ih ha3 ha4 ha5 (.inr ⟨_, rfl⟩) h hb hx
    · replace h := ifN h hc85
      refine x_aloadn (pc := 35) (i0 := 1) (j := 1) (dK D_Law_items_0 18 rfl) rfl rfl ?_
      refine bnE h ?_
      clear h
      intro v79 e_v79 h
      refine wx_getV (pc := 36) (ci := 12) (f := 4) e_v79 (dK D_Law_items_0 19 rfl) q_776 (ltK rfl) (ltK rfl) (fun hv79 => ?_)
      refine x_iload (pc := 39) (j := 5) (dK D_Law_items_0 20 rfl) rfl ?_
      refine rfE h ?_
      clear h
      intro r80 e_r80 h
      rw [e_r80]
      refine gdE h ?_
      clear h
      intro hk82 h
      refine bnE h ?_
      clear h
      intro p81 e_p81 h
      refine x_callX (pc := 41) (As := [V a5]) (rest := []) (mc' := 0) (ms' := 0) (dK D_Law_items_0 21 rfl) Q_Law_69 sx_AL_get (fitK rfl) (isK_at (Z := (S, L)) (ci := 13) hk82) rfl (leK rfl) (Nat.le_trans (bdk hb) hkt) (Nat.le_trans (bdn hb) hnt) (tg_AL_get ha5 e_p81) (kxR (fun h_p81 => ?_))
      refine rfE h ?_
      clear h
      intro r83 e_r83 h
      rw [e_r83]
      refine gdE h ?_
      clear h
      intro hk84 h
      refine x_cast (pc := 44) (dK D_Law_items_0 22 rfl) q_1033 (isK_at (Z := (S, L)) (ci := 11) hk84) ?_
      refine x_goto (pc := 47) (tgt := 91) (dK D_Law_items_0 23 rfl) rfl ?_
      exact tj2_Law_items_91_16 hkt hnt ih ha3 ha4 ha5 (.inr ⟨_, rfl⟩) h hb hx
def lb2_Law_items_238 (c2 : Nat) (a3 : Int) (go : Int × LZ → Option (((Bool × LZ) ⊕ (LZ)) × Nat × Nat)) (a5 : Int) (S : St) (L : List PC) : Option (((Bool × LZ) ⊕ (LZ)) × Nat × Nat) := if isK L c2 13 = true then (bnO (gn_AL_size c2 S L) fun p88 => if p88 < a5 then (some (.inr (S, L), 0, 0)) else (bnO (fn_FP_lateItem 0 a5 S) fun p90 => if isK L c2 13 = true then (bnO (gn_AL_size c2 S L) fun p91 => if p91 ≤ a5 then (if p90 = (-1) then (nm (wr (a5 + 1)) fun v93 => go (v93, (S, L))) else (some (.inl (false, (S, L)), 0, 0))) else (if isK L c2 13 = true then (bnO (gn_AL_get c2 a5 S L) fun p95 => rfB p95 fun r97 => if isK L r97 17 = true then (if isK L r97 17 = true then (bnO (gn_Integer_intValue r97 S L) fun p99 => if p90 = p99 then (nm (wr (a5 + 1)) fun v101 => go (v101, (S, L))) else (some (.inl (false, (S, L)), 0, 0))) else none) else none) else none)) else none)) else none
def lo2_Law_items_238 (c2 : Nat) (a3 : Int) : Nat → Int × LZ → Option (((Bool × LZ) ⊕ (LZ)) × Nat × Nat) := lp fun go p => lb2_Law_items_238 c2 a3 go p.1 p.2.1 p.2.2
theorem tl2_Law_items_238 {sc : SC} {c2 : Nat} {a3 : Int} (ha3 : inR a3) {K : Option Value → List PC → Prop} {mc ms kt nt : Nat} (hkt : kt ≤ mc) (hnt : nt ≤ ms) : ∀ (N : Nat) (a : Int × LZ) (q : ((Bool × LZ) ⊕ (LZ)) × Nat × Nat), lo2_Law_items_238 c2 a3 N a = some q → ∀ k n, Bd k n kt nt q → inR a.1 → (∀ e, q.1 = .inr e → GX sc M_Law_items mc ms 289 [(0, .ref 0), (3, V a3)] [] (wz e) kt nt K) → (∀ r, q.1 = .inl r → K (some (V (bi r.1))) (wz r.2)) → GX sc M_Law_items mc ms 238 [(0, .ref 0), (2, .ref c2), (3, V a3), (5, V a.1)] [] (wz a.2) k n K := by
  refine lp_ind2 (P := fun (a : Int × LZ) (q : ((Bool × LZ) ⊕ (LZ)) × Nat × Nat) => ∀ k n, Bd k n kt nt q → inR a.1 → (∀ e, q.1 = .inr e → GX sc M_Law_items mc ms 289 [(0, .ref 0), (3, V a3)] [] (wz e) kt nt K) → (∀ r, q.1 = .inl r → K (some (V (bi r.1))) (wz r.2)) → GX sc M_Law_items mc ms 238 [(0, .ref 0), (2, .ref c2), (3, V a3), (5, V a.1)] [] (wz a.2) k n K) (fun go ih a q h => ?_)
  obtain ⟨a5, ⟨S, L⟩⟩ := a
  intro k n hb ha5 hx hr
  show GX sc M_Law_items mc ms 238 [(0, .ref 0), (2, .ref c2), (3, V a3), (5, V a5)] [] (wz (S, L)) k n K
  replace h : lb2_Law_items_238 c2 a3 go a5 S L = some q := h
  unfold lb2_Law_items_238 at h
  refine x_iload (pc := 238) (j := 3) (dK D_Law_items_2 6 rfl) rfl ?_
  refine x_aloadn (pc := 240) (i0 := 2) (j := 1) (dK D_Law_items_2 7 rfl) rfl rfl ?_
  refine gdE h ?_
  clear h
  intro hk89 h
  refine bnE h ?_
  clear h
  intro p88 e_p88 h
  refine x_callX (pc := 241) (As := []) (rest := [V a5]) (mc' := 0) (ms' := 0) (dK D_Law_items_2 8 rfl) Q_Law_55 sx_AL_size (fitK rfl) (isK_at (Z := (S, L)) (ci := 13) hk89) rfl (leK rfl) (Nat.le_trans (bdk hb) hkt) (Nat.le_trans (bdn hb) hnt) (tg_AL_size  e_p88) (kxI' (fun h_p88 => ?_))
  refine wx_icmp_gt (pc := 244) (t := 289) (dK D_Law_items_2 9 rfl) rfl ha5 h_p88 (fun hc104 => ?_) (fun hc104 => ?_)
  · replace h := ifP h hc104
    obtain rfl := Option.some.inj h
    refine x_weak (ls' := [(0, .ref 0), (3, V a3)]) (sbc 0 rfl (sbc 2 rfl sbn)) ?_
    refine x_room (bdk hb) (bdn hb) ?_
    exact hx (S, L) rfl
  · replace h := ifN h hc104
    refine x_aloadn (pc := 247) (i0 := 0) (j := 0) (dK D_Law_items_2 10 rfl) rfl rfl ?_
    refine x_iload (pc := 248) (j := 3) (dK D_Law_items_2 11 rfl) rfl ?_
    refine bnE h ?_
    clear h
    intro p90 e_p90 h
    refine x_callX (pc := 250) (As := [V a5]) (rest := []) (mc' := 0) (ms' := 0) (dK D_Law_items_2 12 rfl) Q_Law_343 sx_FP_lateItem (fitK rfl) (isK_at (Z := (S, L)) (ci := 10) isK0) rfl (leK rfl) (Nat.le_trans (bdk hb) hkt) (Nat.le_trans (bdn hb) hnt) (clI (fun E => tf_FP_lateItem (X := xz L) xz_hc ha5 e_p90)) (kxI' (fun h_p90 => ?_))
    refine x_iload (pc := 253) (j := 3) (dK D_Law_items_2 13 rfl) rfl ?_
    refine x_aloadn (pc := 255) (i0 := 2) (j := 1) (dK D_Law_items_2 14 rfl) rfl rfl ?_
    refine gdE h ?_
    clear h
    intro hk92 h
    refine bnE h ?_
    clear h
    intro p91 e_p91 h
    refine x_callX (pc := 256) (As := []) (rest := [V a5, V p90]) (mc' := 0) (ms' := 0) (dK D_Law_items_2 15 rfl) Q_Law_55 sx_AL_size (fitK rfl) (isK_at (Z := (S, L)) (ci := 13) hk92) rfl (leK rfl) (Nat.le_trans (bdk hb) hkt) (Nat.le_trans (bdn hb) hnt) (tg_AL_size  e_p91) (kxI' (fun h_p91 => ?_))
    refine wx_icmp_ge (pc := 259) (t := 277) (dK D_Law_items_2 16 rfl) rfl ha5 h_p91 (fun hc103 => ?_) (fun hc103 => ?_)
    · replace h := ifP h hc103
      refine wx_iconst (pc := 277) (dK D_Law_items_2 23 rfl) ?_
      refine wx_icmp_eq (pc := 278) (t := 283) (dK D_Law_items_2 24 rfl) rfl h_p90 (inRk rfl) (fun hc94 => ?_) (fun hc94 => ?_)
      · replace h := ifP h hc94
        refine nmE h ?_
        clear h
        intro v93 e_v93 h
        refine wx_iinc (pc := 283) (j := 3) (a := a5) (z := 1) (ls2 := [(5, V v93), (0, .ref 0), (2, .ref c2), (3, V a3)]) (dK D_Law_items_2 27 rfl) rfl e_v93 (ltK rfl) rfl ?_
        refine x_goto (pc := 286) (tgt := 238) (dK D_Law_items_2 28 rfl) rfl ?_
        refine x_weak (ls' := [(0, .ref 0), (2, .ref c2), (3, V a3), (5, V v93)]) (sbc 1 rfl (sbc 2 rfl (sbc 3 rfl (sbc 0 rfl sbn)))) ?_
        replace h := ih _ _ h
        exact h _ _ hb (Vn_in e_v93) hx hr
      · replace h := ifN h hc94
        refine wx_iconst (pc := 281) (dK D_Law_items_2 25 rfl) ?_
        obtain rfl := Option.some.inj h
        exact wk_iretB (pc := 282) (b := false) (dK D_Law_items_2 26 rfl) rfl (Nat.le_trans (bdk hb) hkt) (Nat.le_trans (bdn hb) hnt) (hr (false, (S, L)) rfl)
    · replace h := ifN h hc103
      refine x_aloadn (pc := 262) (i0 := 2) (j := 1) (dK D_Law_items_2 17 rfl) rfl rfl ?_
      refine x_iload (pc := 263) (j := 3) (dK D_Law_items_2 18 rfl) rfl ?_
      refine gdE h ?_
      clear h
      intro hk96 h
      refine bnE h ?_
      clear h
      intro p95 e_p95 h
      refine x_callX (pc := 265) (As := [V a5]) (rest := [V p90]) (mc' := 0) (ms' := 0) (dK D_Law_items_2 19 rfl) Q_Law_69 sx_AL_get (fitK rfl) (isK_at (Z := (S, L)) (ci := 13) hk96) rfl (leK rfl) (Nat.le_trans (bdk hb) hkt) (Nat.le_trans (bdn hb) hnt) (tg_AL_get ha5 e_p95) (kxR (fun h_p95 => ?_))
      refine rfE h ?_
      clear h
      intro r97 e_r97 h
      rw [e_r97]
      refine gdE h ?_
      clear h
      intro hk98 h
      refine x_cast (pc := 268) (dK D_Law_items_2 20 rfl) q_1269 (isK_at (Z := (S, L)) (ci := 17) hk98) ?_
      refine gdE h ?_
      clear h
      intro hk100 h
      refine bnE h ?_
      clear h
      intro p99 e_p99 h
      refine x_callX (pc := 271) (As := []) (rest := [V p90]) (mc' := 0) (ms' := 0) (dK D_Law_items_2 21 rfl) Q_Law_158 sx_Integer_intValue (fitK rfl) (isK_at (Z := (S, L)) (ci := 17) hk100) rfl (leK rfl) (Nat.le_trans (bdk hb) hkt) (Nat.le_trans (bdn hb) hnt) (tg_Integer_intValue  e_p99) (kxI' (fun h_p99 => ?_))
      refine x_goto (pc := 274) (tgt := 278) (dK D_Law_items_2 22 rfl) rfl ?_
      refine wx_icmp_eq (pc := 278) (t := 283) (dK D_Law_items_2 24 rfl) rfl h_p90 h_p99 (fun hc102 => ?_) (fun hc102 => ?_)
      · replace h := ifP h hc102
        refine nmE h ?_
        clear h
        intro v101 e_v101 h
        refine wx_iinc (pc := 283) (j := 3) (a := a5) (z := 1) (ls2 := [(5, V v101), (0, .ref 0), (2, .ref c2), (3, V a3)]) (dK D_Law_items_2 27 rfl) rfl e_v101 (ltK rfl) rfl ?_
        refine x_goto (pc := 286) (tgt := 238) (dK D_Law_items_2 28 rfl) rfl ?_
        refine x_weak (ls' := [(0, .ref 0), (2, .ref c2), (3, V a3), (5, V v101)]) (sbc 1 rfl (sbc 2 rfl (sbc 3 rfl (sbc 0 rfl sbn)))) ?_
        replace h := ih _ _ h
        exact h _ _ hb (Vn_in e_v101) hx hr
      · replace h := ifN h hc102
        refine wx_iconst (pc := 281) (dK D_Law_items_2 25 rfl) ?_
        obtain rfl := Option.some.inj h
        exact wk_iretB (pc := 282) (b := false) (dK D_Law_items_2 26 rfl) rfl (Nat.le_trans (bdk hb) hkt) (Nat.le_trans (bdn hb) hnt) (hr (false, (S, L)) rfl)
def gn_Law_items (c1 : Nat) (S : St) (L : List PC) : Option ((Bool × LZ) × Nat × Nat) := if L.length < 900000000 then adC 1 3 (nw L (13, dfl 13) fun r2 L3 => bnO (gn_AL_init r2 S L3) fun p5 => adC p5.2.1 p5.2.2 (bnO (lo2_Law_items_16 c1 r2 FU ((-1), (-1), 0, (p5.1.1, p5.1.2))) fun p87 => adC p87.2.1 p87.2.2 (bnT (lo2_Law_items_238 r2 p87.1.1 FU (0, (p87.1.2.1, p87.1.2.2))) (fun r106 => some ((r106.1, (r106.2.1, r106.2.2)), 0, 0)) fun e107 => bnO (fn_FP_lastReady 0 e107.1) fun p108 => if p108 = p87.1.1 then (bnO (fn_FP_lateItem 0 (-1) e107.1) fun p109 => if p109 = (-1) then (some ((true, (e107.1, e107.2)), 0, 0)) else (some ((false, (e107.1, e107.2)), 0, 0))) else (some ((false, (e107.1, e107.2)), 0, 0))))) else none
theorem te_Law_items {sc : SC} {c1 : Nat} {S : St} {L : List PC} {q : (Bool × LZ) × Nat × Nat} (h : gn_Law_items c1 S L = some q) {mc ms k n : Nat} (hb : Bd k n mc ms q) : GX sc M_Law_items mc ms 0 [(0, .ref 0), (1, .ref c1)] [] (wz (S, L)) k n (KXB q.1.1 q.1.2) := by
  unfold gn_Law_items at h
  refine gdE h ?_
  clear h
  intro hl1 h
  obtain ⟨y4, h9, e9⟩ := adE2 h
  clear h
  subst e9
  have h := h9
  clear h9
  refine nwE h ?_
  clear h
  intro r2 L3 e_r2 e_L3 h
  have hk1 := bd1 hb
  have hn1 := bd2 hb
  replace hb := bdA hb
  refine wn_new (Z := (S, L)) (pc := 0) (ci := 13) (N := 3) e_r2 e_L3 hl1 rfl (dK D_Law_items_0 0 rfl) (ltK rfl) q_1757 q_739 q_17 hk1 hn1 ?_
  refine x_dup (pc := 3) (dK D_Law_items_0 1 rfl) rfl ?_
  refine bnE h ?_
  clear h
  intro p5 e_p5 h
  obtain ⟨yp5, h9, e9⟩ := adE2 h
  clear h
  subst e9
  have h := h9
  clear h9
  have hk1 := bd1 hb
  have hn1 := bd2 hb
  replace hb := bdA hb
  refine x_callI (pc := 4) (As := []) (rest := [.ref r2]) (mc' := p5.2.1) (ms' := p5.2.2) (dK D_Law_items_0 2 rfl) Q_Law_324 (fitK rfl) rfl (leK rfl) hk1 hn1 (tg_AL_init  e_p5) (kxU ?_)
  refine x_astoren (pc := 7) (i0 := 2) (ls2 := [(2, .ref r2), (0, .ref 0), (1, .ref c1)]) (dK D_Law_items_0 3 rfl) rfl (ltK rfl) rfl ?_
  refine wx_iconst (pc := 8) (dK D_Law_items_0 4 rfl) ?_
  refine x_istoren (pc := 9) (i0 := 3) (ls2 := [(3, V (-1)), (2, .ref r2), (0, .ref 0), (1, .ref c1)]) (dK D_Law_items_0 5 rfl) rfl (ltK rfl) rfl ?_
  refine wx_iconst (pc := 10) (dK D_Law_items_0 6 rfl) ?_
  refine x_istore (pc := 11) (ls2 := [(4, V (-1)), (3, V (-1)), (2, .ref r2), (0, .ref 0), (1, .ref c1)]) (dK D_Law_items_0 7 rfl) (ltK rfl) rfl ?_
  refine wx_iconst (pc := 13) (dK D_Law_items_0 8 rfl) ?_
  refine x_istore (pc := 14) (ls2 := [(5, V 0), (4, V (-1)), (3, V (-1)), (2, .ref r2), (0, .ref 0), (1, .ref c1)]) (dK D_Law_items_0 9 rfl) (ltK rfl) rfl ?_
  refine bnE h ?_
  clear h
  intro p87 e_p87 h
  obtain ⟨yp87, h9, e9⟩ := adE2 h
  clear h
  subst e9
  have h := h9
  clear h9
  have hk1 := bd1 hb
  have hn1 := bd2 hb
  replace hb := bdA hb
  refine x_weak (ls' := [(0, .ref 0), (1, .ref c1), (2, .ref r2), (3, V (-1)), (4, V (-1)), (5, V 0)]) (sbc 4 rfl (sbc 5 rfl (sbc 3 rfl (sbc 2 rfl (sbc 1 rfl (sbc 0 rfl sbn)))))) ?_
  refine tl2_Law_items_16  hk1 hn1 FU _ _ e_p87 _ _ ⟨Nat.le_refl _, Nat.le_refl _⟩ (inRk rfl) (inRk rfl) (inRk rfl) (fun hx3_p87 => ?_)
  refine wx_iconst (pc := 235) (dK D_Law_items_2 4 rfl) ?_
  refine x_istore (pc := 236) (ls2 := [(5, V 0), (0, .ref 0), (2, .ref r2), (3, V p87.1.1)]) (dK D_Law_items_2 5 rfl) (ltK rfl) rfl ?_
  refine bnTE h ?_ ?_
  · clear h
    intro p105 r106 yp105 e_p105 f_p105 h e9
    subst e9
    have hk1 := bd1 hb
    have hn1 := bd2 hb
    replace hb := bdA hb
    refine x_weak (ls' := [(0, .ref 0), (2, .ref r2), (3, V p87.1.1), (5, V 0)]) (sbc 1 rfl (sbc 2 rfl (sbc 3 rfl (sbc 0 rfl sbn)))) ?_
    refine tl2_Law_items_238 hx3_p87 hk1 hn1 FU _ _ e_p105 _ _ ⟨Nat.le_refl _, Nat.le_refl _⟩ (inRk rfl) (fun _ g_ => by rw [f_p105] at g_; exact nomatch g_) (fun r_ g_  => ?_)
    obtain rfl := Sum.inl.inj (f_p105.symm.trans g_)
    obtain rfl := Option.some.inj h
    exact ⟨rfl, rfl⟩
  · clear h
    intro p105 e107 yp105 e_p105 f_p105 h e9
    subst e9
    have hk1 := bd1 hb
    have hn1 := bd2 hb
    replace hb := bdA hb
    refine x_weak (ls' := [(0, .ref 0), (2, .ref r2), (3, V p87.1.1), (5, V 0)]) (sbc 1 rfl (sbc 2 rfl (sbc 3 rfl (sbc 0 rfl sbn)))) ?_
    refine tl2_Law_items_238 hx3_p87 hk1 hn1 FU _ _ e_p105 _ _ ⟨Nat.le_refl _, Nat.le_refl _⟩ (inRk rfl) (fun e_ g_  => ?_) (fun _ g_ => by rw [f_p105] at g_; exact nomatch g_)
    obtain rfl := Sum.inr.inj (f_p105.symm.trans g_)
    refine x_aloadn (pc := 289) (i0 := 0) (j := 0) (dK D_Law_items_2 29 rfl) rfl rfl ?_
    refine bnE h ?_
    clear h
    intro p108 e_p108 h
    refine x_callX (pc := 290) (As := []) (rest := []) (mc' := 0) (ms' := 0) (dK D_Law_items_2 30 rfl) Q_Law_346 sx_FP_lastReady (fitK rfl) (isK_at (Z := (e107.1, e107.2)) (ci := 10) isK0) rfl (leK rfl) (bdk hb) (bdn hb) (clI (fun E => tf_FP_lastReady (X := xz e107.2) xz_hc  e_p108)) (kxI' (fun h_p108 => ?_))
    refine x_iloadn (pc := 293) (i0 := 3) (j := 1) (dK D_Law_items_2 31 rfl) rfl rfl ?_
    refine wx_icmp_ne (pc := 294) (t := 310) (dK D_Law_items_2 32 rfl) rfl h_p108 hx3_p87 (fun hc111 => ?_) (fun hc111 => ?_)
    · replace h := ifN h hc111
      refine wx_iconst (pc := 310) (dK D_Law_items_2 40 rfl) ?_
      obtain rfl := Option.some.inj h
      exact wk_iretB (pc := 311) (b := false) (dK D_Law_items_2 41 rfl) rfl (bdk hb) (bdn hb) ⟨rfl, rfl⟩
    · replace h := ifP h hc111
      refine x_aloadn (pc := 297) (i0 := 0) (j := 0) (dK D_Law_items_2 33 rfl) rfl rfl ?_
      refine wx_iconst (pc := 298) (dK D_Law_items_2 34 rfl) ?_
      refine bnE h ?_
      clear h
      intro p109 e_p109 h
      refine x_callX (pc := 299) (As := [V (-1)]) (rest := []) (mc' := 0) (ms' := 0) (dK D_Law_items_2 35 rfl) Q_Law_343 sx_FP_lateItem (fitK rfl) (isK_at (Z := (e107.1, e107.2)) (ci := 10) isK0) rfl (leK rfl) (bdk hb) (bdn hb) (clI (fun E => tf_FP_lateItem (X := xz e107.2) xz_hc (inRk rfl) e_p109)) (kxI' (fun h_p109 => ?_))
      refine wx_iconst (pc := 302) (dK D_Law_items_2 36 rfl) ?_
      refine wx_icmp_ne (pc := 303) (t := 310) (dK D_Law_items_2 37 rfl) rfl h_p109 (inRk rfl) (fun hc110 => ?_) (fun hc110 => ?_)
      · replace h := ifN h hc110
        refine wx_iconst (pc := 310) (dK D_Law_items_2 40 rfl) ?_
        obtain rfl := Option.some.inj h
        exact wk_iretB (pc := 311) (b := false) (dK D_Law_items_2 41 rfl) rfl (bdk hb) (bdn hb) ⟨rfl, rfl⟩
      · replace h := ifP h hc110
        refine wx_iconst (pc := 306) (dK D_Law_items_2 38 rfl) ?_
        refine x_goto (pc := 307) (tgt := 311) (dK D_Law_items_2 39 rfl) rfl ?_
        obtain rfl := Option.some.inj h
        exact wk_iretB (pc := 311) (b := true) (dK D_Law_items_2 41 rfl) rfl (bdk hb) (bdn hb) ⟨rfl, rfl⟩
theorem tg_Law_items {sc : SC} {c1 : Nat} {S : St} {L : List PC} {q : (Bool × LZ) × Nat × Nat} (h : gn_Law_items c1 S L = some q) : EvX sc M_Law_items [.ref 0, .ref c1] (wz (S, L)) q.2.1 q.2.2 (KXB q.1.1 q.1.2) := EvX.of pn2_Law rfl (leK rfl) (te_Law_items  h ⟨Nat.le_of_eq (Nat.zero_add _), Nat.le_of_eq (Nat.zero_add _)⟩)
def lb2_LP_colored_4 (c0 : Nat) (go : Int × Int × LZ → Option ((Int × LZ) × Nat × Nat)) (a1 : Int) (a2 : Int) (S : St) (L : List PC) : Option ((Int × LZ) × Nat × Nat) := bnO (gfI L c0 12 0) fun v1 => nm (wr (2 * v1)) fun v2 => if v2 ≤ a2 then (some ((a1, (S, L)), 0, 0)) else (if isK L c0 12 = true then (bnO (gn_LP_hasColor c0 a2 S L) fun p3 => adC p3.2.1 p3.2.2 (if p3.1.1 = true then (nm (wr (a1 + 1)) fun v8 => nm (wr (a2 + 1)) fun v9 => go (v8, v9, (p3.1.2.1, p3.1.2.2))) else (nm (wr (a1 + 0)) fun v6 => nm (wr (a2 + 1)) fun v7 => go (v6, v7, (p3.1.2.1, p3.1.2.2))))) else none)
def lo2_LP_colored_4 (c0 : Nat) : Nat → Int × Int × LZ → Option ((Int × LZ) × Nat × Nat) := lp fun go p => lb2_LP_colored_4 c0 go p.1 p.2.1 p.2.2.1 p.2.2.2
theorem tl2_LP_colored_4 {sc : SC} {c0 : Nat} {K : Option Value → List PC → Prop} {mc ms kt nt : Nat} (hkt : kt ≤ mc) (hnt : nt ≤ ms) : ∀ (N : Nat) (a : Int × Int × LZ) (q : (Int × LZ) × Nat × Nat), lo2_LP_colored_4 c0 N a = some q → ∀ k n, Bd k n kt nt q → inR a.1 → inR a.2.1 → (inR q.1.1 → GX sc M_LP_colored mc ms 36 [(1, V q.1.1)] [] (wz q.1.2) kt nt K) → GX sc M_LP_colored mc ms 4 [(0, .ref c0), (1, V a.1), (2, V a.2.1)] [] (wz a.2.2) k n K := by
  refine lp_ind2 (P := fun (a : Int × Int × LZ) (q : (Int × LZ) × Nat × Nat) => ∀ k n, Bd k n kt nt q → inR a.1 → inR a.2.1 → (inR q.1.1 → GX sc M_LP_colored mc ms 36 [(1, V q.1.1)] [] (wz q.1.2) kt nt K) → GX sc M_LP_colored mc ms 4 [(0, .ref c0), (1, V a.1), (2, V a.2.1)] [] (wz a.2.2) k n K) (fun go ih a q h => ?_)
  obtain ⟨a1, a2, ⟨S, L⟩⟩ := a
  intro k n hb ha1 ha2 hx
  show GX sc M_LP_colored mc ms 4 [(0, .ref c0), (1, V a1), (2, V a2)] [] (wz (S, L)) k n K
  replace h : lb2_LP_colored_4 c0 go a1 a2 S L = some q := h
  unfold lb2_LP_colored_4 at h
  refine x_iloadn (pc := 4) (i0 := 2) (j := 2) (dK D_LP_colored 4 rfl) rfl rfl ?_
  refine wx_iconst (pc := 5) (dK D_LP_colored 5 rfl) ?_
  refine x_aloadn (pc := 6) (i0 := 0) (j := 0) (dK D_LP_colored 6 rfl) rfl rfl ?_
  refine bnE h ?_
  clear h
  intro v1 e_v1 h
  refine wx_getI (pc := 7) (ci := 12) (f := 0) e_v1 (dK D_LP_colored 7 rfl) q_767 (ltK rfl) (ltK rfl) ?_
  refine wx_imul (pc := 10) (dK D_LP_colored 8 rfl) ?_
  refine nmE h ?_
  clear h
  intro v2 e_v2 h
  refine wtop e_v2 ?_
  refine wx_icmp_ge (pc := 11) (t := 36) (dK D_LP_colored 9 rfl) rfl ha2 (Vn_in e_v2) (fun hc10 => ?_) (fun hc10 => ?_)
  · replace h := ifP h hc10
    obtain rfl := Option.some.inj h
    refine x_weak (ls' := [(1, V a1)]) (sbc 1 rfl sbn) ?_
    refine x_room (bdk hb) (bdn hb) ?_
    exact hx ha1
  · replace h := ifN h hc10
    refine x_iloadn (pc := 14) (i0 := 1) (j := 1) (dK D_LP_colored 10 rfl) rfl rfl ?_
    refine x_aloadn (pc := 15) (i0 := 0) (j := 0) (dK D_LP_colored 11 rfl) rfl rfl ?_
    refine x_iloadn (pc := 16) (i0 := 2) (j := 2) (dK D_LP_colored 12 rfl) rfl rfl ?_
    refine gdE h ?_
    clear h
    intro hk4 h
    refine bnE h ?_
    clear h
    intro p3 e_p3 h
    obtain ⟨yp3, h9, e9⟩ := adE2 h
    clear h
    subst e9
    have h := h9
    clear h9
    have hk1 := Nat.le_trans (bd1 hb) hkt
    have hn1 := Nat.le_trans (bd2 hb) hnt
    replace hb := bdA hb
    refine x_callX (pc := 17) (As := [V a2]) (rest := [V a1]) (mc' := p3.2.1) (ms' := p3.2.2) (dK D_LP_colored 13 rfl) Q_LP_140 sx_LP_hasColor (fitK rfl) (isK_at (Z := (S, L)) (ci := 12) hk4) rfl (leK rfl) hk1 hn1 (tg_LP_hasColor ha2 e_p3) (kxB' ?_)
    refine wx_ifB_eq (pc := 20) (b := p3.1.1) (t := 27) (dK D_LP_colored 14 rfl) rfl (fun hc5 => ?_) (fun hc5 => ?_)
    · replace h := ifP h hc5
      refine wx_iconst (pc := 23) (dK D_LP_colored 15 rfl) ?_
      refine x_goto (pc := 24) (tgt := 28) (dK D_LP_colored 16 rfl) rfl ?_
      refine wx_iadd (pc := 28) (dK D_LP_colored 18 rfl) ?_
      refine nmE h ?_
      clear h
      intro v8 e_v8 h
      refine wtop e_v8 ?_
      refine x_istoren (pc := 29) (i0 := 1) (ls2 := [(1, V v8), (0, .ref c0), (2, V a2)]) (dK D_LP_colored 19 rfl) rfl (ltK rfl) rfl ?_
      refine nmE h ?_
      clear h
      intro v9 e_v9 h
      refine wx_iinc (pc := 30) (j := 2) (a := a2) (z := 1) (ls2 := [(2, V v9), (1, V v8), (0, .ref c0)]) (dK D_LP_colored 20 rfl) rfl e_v9 (ltK rfl) rfl ?_
      refine x_goto (pc := 33) (tgt := 4) (dK D_LP_colored 21 rfl) rfl ?_
      refine x_weak (ls' := [(0, .ref c0), (1, V v8), (2, V v9)]) (sbc 2 rfl (sbc 1 rfl (sbc 0 rfl sbn))) ?_
      replace h := ih _ _ h
      exact h _ _ hb (Vn_in e_v8) (Vn_in e_v9) hx
    · replace h := ifN h hc5
      refine wx_iconst (pc := 27) (dK D_LP_colored 17 rfl) ?_
      refine wx_iadd (pc := 28) (dK D_LP_colored 18 rfl) ?_
      refine nmE h ?_
      clear h
      intro v6 e_v6 h
      refine wtop e_v6 ?_
      refine x_istoren (pc := 29) (i0 := 1) (ls2 := [(1, V v6), (0, .ref c0), (2, V a2)]) (dK D_LP_colored 19 rfl) rfl (ltK rfl) rfl ?_
      refine nmE h ?_
      clear h
      intro v7 e_v7 h
      refine wx_iinc (pc := 30) (j := 2) (a := a2) (z := 1) (ls2 := [(2, V v7), (1, V v6), (0, .ref c0)]) (dK D_LP_colored 20 rfl) rfl e_v7 (ltK rfl) rfl ?_
      refine x_goto (pc := 33) (tgt := 4) (dK D_LP_colored 21 rfl) rfl ?_
      refine x_weak (ls' := [(0, .ref c0), (1, V v6), (2, V v7)]) (sbc 2 rfl (sbc 1 rfl (sbc 0 rfl sbn))) ?_
      replace h := ih _ _ h
      exact h _ _ hb (Vn_in e_v6) (Vn_in e_v7) hx
def gn_LP_colored (c0 : Nat) (S : St) (L : List PC) : Option ((Int × LZ) × Nat × Nat) := bnO (lo2_LP_colored_4 c0 FU (0, 0, (S, L))) fun p11 => adC p11.2.1 p11.2.2 (some ((p11.1.1, (p11.1.2.1, p11.1.2.2)), 0, 0))
theorem te_LP_colored {sc : SC} {c0 : Nat} {S : St} {L : List PC} {q : (Int × LZ) × Nat × Nat} (h : gn_LP_colored c0 S L = some q) {mc ms k n : Nat} (hb : Bd k n mc ms q) : GX sc M_LP_colored mc ms 0 [(0, .ref c0)] [] (wz (S, L)) k n (KXI q.1.1 q.1.2) := by
  unfold gn_LP_colored at h
  refine wx_iconst (pc := 0) (dK D_LP_colored 0 rfl) ?_
  refine x_istoren (pc := 1) (i0 := 1) (ls2 := [(1, V 0), (0, .ref c0)]) (dK D_LP_colored 1 rfl) rfl (ltK rfl) rfl ?_
  refine wx_iconst (pc := 2) (dK D_LP_colored 2 rfl) ?_
  refine x_istoren (pc := 3) (i0 := 2) (ls2 := [(2, V 0), (1, V 0), (0, .ref c0)]) (dK D_LP_colored 3 rfl) rfl (ltK rfl) rfl ?_
  refine bnE h ?_
  clear h
  intro p11 e_p11 h
  obtain ⟨yp11, h9, e9⟩ := adE2 h
  clear h
  subst e9
  have h := h9
  clear h9
  have hk1 := bd1 hb
  have hn1 := bd2 hb
  replace hb := bdA hb
  refine x_weak (ls' := [(0, .ref c0), (1, V 0), (2, V 0)]) (sbc 2 rfl (sbc 1 rfl (sbc 0 rfl sbn))) ?_
  refine tl2_LP_colored_4  hk1 hn1 FU _ _ e_p11 _ _ ⟨Nat.le_refl _, Nat.le_refl _⟩ (inRk rfl) (inRk rfl) (fun hx1_p11 => ?_)
  refine x_iloadn (pc := 36) (i0 := 1) (j := 0) (dK D_LP_colored 22 rfl) rfl rfl ?_
  obtain rfl := Option.some.inj h
  exact wk_iretI (pc := 37) (dK D_LP_colored 23 rfl) rfl (bdk hb) (bdn hb) ⟨rfl, hx1_p11, rfl⟩
theorem tg_LP_colored {sc : SC} {c0 : Nat} {S : St} {L : List PC} {q : (Int × LZ) × Nat × Nat} (h : gn_LP_colored c0 S L = some q) : EvX sc M_LP_colored [.ref c0] (wz (S, L)) q.2.1 q.2.2 (KXI q.1.1 q.1.2) := EvX.of pn2_LP rfl (leK rfl) (te_LP_colored  h ⟨Nat.le_of_eq (Nat.zero_add _), Nat.le_of_eq (Nat.zero_add _)⟩)
