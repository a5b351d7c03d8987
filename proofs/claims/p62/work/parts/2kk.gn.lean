def lb2_Law_statements_4 (c0 : Nat) (S : St) (L : List PC) (go : Int × Int → Option (Int)) (a1 : Int) (a2 : Int) : Option (Int) := if isK L c0 16 = true then (bnO (gn_String_length c0 S L) fun p1 => if p1 ≤ a2 then (some a1) else (if isK L c0 16 = true then (bnO (gn_String_charAt c0 a2 S L) fun p3 => if p3 = 59 then (nm (wr (a1 + 1)) fun v7 => nm (wr (a2 + 1)) fun v8 => go (v7, v8)) else (nm (wr (a1 + 0)) fun v5 => nm (wr (a2 + 1)) fun v6 => go (v5, v6))) else none)) else none
def lo2_Law_statements_4 (c0 : Nat) (S : St) (L : List PC) : Nat → Int × Int → Option (Int) := lp fun go p => lb2_Law_statements_4 c0 S L go p.1 p.2
theorem tl2_Law_statements_4 {sc : SC} {c0 : Nat} {K : Option Value → List PC → Prop} {S : St} {L : List PC} {mc ms k n : Nat} (hk0 : k ≤ mc) (hn0 : n ≤ ms) : ∀ (N : Nat) (a : Int × Int) (q : Int), lo2_Law_statements_4 c0 S L N a = some q → inR a.1 → inR a.2 → (inR q → GX sc M_Law_statements mc ms 36 [(1, V q)] [] (wz (S, L)) k n K) → GX sc M_Law_statements mc ms 4 [(0, .ref c0), (1, V a.1), (2, V a.2)] [] (wz (S, L)) k n K := by
  refine lp_ind2 (P := fun (a : Int × Int) (q : Int) => inR a.1 → inR a.2 → (inR q → GX sc M_Law_statements mc ms 36 [(1, V q)] [] (wz (S, L)) k n K) → GX sc M_Law_statements mc ms 4 [(0, .ref c0), (1, V a.1), (2, V a.2)] [] (wz (S, L)) k n K) (fun go ih a q h => ?_)
  obtain ⟨a1, a2⟩ := a
  intro ha1 ha2 hx
  show GX sc M_Law_statements mc ms 4 [(0, .ref c0), (1, V a1), (2, V a2)] [] (wz (S, L)) k n K
  replace h : lb2_Law_statements_4 c0 S L go a1 a2 = some q := h
  unfold lb2_Law_statements_4 at h
  refine x_iloadn (pc := 4) (i0 := 2) (j := 2) (dK D_Law_statements 4 rfl) rfl rfl ?_
  refine x_aloadn (pc := 5) (i0 := 0) (j := 0) (dK D_Law_statements 5 rfl) rfl rfl ?_
  refine gdE h ?_
  clear h
  intro hk2 h
  refine bnE h ?_
  clear h
  intro p1 e_p1 h
  refine x_callX (pc := 6) (As := []) (rest := [V a2]) (mc' := 0) (ms' := 0) (dK D_Law_statements 6 rfl) Q_Law_14 sx_String_length (fitK rfl) (isK_at (Z := (S, L)) (ci := 16) hk2) rfl (leK rfl) hk0 hn0 (tg_String_length  e_p1) (kxI' (fun h_p1 => ?_))
  refine wx_icmp_ge (pc := 9) (t := 36) (dK D_Law_statements 7 rfl) rfl ha2 h_p1 (fun hc10 => ?_) (fun hc10 => ?_)
  · replace h := ifP h hc10
    obtain rfl := Option.some.inj h
    refine x_weak (ls' := [(1, V a1)]) (sbc 1 rfl sbn) ?_
    exact hx ha1
  · replace h := ifN h hc10
    refine x_iloadn (pc := 12) (i0 := 1) (j := 1) (dK D_Law_statements 8 rfl) rfl rfl ?_
    refine x_aloadn (pc := 13) (i0 := 0) (j := 0) (dK D_Law_statements 9 rfl) rfl rfl ?_
    refine x_iloadn (pc := 14) (i0 := 2) (j := 2) (dK D_Law_statements 10 rfl) rfl rfl ?_
    refine gdE h ?_
    clear h
    intro hk4 h
    refine bnE h ?_
    clear h
    intro p3 e_p3 h
    refine x_callX (pc := 15) (As := [V a2]) (rest := [V a1]) (mc' := 0) (ms' := 0) (dK D_Law_statements 11 rfl) Q_Law_20 sx_String_charAt (fitK rfl) (isK_at (Z := (S, L)) (ci := 16) hk4) rfl (leK rfl) hk0 hn0 (tg_String_charAt ha2 e_p3) (kxI' (fun h_p3 => ?_))
    refine wx_bipush (pc := 18) (dK D_Law_statements 12 rfl) rfl ?_
    refine wx_icmp_ne (pc := 20) (t := 27) (dK D_Law_statements 13 rfl) rfl h_p3 (inRk rfl) (fun hc9 => ?_) (fun hc9 => ?_)
    · replace h := ifN h hc9
      refine wx_iconst (pc := 27) (dK D_Law_statements 16 rfl) ?_
      refine wx_iadd (pc := 28) (dK D_Law_statements 17 rfl) ?_
      refine nmE h ?_
      clear h
      intro v5 e_v5 h
      refine wtop e_v5 ?_
      refine x_istoren (pc := 29) (i0 := 1) (ls2 := [(1, V v5), (0, .ref c0), (2, V a2)]) (dK D_Law_statements 18 rfl) rfl (ltK rfl) rfl ?_
      refine nmE h ?_
      clear h
      intro v6 e_v6 h
      refine wx_iinc (pc := 30) (j := 2) (a := a2) (z := 1) (ls2 := [(2, V v6), (1, V v5), (0, .ref c0)]) (dK D_Law_statements 19 rfl) rfl e_v6 (ltK rfl) rfl ?_
      refine x_goto (pc := 33) (tgt := 4) (dK D_Law_statements 20 rfl) rfl ?_
      refine x_weak (ls' := [(0, .ref c0), (1, V v5), (2, V v6)]) (sbc 2 rfl (sbc 1 rfl (sbc 0 rfl sbn))) ?_
      replace h := ih _ _ h
      exact h (Vn_in e_v5) (Vn_in e_v6) hx
    · replace h := ifP h hc9
      refine wx_iconst (pc := 23) (dK D_Law_statements 14 rfl) ?_
      refine x_goto (pc := 24) (tgt := 28) (dK D_Law_statements 15 rfl) rfl ?_
      refine wx_iadd (pc := 28) (dK D_Law_statements 17 rfl) ?_
      refine nmE h ?_
      clear h
      intro v7 e_v7 h
      refine wtop e_v7 ?_
      refine x_istoren (pc := 29) (i0 := 1) (ls2 := [(1, V v7), (0, .ref c0), (2, V a2)]) (dK D_Law_statements 18 rfl) rfl (ltK rfl) rfl ?_
      refine nmE h ?_
      clear h
      intro v8 e_v8 h
      refine wx_iinc (pc := 30) (j := 2) (a := a2) (z := 1) (ls2 := [(2, V v8), (1, V v7), (0, .ref c0)]) (dK D_Law_statements 19 rfl) rfl e_v8 (ltK rfl) rfl ?_
      refine x_goto (pc := 33) (tgt := 4) (dK D_Law_statements 20 rfl) rfl ?_
      refine x_weak (ls' := [(0, .ref c0), (1, V v7), (2, V v8)]) (sbc 2 rfl (sbc 1 rfl (sbc 0 rfl sbn))) ?_
      replace h := ih _ _ h
      exact h (Vn_in e_v7) (Vn_in e_v8) hx
def gn_Law_statements (c0 : Nat) (S : St) (L : List PC) : Option (Int) := bnO (lo2_Law_statements_4 c0 S L FU (0, 0)) fun p11 => nm (wr (p11 - 1)) fun v12 => some v12
theorem te_Law_statements {sc : SC} {c0 : Nat} {S : St} {L : List PC} {q : Int} (h : gn_Law_statements c0 S L = some q) {mc ms k n : Nat} (hk0 : k ≤ mc) (hn0 : n ≤ ms) : GX sc M_Law_statements mc ms 0 [(0, .ref c0)] [] (wz (S, L)) k n (KXI q (S, L)) := by
  unfold gn_Law_statements at h
  refine wx_iconst (pc := 0) (dK D_Law_statements 0 rfl) ?_
  refine x_istoren (pc := 1) (i0 := 1) (ls2 := [(1, V 0), (0, .ref c0)]) (dK D_Law_statements 1 rfl) rfl (ltK rfl) rfl ?_
  refine wx_iconst (pc := 2) (dK D_Law_statements 2 rfl) ?_
  refine x_istoren (pc := 3) (i0 := 2) (ls2 := [(2, V 0), (1, V 0), (0, .ref c0)]) (dK D_Law_statements 3 rfl) rfl (ltK rfl) rfl ?_
  refine bnE h ?_
  clear h
  intro p11 e_p11 h
  refine x_weak (ls' := [(0, .ref c0), (1, V 0), (2, V 0)]) (sbc 2 rfl (sbc 1 rfl (sbc 0 rfl sbn))) ?_
  refine tl2_Law_statements_4  hk0 hn0 FU _ _ e_p11 (inRk rfl) (inRk rfl) (fun hx1_p11 => ?_)
  refine x_iloadn (pc := 36) (i0 := 1) (j := 0) (dK D_Law_statements 21 rfl) rfl rfl ?_
  refine wx_iconst (pc := 37) (dK D_Law_statements 22 rfl) ?_
  refine wx_isub (pc := 38) (dK D_Law_statements 23 rfl) ?_
  refine nmE h ?_
  clear h
  intro v12 e_v12 h
  refine wtop e_v12 ?_
  obtain rfl := Option.some.inj h
  exact wk_iretI (pc := 39) (dK D_Law_statements 24 rfl) rfl hk0 hn0 ⟨rfl, (Vn_in e_v12), rfl⟩
theorem tg_Law_statements {sc : SC} {c0 : Nat} {S : St} {L : List PC} {q : Int} (h : gn_Law_statements c0 S L = some q) : EvX sc M_Law_statements [.ref c0] (wz (S, L)) 0 0 (KXI q (S, L)) := EvX.of pn2_Law rfl (leK rfl) (te_Law_statements  h (Nat.le_refl _) (Nat.le_refl _))
def lb2_LP_shut_2 (c0 : Nat) (c1 : Nat) (S : St) (L : List PC) (go : Int → Option ((Bool) ⊕ (Unit))) (a2 : Int) : Option ((Bool) ⊕ (Unit)) := bnO (gfI L c0 12 0) fun v1 => nm (wr (2 * v1)) fun v2 => if v2 ≤ a2 then (some (.inr ())) else (bnO (gfV L c0 12 8) fun v3 => rfB v3 fun r4 => bnO (ald L 2 r4 a2) fun v5 => if v5 = 0 then (nm (wr (a2 + 1)) fun v6 => go v6) else (if isK L c0 12 = true then (bnO (gn_LP_touches c0 c1 a2 S L) fun p7 => if p7 = true then (some (.inl true)) else (nm (wr (a2 + 1)) fun v10 => go v10)) else none))
def lo2_LP_shut_2 (c0 : Nat) (c1 : Nat) (S : St) (L : List PC) : Nat → Int → Option ((Bool) ⊕ (Unit)) := lp fun go p => lb2_LP_shut_2 c0 c1 S L go p
theorem tl2_LP_shut_2 {sc : SC} {c0 : Nat} {c1 : Nat} {K : Option Value → List PC → Prop} {S : St} {L : List PC} {mc ms k n : Nat} (hk0 : k ≤ mc) (hn0 : n ≤ ms) : ∀ (N : Nat) (a : Int) (q : (Bool) ⊕ (Unit)), lo2_LP_shut_2 c0 c1 S L N a = some q → inR a → (∀ e, q = .inr e → GX sc M_LP_shut mc ms 38 [] [] (wz (S, L)) k n K) → (∀ r, q = .inl r → K (some (V (bi r))) (wz (S, L))) → GX sc M_LP_shut mc ms 2 [(0, .ref c0), (1, .ref c1), (2, V a)] [] (wz (S, L)) k n K := by
  refine lp_ind2 (P := fun (a : Int) (q : (Bool) ⊕ (Unit)) => inR a → (∀ e, q = .inr e → GX sc M_LP_shut mc ms 38 [] [] (wz (S, L)) k n K) → (∀ r, q = .inl r → K (some (V (bi r))) (wz (S, L))) → GX sc M_LP_shut mc ms 2 [(0, .ref c0), (1, .ref c1), (2, V a)] [] (wz (S, L)) k n K) (fun go ih a q h => ?_)
  revert h; generalize a = a2; intro h
  intro ha2 hx hr
  show GX sc M_LP_shut mc ms 2 [(0, .ref c0), (1, .ref c1), (2, V a2)] [] (wz (S, L)) k n K
  replace h : lb2_LP_shut_2 c0 c1 S L go a2 = some q := h
  unfold lb2_LP_shut_2 at h
  refine x_iloadn (pc := 2) (i0 := 2) (j := 2) (dK D_LP_shut 2 rfl) rfl rfl ?_
  refine wx_iconst (pc := 3) (dK D_LP_shut 3 rfl) ?_
  refine x_aloadn (pc := 4) (i0 := 0) (j := 0) (dK D_LP_shut 4 rfl) rfl rfl ?_
  refine bnE h ?_
  clear h
  intro v1 e_v1 h
  refine wx_getI (pc := 5) (ci := 12) (f := 0) e_v1 (dK D_LP_shut 5 rfl) q_767 (ltK rfl) (ltK rfl) ?_
  refine wx_imul (pc := 8) (dK D_LP_shut 6 rfl) ?_
  refine nmE h ?_
  clear h
  intro v2 e_v2 h
  refine wtop e_v2 ?_
  refine wx_icmp_ge (pc := 9) (t := 38) (dK D_LP_shut 7 rfl) rfl ha2 (Vn_in e_v2) (fun hc12 => ?_) (fun hc12 => ?_)
  · replace h := ifP h hc12
    obtain rfl := Option.some.inj h
    refine x_weak (ls' := []) sbn ?_
    exact hx () rfl
  · replace h := ifN h hc12
    refine x_aloadn (pc := 12) (i0 := 0) (j := 0) (dK D_LP_shut 8 rfl) rfl rfl ?_
    refine bnE h ?_
    clear h
    intro v3 e_v3 h
    refine wx_getV (pc := 13) (ci := 12) (f := 8) e_v3 (dK D_LP_shut 9 rfl) q_783 (ltK rfl) (ltK rfl) (fun hv3 => ?_)
    refine x_iloadn (pc := 16) (i0 := 2) (j := 2) (dK D_LP_shut 10 rfl) rfl rfl ?_
    refine rfE h ?_
    clear h
    intro r4 e_r4 h
    rw [e_r4]
    refine bnE h ?_
    clear h
    intro v5 e_v5 h
    refine wx_zald (pc := 17) e_v5 ha2 (dK D_LP_shut 11 rfl) ?_
    refine wx_if_eq (pc := 18) (t := 32) (dK D_LP_shut 12 rfl) rfl (vI_at e_v5).2 (fun hc11 => ?_) (fun hc11 => ?_)
    · replace h := ifP h hc11
      refine nmE h ?_
      clear h
      intro v6 e_v6 h
      refine wx_iinc (pc := 32) (j := 2) (a := a2) (z := 1) (ls2 := [(2, V v6), (0, .ref c0), (1, .ref c1)]) (dK D_LP_shut 20 rfl) rfl e_v6 (ltK rfl) rfl ?_
      refine x_goto (pc := 35) (tgt := 2) (dK D_LP_shut 21 rfl) rfl ?_
      refine x_weak (ls' := [(0, .ref c0), (1, .ref c1), (2, V v6)]) (sbc 1 rfl (sbc 2 rfl (sbc 0 rfl sbn))) ?_
      replace h := ih _ _ h
      exact h (Vn_in e_v6) hx hr
    · replace h := ifN h hc11
      refine x_aloadn (pc := 21) (i0 := 0) (j := 0) (dK D_LP_shut 13 rfl) rfl rfl ?_
      refine x_aloadn (pc := 22) (i0 := 1) (j := 1) (dK D_LP_shut 14 rfl) rfl rfl ?_
      refine x_iloadn (pc := 23) (i0 := 2) (j := 2) (dK D_LP_shut 15 rfl) rfl rfl ?_
      refine gdE h ?_
      clear h
      intro hk8 h
      refine bnE h ?_
      clear h
      intro p7 e_p7 h
      refine x_callX (pc := 24) (As := [.ref c1, V a2]) (rest := []) (mc' := 0) (ms' := 0) (dK D_LP_shut 16 rfl) Q_LP_137 sx_LP_touches (fitK rfl) (isK_at (Z := (S, L)) (ci := 12) hk8) rfl (leK rfl) hk0 hn0 (tg_LP_touches ha2 e_p7) (kxB' ?_)
      refine wx_ifB_eq (pc := 27) (b := p7) (t := 32) (dK D_LP_shut 17 rfl) rfl (fun hc9 => ?_) (fun hc9 => ?_)
      · replace h := ifP h hc9
        refine wx_iconst (pc := 30) (dK D_LP_shut 18 rfl) ?_
        obtain rfl := Option.some.inj h
        exact wk_iretB (pc := 31) (b := true) (dK D_LP_shut 19 rfl) rfl hk0 hn0 (hr true rfl)
      · replace h := ifN h hc9
        refine nmE h ?_
        clear h
        intro v10 e_v10 h
        refine wx_iinc (pc := 32) (j := 2) (a := a2) (z := 1) (ls2 := [(2, V v10), (0, .ref c0), (1, .ref c1)]) (dK D_LP_shut 20 rfl) rfl e_v10 (ltK rfl) rfl ?_
        refine x_goto (pc := 35) (tgt := 2) (dK D_LP_shut 21 rfl) rfl ?_
        refine x_weak (ls' := [(0, .ref c0), (1, .ref c1), (2, V v10)]) (sbc 1 rfl (sbc 2 rfl (sbc 0 rfl sbn))) ?_
        replace h := ih _ _ h
        exact h (Vn_in e_v10) hx hr
def gn_LP_shut (c0 : Nat) (c1 : Nat) (S : St) (L : List PC) : Option (Bool) := bnS (lo2_LP_shut_2 c0 c1 S L FU 0) (fun r14 => some r14) fun e15 => some false
theorem te_LP_shut {sc : SC} {c0 : Nat} {c1 : Nat} {S : St} {L : List PC} {q : Bool} (h : gn_LP_shut c0 c1 S L = some q) {mc ms k n : Nat} (hk0 : k ≤ mc) (hn0 : n ≤ ms) : GX sc M_LP_shut mc ms 0 [(0, .ref c0), (1, .ref c1)] [] (wz (S, L)) k n (KXB q (S, L)) := by
  unfold gn_LP_shut at h
  refine wx_iconst (pc := 0) (dK D_LP_shut 0 rfl) ?_
  refine x_istoren (pc := 1) (i0 := 2) (ls2 := [(2, V 0), (0, .ref c0), (1, .ref c1)]) (dK D_LP_shut 1 rfl) rfl (ltK rfl) rfl ?_
  refine bnSE h ?_ ?_
  · clear h
    intro r14 e_p13 h
    refine x_weak (ls' := [(0, .ref c0), (1, .ref c1), (2, V 0)]) (sbc 1 rfl (sbc 2 rfl (sbc 0 rfl sbn))) ?_
    refine tl2_LP_shut_2  hk0 hn0 FU _ _ e_p13 (inRk rfl) (fun _ g_ => nomatch g_) (fun r_ g_  => ?_)
    obtain rfl := Sum.inl.inj g_
    obtain rfl := Option.some.inj h
    exact ⟨rfl, rfl⟩
  · clear h
    intro e15 e_p13 h
    refine x_weak (ls' := [(0, .ref c0), (1, .ref c1), (2, V 0)]) (sbc 1 rfl (sbc 2 rfl (sbc 0 rfl sbn))) ?_
    refine tl2_LP_shut_2  hk0 hn0 FU _ _ e_p13 (inRk rfl) (fun e_ g_  => ?_) (fun _ g_ => nomatch g_)
    obtain rfl := Sum.inr.inj g_
    refine wx_iconst (pc := 38) (dK D_LP_shut 22 rfl) ?_
    obtain rfl := Option.some.inj h
    exact wk_iretB (pc := 39) (b := false) (dK D_LP_shut 23 rfl) rfl hk0 hn0 ⟨rfl, rfl⟩
theorem tg_LP_shut {sc : SC} {c0 : Nat} {c1 : Nat} {S : St} {L : List PC} {q : Bool} (h : gn_LP_shut c0 c1 S L = some q) : EvX sc M_LP_shut [.ref c0, .ref c1] (wz (S, L)) 0 0 (KXB q (S, L)) := EvX.of pn2_LP rfl (leK rfl) (te_LP_shut  h (Nat.le_refl _) (Nat.le_refl _))
def lb2_Law_places_48 (c0 : Nat) (c1 : Nat) (c2 : Nat) (c3 : Nat) (S : St) (L : List PC) (go : Int → Option (Int)) (a4 : Int) : Option (Int) := if isK L c1 13 = true then (bnO (gn_AL_size c1 S L) fun p19 => if p19 ≤ a4 then (some a4) else (if isK L c1 13 = true then (bnO (gn_AL_get c1 a4 S L) fun p21 => rfB p21 fun r23 => if isK L r23 11 = true then (bnO (gfI L r23 11 3) fun v25 => bnO (gfI L c3 11 3) fun v26 => if v26 < v25 then (nm (wr (a4 + 1)) fun v27 => go v27) else (if isK L c1 13 = true then (bnO (gn_AL_get c1 a4 S L) fun p28 => rfB p28 fun r30 => if isK L r30 11 = true then (bnO (gfI L r30 11 3) fun v32 => bnO (gfI L c3 11 3) fun v33 => if v32 = v33 then (if isK L c1 13 = true then (bnO (gn_AL_get c1 a4 S L) fun p34 => rfB p34 fun r36 => if isK L r36 11 = true then (bnO (gfI L r36 11 0) fun v38 => bnO (gfI L c3 11 0) fun v39 => if v38 < v39 then (some a4) else (nm (wr (a4 + 1)) fun v40 => go v40)) else none) else none) else (some a4)) else none) else none)) else none) else none)) else none
def lo2_Law_places_48 (c0 : Nat) (c1 : Nat) (c2 : Nat) (c3 : Nat) (S : St) (L : List PC) : Nat → Int → Option (Int) := lp fun go p => lb2_Law_places_48 c0 c1 c2 c3 S L go p
theorem tl2_Law_places_48 {sc : SC} {c0 : Nat} {c1 : Nat} {c2 : Nat} {c3 : Nat} {K : Option Value → List PC → Prop} {S : St} {L : List PC} {mc ms k n : Nat} (hk0 : k ≤ mc) (hn0 : n ≤ ms) : ∀ (N : Nat) (a : Int) (q : Int), lo2_Law_places_48 c0 c1 c2 c3 S L N a = some q → inR a → (inR q → GX sc M_Law_places mc ms 120 [(0, .ref c0), (1, .ref c1), (2, .ref c2), (3, .ref c3), (4, V q)] [] (wz (S, L)) k n K) → GX sc M_Law_places mc ms 48 [(0, .ref c0), (1, .ref c1), (2, .ref c2), (3, .ref c3), (4, V a)] [] (wz (S, L)) k n K := by
  refine lp_ind2 (P := fun (a : Int) (q : Int) => inR a → (inR q → GX sc M_Law_places mc ms 120 [(0, .ref c0), (1, .ref c1), (2, .ref c2), (3, .ref c3), (4, V q)] [] (wz (S, L)) k n K) → GX sc M_Law_places mc ms 48 [(0, .ref c0), (1, .ref c1), (2, .ref c2), (3, .ref c3), (4, V a)] [] (wz (S, L)) k n K) (fun go ih a q h => ?_)
  revert h; generalize a = a4; intro h
  intro ha4 hx
  show GX sc M_Law_places mc ms 48 [(0, .ref c0), (1, .ref c1), (2, .ref c2), (3, .ref c3), (4, V a4)] [] (wz (S, L)) k n K
  replace h : lb2_Law_places_48 c0 c1 c2 c3 S L go a4 = some q := h
  unfold lb2_Law_places_48 at h
  refine x_iload (pc := 48) (j := 4) (dK D_Law_places_0 21 rfl) rfl ?_
  refine x_aloadn (pc := 50) (i0 := 1) (j := 1) (dK D_Law_places_0 22 rfl) rfl rfl ?_
  refine gdE h ?_
  clear h
  intro hk20 h
  refine bnE h ?_
  clear h
  intro p19 e_p19 h
  refine x_callX (pc := 51) (As := []) (rest := [V a4]) (mc' := 0) (ms' := 0) (dK D_Law_places_0 23 rfl) Q_Law_55 sx_AL_size (fitK rfl) (isK_at (Z := (S, L)) (ci := 13) hk20) rfl (leK rfl) hk0 hn0 (tg_AL_size  e_p19) (kxI' (fun h_p19 => ?_))
  refine wx_icmp_ge (pc := 54) (t := 120) (dK D_Law_places_0 24 rfl) rfl ha4 h_p19 (fun hc44 => ?_) (fun hc44 => ?_)
  · replace h := ifP h hc44
    obtain rfl := Option.some.inj h
    exact hx ha4
  · replace h := ifN h hc44
    refine x_aloadn (pc := 57) (i0 := 1) (j := 1) (dK D_Law_places_0 25 rfl) rfl rfl ?_
    refine x_iload (pc := 58) (j := 4) (dK D_Law_places_0 26 rfl) rfl ?_
    refine gdE h ?_
    clear h
    intro hk22 h
    refine bnE h ?_
    clear h
    intro p21 e_p21 h
    refine x_callX (pc := 60) (As := [V a4]) (rest := []) (mc' := 0) (ms' := 0) (dK D_Law_places_0 27 rfl) Q_Law_69 sx_AL_get (fitK rfl) (isK_at (Z := (S, L)) (ci := 13) hk22) rfl (leK rfl) hk0 hn0 (tg_AL_get ha4 e_p21) (kxR (fun h_p21 => ?_))
    refine rfE h ?_
    clear h
    intro r23 e_r23 h
    rw [e_r23]
    refine gdE h ?_
    clear h
    intro hk24 h
    refine x_cast (pc := 63) (dK D_Law_places_0 28 rfl) q_1033 (isK_at (Z := (S, L)) (ci := 11) hk24) ?_
    refine bnE h ?_
    clear h
    intro v25 e_v25 h
    refine wx_getI (pc := 66) (ci := 11) (f := 3) e_v25 (dK D_Law_places_0 29 rfl) q_882 (ltK rfl) (ltK rfl) ?_
    refine x_aloadn (pc := 69) (i0 := 3) (j := 3) (dK D_Law_places_0 30 rfl) rfl rfl ?_
    refine bnE h ?_
    clear h
    intro v26 e_v26 h
    refine wx_getI (pc := 70) (ci := 11) (f := 3) e_v26 (dK D_Law_places_0 31 rfl) q_882 (ltK rfl) (ltK rfl) ?_
    refine wx_icmp_gt (pc := 73) (t := 114) (dK D_Law_places_0 32 rfl) rfl (vI_at e_v25).2 (vI_at e_v26).2 (fun hc43 => ?_) (fun hc43 => ?_)
    · replace h := ifP h hc43
      refine nmE h ?_
      clear h
      intro v27 e_v27 h
      refine wx_iinc (pc := 114) (j := 4) (a := a4) (z := 1) (ls2 := [(4, V v27), (0, .ref c0), (1, .ref c1), (2, .ref c2), (3, .ref c3)]) (dK D_Law_places_0 49 rfl) rfl e_v27 (ltK rfl) rfl ?_
      refine x_goto (pc := 117) (tgt := 48) (dK D_Law_places_1 0 rfl) rfl ?_
      refine x_weak (ls' := [(0, .ref c0), (1, .ref c1), (2, .ref c2), (3, .ref c3), (4, V v27)]) (sbc 1 rfl (sbc 2 rfl (sbc 3 rfl (sbc 4 rfl (sbc 0 rfl sbn))))) ?_
      replace h := ih _ _ h
      exact h (Vn_in e_v27) hx
    · replace h := ifN h hc43
      refine x_aloadn (pc := 76) (i0 := 1) (j := 1) (dK D_Law_places_0 33 rfl) rfl rfl ?_
      refine x_iload (pc := 77) (j := 4) (dK D_Law_places_0 34 rfl) rfl ?_
      refine gdE h ?_
      clear h
      intro hk29 h
      refine bnE h ?_
      clear h
      intro p28 e_p28 h
      refine x_callX (pc := 79) (As := [V a4]) (rest := []) (mc' := 0) (ms' := 0) (dK D_Law_places_0 35 rfl) Q_Law_69 sx_AL_get (fitK rfl) (isK_at (Z := (S, L)) (ci := 13) hk29) rfl (leK rfl) hk0 hn0 (tg_AL_get ha4 e_p28) (kxR (fun h_p28 => ?_))
      refine rfE h ?_
      clear h
      intro r30 e_r30 h
      rw [e_r30]
      refine gdE h ?_
      clear h
      intro hk31 h
      refine x_cast (pc := 82) (dK D_Law_places_0 36 rfl) q_1033 (isK_at (Z := (S, L)) (ci := 11) hk31) ?_
      refine bnE h ?_
      clear h
      intro v32 e_v32 h
      refine wx_getI (pc := 85) (ci := 11) (f := 3) e_v32 (dK D_Law_places_0 37 rfl) q_882 (ltK rfl) (ltK rfl) ?_
      refine x_aloadn (pc := 88) (i0 := 3) (j := 3) (dK D_Law_places_0 38 rfl) rfl rfl ?_
      refine bnE h ?_
      clear h
      intro v33 e_v33 h
      refine wx_getI (pc := 89) (ci := 11) (f := 3) e_v33 (dK D_Law_places_0 39 rfl) q_882 (ltK rfl) (ltK rfl) ?_
      refine wx_icmp_ne (pc := 92) (t := 120) (dK D_Law_places_0 40 rfl) rfl (vI_at e_v32).2 (vI_at e_v33).2 (fun hc42 => ?_) (fun hc42 => ?_)
      · replace h := ifN h hc42
        obtain rfl := Option.some.inj h
        exact hx ha4
      · replace h := ifP h hc42
        refine x_aloadn (pc := 95) (i0 := 1) (j := 1) (dK D_Law_places_0 41 rfl) rfl rfl ?_
        refine x_iload (pc := 96) (j := 4) (dK D_Law_places_0 42 rfl) rfl ?_
        refine gdE h ?_
        clear h
        intro hk35 h
        refine bnE h ?_
        clear h
        intro p34 e_p34 h
        refine x_callX (pc := 98) (As := [V a4]) (rest := []) (mc' := 0) (ms' := 0) (dK D_Law_places_0 43 rfl) Q_Law_69 sx_AL_get (fitK rfl) (isK_at (Z := (S, L)) (ci := 13) hk35) rfl (leK rfl) hk0 hn0 (tg_AL_get ha4 e_p34) (kxR (fun h_p34 => ?_))
        refine rfE h ?_
        clear h
        intro r36 e_r36 h
        rw [e_r36]
        refine gdE h ?_
        clear h
        intro hk37 h
        refine x_cast (pc := 101) (dK D_Law_places_0 44 rfl) q_1033 (isK_at (Z := (S, L)) (ci := 11) hk37) ?_
        refine bnE h ?_
        clear h
        intro v38 e_v38 h
        refine wx_getI (pc := 104) (ci := 11) (f := 0) e_v38 (dK D_Law_places_0 45 rfl) q_874 (ltK rfl) (ltK rfl) ?_
        refine x_aloadn (pc := 107) (i0 := 3) (j := 3) (dK D_Law_places_0 46 rfl) rfl rfl ?_
        refine bnE h ?_
        clear h
        intro v39 e_v39 h
        refine wx_getI (pc := 108) (ci := 11) (f := 0) e_v39 (dK D_Law_places_0 47 rfl) q_874 (ltK rfl) (ltK rfl) ?_
        refine wx_icmp_lt (pc := 111) (t := 120) (dK D_Law_places_0 48 rfl) rfl (vI_at e_v38).2 (vI_at e_v39).2 (fun hc41 => ?_) (fun hc41 => ?_)
        · replace h := ifP h hc41
          obtain rfl := Option.some.inj h
          exact hx ha4
        · replace h := ifN h hc41
          refine nmE h ?_
          clear h
          intro v40 e_v40 h
          refine wx_iinc (pc := 114) (j := 4) (a := a4) (z := 1) (ls2 := [(4, V v40), (0, .ref c0), (1, .ref c1), (2, .ref c2), (3, .ref c3)]) (dK D_Law_places_0 49 rfl) rfl e_v40 (ltK rfl) rfl ?_
          refine x_goto (pc := 117) (tgt := 48) (dK D_Law_places_1 0 rfl) rfl ?_
          refine x_weak (ls' := [(0, .ref c0), (1, .ref c1), (2, .ref c2), (3, .ref c3), (4, V v40)]) (sbc 1 rfl (sbc 2 rfl (sbc 3 rfl (sbc 4 rfl (sbc 0 rfl sbn))))) ?_
          replace h := ih _ _ h
          exact h (Vn_in e_v40) hx
def lb2_Law_places_16 (c0 : Nat) (c1 : Nat) (c2 : Nat) (go : LZ → Option ((LZ) × Nat × Nat))  (S : St) (L : List PC) : Option ((LZ) × Nat × Nat) := if isK L c2 14 = true then (bnO (gn_Itr_hasNext c2 S L) fun p11 => if p11 = true then (if isK L c2 14 = true then (bnO (gn_Itr_next c2 S L) fun p14 => adC p14.2.1 p14.2.2 (rfB p14.1.1 fun r16 => if isK p14.1.2.2 r16 11 = true then (bnO (gfI p14.1.2.2 r16 11 5) fun v18 => if v18 ≤ 0 then (bnO (lo2_Law_places_48 c0 c1 c2 r16 p14.1.2.1 p14.1.2.2 FU 0) fun p45 => if isK p14.1.2.2 c1 13 = true then (bnO (gn_AL_add3 c1 p45 (.ref r16) p14.1.2.1 p14.1.2.2) fun p46 => adC p46.2.1 p46.2.2 (go (p46.1.1, p46.1.2))) else none) else (go (p14.1.2.1, p14.1.2.2))) else none)) else none) else (some ((S, L), 0, 0))) else none
def lo2_Law_places_16 (c0 : Nat) (c1 : Nat) (c2 : Nat) : Nat → LZ → Option ((LZ) × Nat × Nat) := lp fun go p => lb2_Law_places_16 c0 c1 c2 go p.1 p.2
theorem tl2_Law_places_16 {sc : SC} {c0 : Nat} {c1 : Nat} {c2 : Nat} {K : Option Value → List PC → Prop} {mc ms kt nt : Nat} (hkt : kt ≤ mc) (hnt : nt ≤ ms) : ∀ (N : Nat) (a : LZ) (q : (LZ) × Nat × Nat), lo2_Law_places_16 c0 c1 c2 N a = some q → ∀ k n, Bd k n kt nt q → (GX sc M_Law_places mc ms 130 [(0, .ref c0), (1, .ref c1)] [] (wz q.1) kt nt K) → GX sc M_Law_places mc ms 16 [(0, .ref c0), (1, .ref c1), (2, .ref c2)] [] (wz a) k n K := by
  refine lp_ind2 (P := fun (a : LZ) (q : (LZ) × Nat × Nat) => ∀ k n, Bd k n kt nt q → (GX sc M_Law_places mc ms 130 [(0, .ref c0), (1, .ref c1)] [] (wz q.1) kt nt K) → GX sc M_Law_places mc ms 16 [(0, .ref c0), (1, .ref c1), (2, .ref c2)] [] (wz a) k n K) (fun go ih a q h => ?_)
  obtain ⟨S, L⟩ := a
  intro k n hb hx
  show GX sc M_Law_places mc ms 16 [(0, .ref c0), (1, .ref c1), (2, .ref c2)] [] (wz (S, L)) k n K
  replace h : lb2_Law_places_16 c0 c1 c2 go S L = some q := h
  unfold lb2_Law_places_16 at h
  refine x_aloadn (pc := 16) (i0 := 2) (j := 2) (dK D_Law_places_0 8 rfl) rfl rfl ?_
  refine gdE h ?_
  clear h
  intro hk12 h
  refine bnE h ?_
  clear h
  intro p11 e_p11 h
  refine x_callF (pc := 17) (As := []) (rest := []) (mc' := 0) (ms' := 0) (dK D_Law_places_0 9 rfl) LE_Itr_hasNext (List.mem_of_getElem? (i := 0) rfl) q_1469 q_843 q_845 rfl q_820 (fitK rfl) (isK_at (Z := (S, L)) (ci := 14) hk12) rfl (leK rfl) (Nat.le_trans (bdk hb) hkt) (Nat.le_trans (bdn hb) hnt) (tg_Itr_hasNext  e_p11) (kxB' ?_)
  refine wx_ifB_eq (pc := 22) (b := p11) (t := 130) (dK D_Law_places_0 10 rfl) rfl (fun hc13 => ?_) (fun hc13 => ?_)
  · replace h := ifP h hc13
    refine x_aloadn (pc := 25) (i0 := 2) (j := 2) (dK D_Law_places_0 11 rfl) rfl rfl ?_
    refine gdE h ?_
    clear h
    intro hk15 h
    refine bnE h ?_
    clear h
    intro p14 e_p14 h
    obtain ⟨yp14, h9, e9⟩ := adE2 h
    clear h
    subst e9
    have h := h9
    clear h9
    have hk1 := Nat.le_trans (bd1 hb) hkt
    have hn1 := Nat.le_trans (bd2 hb) hnt
    replace hb := bdA hb
    refine x_callF (pc := 26) (As := []) (rest := []) (mc' := p14.2.1) (ms' := p14.2.2) (dK D_Law_places_0 12 rfl) LE_Itr_next (List.mem_of_getElem? (i := 1) rfl) q_1471 q_852 q_854 rfl q_820 (fitK rfl) (isK_at (Z := (S, L)) (ci := 14) hk15) rfl (leK rfl) hk1 hn1 (tg_Itr_next  e_p14) (kxR (fun h_p14 => ?_))
    refine rfE h ?_
    clear h
    intro r16 e_r16 h
    rw [e_r16]
    refine gdE h ?_
    clear h
    intro hk17 h
    refine x_cast (pc := 31) (dK D_Law_places_0 13 rfl) q_1033 (isK_at (Z := (p14.1.2.1, p14.1.2.2)) (ci := 11) hk17) ?_
    refine x_astoren (pc := 34) (i0 := 3) (ls2 := [(3, .ref r16), (0, .ref c0), (1, .ref c1), (2, .ref c2)]) (dK D_Law_places_0 14 rfl) rfl (ltK rfl) rfl ?_
    refine x_aloadn (pc := 35) (i0 := 3) (j := 0) (dK D_Law_places_0 15 rfl) rfl rfl ?_
    refine bnE h ?_
    clear h
    intro v18 e_v18 h
    refine wx_getI (pc := 36) (ci := 11) (f := 5) e_v18 (dK D_Law_places_0 16 rfl) q_889 (ltK rfl) (ltK rfl) ?_
    refine wx_if_le (pc := 39) (t := 45) (dK D_Law_places_0 17 rfl) rfl (vI_at e_v18).2 (fun hc48 => ?_) (fun hc48 => ?_)
    · replace h := ifP h hc48
      refine wx_iconst (pc := 45) (dK D_Law_places_0 19 rfl) ?_
      refine x_istore (pc := 46) (ls2 := [(4, V 0), (3, .ref r16), (0, .ref c0), (1, .ref c1), (2, .ref c2)]) (dK D_Law_places_0 20 rfl) (ltK rfl) rfl ?_
      refine bnE h ?_
      clear h
      intro p45 e_p45 h
      refine x_weak (ls' := [(0, .ref c0), (1, .ref c1), (2, .ref c2), (3, .ref r16), (4, V 0)]) (sbc 2 rfl (sbc 3 rfl (sbc 4 rfl (sbc 1 rfl (sbc 0 rfl sbn))))) ?_
      refine tl2_Law_places_48  (Nat.le_trans (bdk hb) hkt) (Nat.le_trans (bdn hb) hnt) FU _ _ e_p45 (inRk rfl) (fun hx4_p45 => ?_)
      refine x_aloadn (pc := 120) (i0 := 1) (j := 1) (dK D_Law_places_1 1 rfl) rfl rfl ?_
      refine x_iload (pc := 121) (j := 4) (dK D_Law_places_1 2 rfl) rfl ?_
      refine x_aloadn (pc := 123) (i0 := 3) (j := 3) (dK D_Law_places_1 3 rfl) rfl rfl ?_
      refine gdE h ?_
      clear h
      intro hk47 h
      refine bnE h ?_
      clear h
      intro p46 e_p46 h
      obtain ⟨yp46, h9, e9⟩ := adE2 h
      clear h
      subst e9
      have h := h9
      clear h9
      have hk1 := Nat.le_trans (bd1 hb) hkt
      have hn1 := Nat.le_trans (bd2 hb) hnt
      replace hb := bdA hb
      refine x_callX (pc := 124) (As := [V p45, .ref r16]) (rest := []) (mc' := p46.2.1) (ms' := p46.2.2) (dK D_Law_places_1 4 rfl) Q_Law_339 sx_AL_add3 (fitK rfl) (isK_at (Z := (p14.1.2.1, p14.1.2.2)) (ci := 13) hk47) rfl (leK rfl) hk1 hn1 (tg_AL_add3 hx4_p45 (.inr ⟨_, rfl⟩) e_p46) (kxU ?_)
      refine x_goto (pc := 127) (tgt := 16) (dK D_Law_places_1 5 rfl) rfl ?_
      refine x_weak (ls' := [(0, .ref c0), (1, .ref c1), (2, .ref c2)]) (sbc 0 rfl (sbc 1 rfl (sbc 2 rfl sbn))) ?_
      replace h := ih _ _ h
      exact h _ _ hb hx
    · replace h := ifN h hc48
      refine x_goto (pc := 42) (tgt := 16) (dK D_Law_places_0 18 rfl) rfl ?_
      refine x_weak (ls' := [(0, .ref c0), (1, .ref c1), (2, .ref c2)]) (sbc 1 rfl (sbc 2 rfl (sbc 3 rfl sbn))) ?_
      replace h := ih _ _ h
      exact h _ _ hb hx
  · replace h := ifN h hc13
    obtain rfl := Option.some.inj h
    refine x_weak (ls' := [(0, .ref c0), (1, .ref c1)]) (sbc 0 rfl (sbc 1 rfl sbn)) ?_
    refine x_room (bdk hb) (bdn hb) ?_
    exact hx 
def lb2_Law_places_166 (c0 : Nat) (a2 : Int) (c3 : Nat) (c4 : Nat) (go : Int × Int × LZ → Option ((Int × LZ) × Nat × Nat)) (a5 : Int) (a6 : Int) (S : St) (L : List PC) : Option ((Int × LZ) × Nat × Nat) := if a6 ≤ 0 then (some ((a5, (S, L)), 0, 0)) else (if isK L c0 12 = true then (bnO (gn_LP_reason c0 c4 a6 S L) fun p62 => adC p62.2.1 p62.2.2 (if p62.1.1 = 0 then (nm (wr (a6 + (-1))) fun v65 => go (a6, v65, (p62.1.2.1, p62.1.2.2))) else (nm (wr (a6 + (-1))) fun v64 => go (a5, v64, (p62.1.2.1, p62.1.2.2))))) else none)
def lo2_Law_places_166 (c0 : Nat) (a2 : Int) (c3 : Nat) (c4 : Nat) : Nat → Int × Int × LZ → Option ((Int × LZ) × Nat × Nat) := lp fun go p => lb2_Law_places_166 c0 a2 c3 c4 go p.1 p.2.1 p.2.2.1 p.2.2.2
theorem tl2_Law_places_166 {sc : SC} {c0 : Nat} {a2 : Int} (ha2 : inR a2) {c3 : Nat} {c4 : Nat} {K : Option Value → List PC → Prop} {mc ms kt nt : Nat} (hkt : kt ≤ mc) (hnt : nt ≤ ms) : ∀ (N : Nat) (a : Int × Int × LZ) (q : (Int × LZ) × Nat × Nat), lo2_Law_places_166 c0 a2 c3 c4 N a = some q → ∀ k n, Bd k n kt nt q → inR a.1 → inR a.2.1 → (inR q.1.1 → GX sc M_Law_places mc ms 197 [(0, .ref c0), (2, V a2), (3, .ref c3), (4, .ref c4), (5, V q.1.1)] [] (wz q.1.2) kt nt K) → GX sc M_Law_places mc ms 166 [(0, .ref c0), (2, V a2), (3, .ref c3), (4, .ref c4), (5, V a.1), (6, V a.2.1)] [] (wz a.2.2) k n K := by
  refine lp_ind2 (P := fun (a : Int × Int × LZ) (q : (Int × LZ) × Nat × Nat) => ∀ k n, Bd k n kt nt q → inR a.1 → inR a.2.1 → (inR q.1.1 → GX sc M_Law_places mc ms 197 [(0, .ref c0), (2, V a2), (3, .ref c3), (4, .ref c4), (5, V q.1.1)] [] (wz q.1.2) kt nt K) → GX sc M_Law_places mc ms 166 [(0, .ref c0), (2, V a2), (3, .ref c3), (4, .ref c4), (5, V a.1), (6, V a.2.1)] [] (wz a.2.2) k n K) (fun go ih a q h => ?_)
  obtain ⟨a5, a6, ⟨S, L⟩⟩ := a
  intro k n hb ha5 ha6 hx
  show GX sc M_Law_places mc ms 166 [(0, .ref c0), (2, V a2), (3, .ref c3), (4, .ref c4), (5, V a5), (6, V a6)] [] (wz (S, L)) k n K
  replace h : lb2_Law_places_166 c0 a2 c3 c4 go a5 a6 S L = some q := h
  unfold lb2_Law_places_166 at h
  refine x_iload (pc := 166) (j := 5) (dK D_Law_places_1 23 rfl) rfl ?_
  refine wx_if_le (pc := 168) (t := 197) (dK D_Law_places_1 24 rfl) rfl ha6 (fun hc67 => ?_) (fun hc67 => ?_)
  · replace h := ifP h hc67
    obtain rfl := Option.some.inj h
    refine x_weak (ls' := [(0, .ref c0), (2, V a2), (3, .ref c3), (4, .ref c4), (5, V a5)]) (sbc 0 rfl (sbc 1 rfl (sbc 2 rfl (sbc 3 rfl (sbc 4 rfl sbn))))) ?_
    refine x_room (bdk hb) (bdn hb) ?_
    exact hx ha5
  · replace h := ifN h hc67
    refine x_aloadn (pc := 171) (i0 := 0) (j := 0) (dK D_Law_places_1 25 rfl) rfl rfl ?_
    refine x_aload (pc := 172) (j := 3) (dK D_Law_places_1 26 rfl) rfl ?_
    refine x_iload (pc := 174) (j := 5) (dK D_Law_places_1 27 rfl) rfl ?_
    refine gdE h ?_
    clear h
    intro hk63 h
    refine bnE h ?_
    clear h
    intro p62 e_p62 h
    obtain ⟨yp62, h9, e9⟩ := adE2 h
    clear h
    subst e9
    have h := h9
    clear h9
    have hk1 := Nat.le_trans (bd1 hb) hkt
    have hn1 := Nat.le_trans (bd2 hb) hnt
    replace hb := bdA hb
    refine x_callX (pc := 176) (As := [.ref c4, V a6]) (rest := []) (mc' := p62.2.1) (ms' := p62.2.2) (dK D_Law_places_1 28 rfl) Q_Law_261 sx_LP_reason (fitK rfl) (isK_at (Z := (S, L)) (ci := 12) hk63) rfl (leK rfl) hk1 hn1 (tg_LP_reason ha6 e_p62) (kxI' (fun h_p62 => ?_))
    refine wx_if_ne (pc := 179) (t := 187) (dK D_Law_places_1 29 rfl) rfl h_p62 (fun hc66 => ?_) (fun hc66 => ?_)
    · replace h := ifN h hc66
      refine x_iload (pc := 187) (j := 4) (dK D_Law_places_1 32 rfl) rfl ?_
      refine x_istore (pc := 189) (ls2 := [(5, V a5), (0, .ref c0), (2, V a2), (3, .ref c3), (4, .ref c4), (6, V a6)]) (dK D_Law_places_1 33 rfl) (ltK rfl) rfl ?_
      refine nmE h ?_
      clear h
      intro v64 e_v64 h
      refine wx_iinc (pc := 191) (j := 5) (a := a6) (z := -1) (ls2 := [(6, V v64), (5, V a5), (0, .ref c0), (2, V a2), (3, .ref c3), (4, .ref c4)]) (dK D_Law_places_1 34 rfl) rfl e_v64 (ltK rfl) rfl ?_
      refine x_goto (pc := 194) (tgt := 166) (dK D_Law_places_1 35 rfl) rfl ?_
      refine x_weak (ls' := [(0, .ref c0), (2, V a2), (3, .ref c3), (4, .ref c4), (5, V a5), (6, V v64)]) (sbc 2 rfl (sbc 3 rfl (sbc 4 rfl (sbc 5 rfl (sbc 1 rfl (sbc 0 rfl sbn)))))) ?_
      replace h := ih _ _ h
      exact h _ _ hb ha5 (Vn_in e_v64) hx
    · replace h := ifP h hc66
      refine x_iload (pc := 182) (j := 5) (dK D_Law_places_1 30 rfl) rfl ?_
      refine x_goto (pc := 184) (tgt := 189) (dK D_Law_places_1 31 rfl) rfl ?_
      refine x_istore (pc := 189) (ls2 := [(5, V a6), (0, .ref c0), (2, V a2), (3, .ref c3), (4, .ref c4), (6, V a6)]) (dK D_Law_places_1 33 rfl) (ltK rfl) rfl ?_
      refine nmE h ?_
      clear h
      intro v65 e_v65 h
      refine wx_iinc (pc := 191) (j := 5) (a := a6) (z := -1) (ls2 := [(6, V v65), (5, V a6), (0, .ref c0), (2, V a2), (3, .ref c3), (4, .ref c4)]) (dK D_Law_places_1 34 rfl) rfl e_v65 (ltK rfl) rfl ?_
      refine x_goto (pc := 194) (tgt := 166) (dK D_Law_places_1 35 rfl) rfl ?_
      refine x_weak (ls' := [(0, .ref c0), (2, V a2), (3, .ref c3), (4, .ref c4), (5, V a6), (6, V v65)]) (sbc 2 rfl (sbc 3 rfl (sbc 4 rfl (sbc 5 rfl (sbc 1 rfl (sbc 0 rfl sbn)))))) ?_
      replace h := ih _ _ h
      exact h _ _ hb ha6 (Vn_in e_v65) hx
def lb2_Law_places_137 (c0 : Nat) (c3 : Nat) (go : Int × LZ → Option ((Int × LZ) × Nat × Nat)) (a2 : Int) (S : St) (L : List PC) : Option ((Int × LZ) × Nat × Nat) := if isK L c3 14 = true then (bnO (gn_Itr_hasNext c3 S L) fun p53 => if p53 = true then (if isK L c3 14 = true then (bnO (gn_Itr_next c3 S L) fun p56 => adC p56.2.1 p56.2.2 (rfB p56.1.1 fun r58 => if isK p56.1.2.2 r58 11 = true then (if isK p56.1.2.2 c0 12 = true then (bnO (gn_LP_pages c0 p56.1.2.1 p56.1.2.2) fun p60 => bnO (lo2_Law_places_166 c0 a2 c3 r58 FU (0, p60, (p56.1.2.1, p56.1.2.2))) fun p68 => adC p68.2.1 p68.2.2 (bnO (pf p68.1.2.2 r58 11 5 (V p68.1.1)) fun L69 => if p68.1.1 ≤ 0 then (nm (wr (a2 + 0)) fun v70 => go (v70, (p68.1.2.1, L69))) else (nm (wr (a2 + 1)) fun v71 => go (v71, (p68.1.2.1, L69))))) else none) else none)) else none) else (some ((a2, (S, L)), 0, 0))) else none
def lo2_Law_places_137 (c0 : Nat) (c3 : Nat) : Nat → Int × LZ → Option ((Int × LZ) × Nat × Nat) := lp fun go p => lb2_Law_places_137 c0 c3 go p.1 p.2.1 p.2.2
theorem tl2_Law_places_137 {sc : SC} {c0 : Nat} {c3 : Nat} {K : Option Value → List PC → Prop} {mc ms kt nt : Nat} (hkt : kt ≤ mc) (hnt : nt ≤ ms) : ∀ (N : Nat) (a : Int × LZ) (q : (Int × LZ) × Nat × Nat), lo2_Law_places_137 c0 c3 N a = some q → ∀ k n, Bd k n kt nt q → inR a.1 → (inR q.1.1 → GX sc M_Law_places mc ms 220 [(2, V q.1.1)] [] (wz q.1.2) kt nt K) → GX sc M_Law_places mc ms 137 [(0, .ref c0), (2, V a.1), (3, .ref c3)] [] (wz a.2) k n K := by
  refine lp_ind2 (P := fun (a : Int × LZ) (q : (Int × LZ) × Nat × Nat) => ∀ k n, Bd k n kt nt q → inR a.1 → (inR q.1.1 → GX sc M_Law_places mc ms 220 [(2, V q.1.1)] [] (wz q.1.2) kt nt K) → GX sc M_Law_places mc ms 137 [(0, .ref c0), (2, V a.1), (3, .ref c3)] [] (wz a.2) k n K) (fun go ih a q h => ?_)
  obtain ⟨a2, ⟨S, L⟩⟩ := a
  intro k n hb ha2 hx
  show GX sc M_Law_places mc ms 137 [(0, .ref c0), (2, V a2), (3, .ref c3)] [] (wz (S, L)) k n K
  replace h : lb2_Law_places_137 c0 c3 go a2 S L = some q := h
  unfold lb2_Law_places_137 at h
  refine x_aloadn (pc := 137) (i0 := 3) (j := 2) (dK D_Law_places_1 11 rfl) rfl rfl ?_
  refine gdE h ?_
  clear h
  intro hk54 h
  refine bnE h ?_
  clear h
  intro p53 e_p53 h
  refine x_callF (pc := 138) (As := []) (rest := []) (mc' := 0) (ms' := 0) (dK D_Law_places_1 12 rfl) LE_Itr_hasNext (List.mem_of_getElem? (i := 0) rfl) q_1469 q_843 q_845 rfl q_820 (fitK rfl) (isK_at (Z := (S, L)) (ci := 14) hk54) rfl (leK rfl) (Nat.le_trans (bdk hb) hkt) (Nat.le_trans (bdn hb) hnt) (tg_Itr_hasNext  e_p53) (kxB' ?_)
  refine wx_ifB_eq (pc := 143) (b := p53) (t := 220) (dK D_Law_places_1 13 rfl) rfl (fun hc55 => ?_) (fun hc55 => ?_)
  · replace h := ifP h hc55
    refine x_aloadn (pc := 146) (i0 := 3) (j := 2) (dK D_Law_places_1 14 rfl) rfl rfl ?_
    refine gdE h ?_
    clear h
    intro hk57 h
    refine bnE h ?_
    clear h
    intro p56 e_p56 h
    obtain ⟨yp56, h9, e9⟩ := adE2 h
    clear h
    subst e9
    have h := h9
    clear h9
    have hk1 := Nat.le_trans (bd1 hb) hkt
    have hn1 := Nat.le_trans (bd2 hb) hnt
    replace hb := bdA hb
    refine x_callF (pc := 147) (As := []) (rest := []) (mc' := p56.2.1) (ms' := p56.2.2) (dK D_Law_places_1 15 rfl) LE_Itr_next (List.mem_of_getElem? (i := 1) rfl) q_1471 q_852 q_854 rfl q_820 (fitK rfl) (isK_at (Z := (S, L)) (ci := 14) hk57) rfl (leK rfl) hk1 hn1 (tg_Itr_next  e_p56) (kxR (fun h_p56 => ?_))
    refine rfE h ?_
    clear h
    intro r58 e_r58 h
    rw [e_r58]
    refine gdE h ?_
    clear h
    intro hk59 h
    refine x_cast (pc := 152) (dK D_Law_places_1 16 rfl) q_1033 (isK_at (Z := (p56.1.2.1, p56.1.2.2)) (ci := 11) hk59) ?_
    refine x_astore (pc := 155) (ls2 := [(4, .ref r58), (0, .ref c0), (2, V a2), (3, .ref c3)]) (dK D_Law_places_1 17 rfl) (ltK rfl) rfl ?_
    refine wx_iconst (pc := 157) (dK D_Law_places_1 18 rfl) ?_
    refine x_istore (pc := 158) (ls2 := [(5, V 0), (4, .ref r58), (0, .ref c0), (2, V a2), (3, .ref c3)]) (dK D_Law_places_1 19 rfl) (ltK rfl) rfl ?_
    refine x_aloadn (pc := 160) (i0 := 0) (j := 2) (dK D_Law_places_1 20 rfl) rfl rfl ?_
    refine gdE h ?_
    clear h
    intro hk61 h
    refine bnE h ?_
    clear h
    intro p60 e_p60 h
    refine x_callX (pc := 161) (As := []) (rest := []) (mc' := 0) (ms' := 0) (dK D_Law_places_1 21 rfl) Q_Law_42 sx_LP_pages (fitK rfl) (isK_at (Z := (p56.1.2.1, p56.1.2.2)) (ci := 12) hk61) rfl (leK rfl) (Nat.le_trans (bdk hb) hkt) (Nat.le_trans (bdn hb) hnt) (tg_LP_pages  e_p60) (kxI' (fun h_p60 => ?_))
    refine x_istore (pc := 164) (ls2 := [(6, V p60), (5, V 0), (4, .ref r58), (0, .ref c0), (2, V a2), (3, .ref c3)]) (dK D_Law_places_1 22 rfl) (ltK rfl) rfl ?_
    refine bnE h ?_
    clear h
    intro p68 e_p68 h
    obtain ⟨yp68, h9, e9⟩ := adE2 h
    clear h
    subst e9
    have h := h9
    clear h9
    have hk1 := Nat.le_trans (bd1 hb) hkt
    have hn1 := Nat.le_trans (bd2 hb) hnt
    replace hb := bdA hb
    refine x_weak (ls' := [(0, .ref c0), (2, V a2), (3, .ref c3), (4, .ref r58), (5, V 0), (6, V p60)]) (sbc 3 rfl (sbc 4 rfl (sbc 5 rfl (sbc 2 rfl (sbc 1 rfl (sbc 0 rfl sbn)))))) ?_
    refine tl2_Law_places_166 ha2 hk1 hn1 FU _ _ e_p68 _ _ ⟨Nat.le_refl _, Nat.le_refl _⟩ (inRk rfl) h_p60 (fun hx5_p68 => ?_)
    refine x_aload (pc := 197) (j := 3) (dK D_Law_places_1 36 rfl) rfl ?_
    refine x_iload (pc := 199) (j := 4) (dK D_Law_places_1 37 rfl) rfl ?_
    refine bnE h ?_
    clear h
    intro L69 e_L69 h
    refine wx_put (Z := (p68.1.2.1, p68.1.2.2)) (pc := 201) (ci := 11) (f := 5) e_L69 (dK D_Law_places_1 38 rfl) q_889 (ltK rfl) (ltK rfl) rfl okInt ?_
    refine x_iloadn (pc := 204) (i0 := 2) (j := 1) (dK D_Law_places_1 39 rfl) rfl rfl ?_
    refine x_iload (pc := 205) (j := 4) (dK D_Law_places_1 40 rfl) rfl ?_
    refine wx_if_le (pc := 207) (t := 214) (dK D_Law_places_1 41 rfl) rfl hx5_p68 (fun hc72 => ?_) (fun hc72 => ?_)
    · replace h := ifP h hc72
      refine wx_iconst (pc := 214) (dK D_Law_places_1 44 rfl) ?_
      refine wx_iadd (pc := 215) (dK D_Law_places_1 45 rfl) ?_
      refine nmE h ?_
      clear h
      intro v70 e_v70 h
      refine wtop e_v70 ?_
      refine x_istoren (pc := 216) (i0 := 2) (ls2 := [(2, V v70), (0, .ref c0), (3, .ref c3), (4, .ref r58), (5, V p68.1.1)]) (dK D_Law_places_1 46 rfl) rfl (ltK rfl) rfl ?_
      refine x_goto (pc := 217) (tgt := 137) (dK D_Law_places_1 47 rfl) rfl ?_
      refine x_weak (ls' := [(0, .ref c0), (2, V v70), (3, .ref c3)]) (sbc 1 rfl (sbc 0 rfl (sbc 2 rfl sbn))) ?_
      replace h := ih _ _ h
      exact h _ _ hb (Vn_in e_v70) hx
    · replace h := ifN h hc72
      refine wx_iconst (pc := 210) (dK D_Law_places_1 42 rfl) ?_
      refine x_goto (pc := 211) (tgt := 215) (dK D_Law_places_1 43 rfl) rfl ?_
      refine wx_iadd (pc := 215) (dK D_Law_places_1 45 rfl) ?_
      refine nmE h ?_
      clear h
      intro v71 e_v71 h
      refine wtop e_v71 ?_
      refine x_istoren (pc := 216) (i0 := 2) (ls2 := [(2, V v71), (0, .ref c0), (3, .ref c3), (4, .ref r58), (5, V p68.1.1)]) (dK D_Law_places_1 46 rfl) rfl (ltK rfl) rfl ?_
      refine x_goto (pc := 217) (tgt := 137) (dK D_Law_places_1 47 rfl) rfl ?_
      refine x_weak (ls' := [(0, .ref c0), (2, V v71), (3, .ref c3)]) (sbc 1 rfl (sbc 0 rfl (sbc 2 rfl sbn))) ?_
      replace h := ih _ _ h
      exact h _ _ hb (Vn_in e_v71) hx
  · replace h := ifN h hc55
    obtain rfl := Option.some.inj h
    refine x_weak (ls' := [(2, V a2)]) (sbc 1 rfl sbn) ?_
    refine x_room (bdk hb) (bdn hb) ?_
    exact hx ha2
def gn_Law_places (c0 : Nat) (S : St) (L : List PC) : Option ((Int × LZ) × Nat × Nat) := if L.length < 900000000 then adC 1 3 (nw L (13, dfl 13) fun r2 L3 => bnO (gn_AL_init r2 S L3) fun p5 => adC p5.2.1 p5.2.2 (bnO (gfV p5.1.2 c0 12 4) fun v6 => rfB v6 fun r7 => if isK p5.1.2 r7 13 = true then (bnO (gn_AL_iterator r7 p5.1.1 p5.1.2) fun p8 => adC p8.2.1 p8.2.2 (rfB p8.1.1 fun r10 => bnO (lo2_Law_places_16 c0 r2 r10 FU (p8.1.2.1, p8.1.2.2)) fun p49 => adC p49.2.1 p49.2.2 (if isK p49.1.2 r2 13 = true then (bnO (gn_AL_iterator r2 p49.1.1 p49.1.2) fun p50 => adC p50.2.1 p50.2.2 (rfB p50.1.1 fun r52 => bnO (lo2_Law_places_137 c0 r52 FU (0, (p50.1.2.1, p50.1.2.2))) fun p73 => adC p73.2.1 p73.2.2 (some ((p73.1.1, (p73.1.2.1, p73.1.2.2)), 0, 0)))) else none))) else none)) else none
theorem te_Law_places {sc : SC} {c0 : Nat} {S : St} {L : List PC} {q : (Int × LZ) × Nat × Nat} (h : gn_Law_places c0 S L = some q) {mc ms k n : Nat} (hb : Bd k n mc ms q) : GX sc M_Law_places mc ms 0 [(0, .ref c0)] [] (wz (S, L)) k n (KXI q.1.1 q.1.2) := by
  unfold gn_Law_places at h
  refine gdE h ?_
  clear h
  intro hl1 h
  obtain ⟨y4, h9, e9⟩ := adE2 h
  clear h
  subst e9
  have h := h9
  clear h9
  refine nwE h ?_
  clear h
  intro r2 L3 e_r2 e_L3 h
  have hk1 := bd1 hb
  have hn1 := bd2 hb
  replace hb := bdA hb
  refine wn_new (Z := (S, L)) (pc := 0) (ci := 13) (N := 3) e_r2 e_L3 hl1 rfl (dK D_Law_places_0 0 rfl) (ltK rfl) q_1757 q_739 q_17 hk1 hn1 ?_
  refine x_dup (pc := 3) (dK D_Law_places_0 1 rfl) rfl ?_
  refine bnE h ?_
  clear h
  intro p5 e_p5 h
  obtain ⟨yp5, h9, e9⟩ := adE2 h
  clear h
  subst e9
  have h := h9
  clear h9
  have hk1 := bd1 hb
  have hn1 := bd2 hb
  replace hb := bdA hb
  refine x_callI (pc := 4) (As := []) (rest := [.ref r2]) (mc' := p5.2.1) (ms' := p5.2.2) (dK D_Law_places_0 2 rfl) Q_Law_324 (fitK rfl) rfl (leK rfl) hk1 hn1 (tg_AL_init  e_p5) (kxU ?_)
  refine x_astoren (pc := 7) (i0 := 1) (ls2 := [(1, .ref r2), (0, .ref c0)]) (dK D_Law_places_0 3 rfl) rfl (ltK rfl) rfl ?_
  refine x_aloadn (pc := 8) (i0 := 0) (j := 1) (dK D_Law_places_0 4 rfl) rfl rfl ?_
  refine bnE h ?_
  clear h
  intro v6 e_v6 h
  refine wx_getV (pc := 9) (ci := 12) (f := 4) e_v6 (dK D_Law_places_0 5 rfl) q_776 (ltK rfl) (ltK rfl) (fun hv6 => ?_)
  refine rfE h ?_
  clear h
  intro r7 e_r7 h
  rw [e_r7]
  refine gdE h ?_
  clear h
  intro hk9 h
  refine bnE h ?_
  clear h
  intro p8 e_p8 h
  obtain ⟨yp8, h9, e9⟩ := adE2 h
  clear h
  subst e9
  have h := h9
  clear h9
  have hk1 := bd1 hb
  have hn1 := bd2 hb
  replace hb := bdA hb
  refine x_callX (pc := 12) (As := []) (rest := []) (mc' := p8.2.1) (ms' := p8.2.2) (dK D_Law_places_0 6 rfl) Q_Law_179 sx_AL_iterator (fitK rfl) (isK_at (Z := (p5.1.1, p5.1.2)) (ci := 13) hk9) rfl (leK rfl) hk1 hn1 (tg_AL_iterator  e_p8) (kxR (fun h_p8 => ?_))
  refine x_astorenV (pc := 15) (i0 := 2) (ls2 := [(2, p8.1.1), (1, .ref r2), (0, .ref c0)]) h_p8 (dK D_Law_places_0 7 rfl) rfl (ltK rfl) rfl ?_
  refine rfE h ?_
  clear h
  intro r10 e_r10 h
  rw [e_r10]
  refine bnE h ?_
  clear h
  intro p49 e_p49 h
  obtain ⟨yp49, h9, e9⟩ := adE2 h
  clear h
  subst e9
  have h := h9
  clear h9
  have hk1 := bd1 hb
  have hn1 := bd2 hb
  replace hb := bdA hb
  refine x_weak (ls' := [(0, .ref c0), (1, .ref r2), (2, .ref r10)]) (sbc 2 rfl (sbc 1 rfl (sbc 0 rfl sbn))) ?_
  refine tl2_Law_places_16  hk1 hn1 FU _ _ e_p49 _ _ ⟨Nat.le_refl _, Nat.le_refl _⟩  ?_
  refine wx_iconst (pc := 130) (dK D_Law_places_1 6 rfl) ?_
  refine x_istoren (pc := 131) (i0 := 2) (ls2 := [(2, V 0), (0, .ref c0), (1, .ref r2)]) (dK D_Law_places_1 7 rfl) rfl (ltK rfl) rfl ?_
  refine x_aloadn (pc := 132) (i0 := 1) (j := 2) (dK D_Law_places_1 8 rfl) rfl rfl ?_
  refine gdE h ?_
  clear h
  intro hk51 h
  refine bnE h ?_
  clear h
  intro p50 e_p50 h
  obtain ⟨yp50, h9, e9⟩ := adE2 h
  clear h
  subst e9
  have h := h9
  clear h9
  have hk1 := bd1 hb
  have hn1 := bd2 hb
  replace hb := bdA hb
  refine x_callX (pc := 133) (As := []) (rest := []) (mc' := p50.2.1) (ms' := p50.2.2) (dK D_Law_places_1 9 rfl) Q_Law_179 sx_AL_iterator (fitK rfl) (isK_at (Z := (p49.1.1, p49.1.2)) (ci := 13) hk51) rfl (leK rfl) hk1 hn1 (tg_AL_iterator  e_p50) (kxR (fun h_p50 => ?_))
  refine x_astorenV (pc := 136) (i0 := 3) (ls2 := [(3, p50.1.1), (2, V 0), (0, .ref c0), (1, .ref r2)]) h_p50 (dK D_Law_places_1 10 rfl) rfl (ltK rfl) rfl ?_
  refine rfE h ?_
  clear h
  intro r52 e_r52 h
  rw [e_r52]
  refine bnE h ?_
  clear h
  intro p73 e_p73 h
  obtain ⟨yp73, h9, e9⟩ := adE2 h
  clear h
  subst e9
  have h := h9
  clear h9
  have hk1 := bd1 hb
  have hn1 := bd2 hb
  replace hb := bdA hb
  refine x_weak (ls' := [(0, .ref c0), (2, V 0), (3, .ref r52)]) (sbc 2 rfl (sbc 1 rfl (sbc 0 rfl sbn))) ?_
  refine tl2_Law_places_137  hk1 hn1 FU _ _ e_p73 _ _ ⟨Nat.le_refl _, Nat.le_refl _⟩ (inRk rfl) (fun hx2_p73 => ?_)
  refine x_iloadn (pc := 220) (i0 := 2) (j := 0) (dK D_Law_places_1 48 rfl) rfl rfl ?_
  obtain rfl := Option.some.inj h
  exact wk_iretI (pc := 221) (dK D_Law_places_1 49 rfl) rfl (bdk hb) (bdn hb) ⟨rfl, hx2_p73, rfl⟩
theorem tg_Law_places {sc : SC} {c0 : Nat} {S : St} {L : List PC} {q : (Int × LZ) × Nat × Nat} (h : gn_Law_places c0 S L = some q) : EvX sc M_Law_places [.ref c0] (wz (S, L)) q.2.1 q.2.2 (KXI q.1.1 q.1.2) := EvX.of pn2_Law rfl (leK rfl) (te_Law_places  h ⟨Nat.le_of_eq (Nat.zero_add _), Nat.le_of_eq (Nat.zero_add _)⟩)
