def lb2_Law_runs_32 (c1 : Nat) (a2 : Int) (a3 : Int) (a4 : Int) (S : St) (L : List PC) (go : Int × Int → Option (Int)) (a5 : Int) (a6 : Int) : Option (Int) := nm (wr (a4 + a2)) fun v4 => if v4 ≤ a6 then (some a5) else (if a5 = 0 then (nm (wr (a6 + 1)) fun v5 => go (0, v5)) else (if isK L c1 12 = true then (bnO (gn_LP_left c1 a6 S L) fun p6 => if p6 = 4 then (nm (wr (a6 + 1)) fun v9 => go (1, v9)) else (nm (wr (a6 + 1)) fun v8 => go (0, v8))) else none))
def lo2_Law_runs_32 (c1 : Nat) (a2 : Int) (a3 : Int) (a4 : Int) (S : St) (L : List PC) : Nat → Int × Int → Option (Int) := lp fun go p => lb2_Law_runs_32 c1 a2 a3 a4 S L go p.1 p.2
theorem tl2_Law_runs_32 {sc : SC} {c1 : Nat} {a2 : Int} (ha2 : inR a2) {a3 : Int} (ha3 : inR a3) {a4 : Int} (ha4 : inR a4) {K : Option Value → List PC → Prop} {S : St} {L : List PC} {mc ms k n : Nat} (hk0 : k ≤ mc) (hn0 : n ≤ ms) : ∀ (N : Nat) (a : Int × Int) (q : Int), lo2_Law_runs_32 c1 a2 a3 a4 S L N a = some q → inR a.1 → inR a.2 → (inR q → GX sc M_Law_runs mc ms 69 [(0, .ref 0), (1, .ref c1), (2, V a2), (3, V a3), (4, V a4), (5, V q)] [] (wz (S, L)) k n K) → GX sc M_Law_runs mc ms 32 [(0, .ref 0), (1, .ref c1), (2, V a2), (3, V a3), (4, V a4), (5, V a.1), (6, V a.2)] [] (wz (S, L)) k n K := by
  refine lp_ind2 (P := fun (a : Int × Int) (q : Int) => inR a.1 → inR a.2 → (inR q → GX sc M_Law_runs mc ms 69 [(0, .ref 0), (1, .ref c1), (2, V a2), (3, V a3), (4, V a4), (5, V q)] [] (wz (S, L)) k n K) → GX sc M_Law_runs mc ms 32 [(0, .ref 0), (1, .ref c1), (2, V a2), (3, V a3), (4, V a4), (5, V a.1), (6, V a.2)] [] (wz (S, L)) k n K) (fun go ih a q h => ?_)
  obtain ⟨a5, a6⟩ := a
  intro ha5 ha6 hx
  show GX sc M_Law_runs mc ms 32 [(0, .ref 0), (1, .ref c1), (2, V a2), (3, V a3), (4, V a4), (5, V a5), (6, V a6)] [] (wz (S, L)) k n K
  replace h : lb2_Law_runs_32 c1 a2 a3 a4 S L go a5 a6 = some q := h
  unfold lb2_Law_runs_32 at h
  refine x_iload (pc := 32) (j := 6) (dK D_Law_runs_0 20 rfl) rfl ?_
  refine x_iload (pc := 34) (j := 4) (dK D_Law_runs_0 21 rfl) rfl ?_
  refine x_iloadn (pc := 36) (i0 := 2) (j := 2) (dK D_Law_runs_0 22 rfl) rfl rfl ?_
  refine wx_iadd (pc := 37) (dK D_Law_runs_0 23 rfl) ?_
  refine nmE h ?_
  clear h
  intro v4 e_v4 h
  refine wtop e_v4 ?_
  refine wx_icmp_ge (pc := 38) (t := 69) (dK D_Law_runs_0 24 rfl) rfl ha6 (Vn_in e_v4) (fun hc12 => ?_) (fun hc12 => ?_)
  · replace h := ifP h hc12
    obtain rfl := Option.some.inj h
    refine x_weak (ls' := [(0, .ref 0), (1, .ref c1), (2, V a2), (3, V a3), (4, V a4), (5, V a5)]) (sbc 0 rfl (sbc 1 rfl (sbc 2 rfl (sbc 3 rfl (sbc 4 rfl (sbc 5 rfl sbn)))))) ?_
    exact hx ha5
  · replace h := ifN h hc12
    refine x_iload (pc := 41) (j := 5) (dK D_Law_runs_0 25 rfl) rfl ?_
    refine wx_if_eq (pc := 43) (t := 60) (dK D_Law_runs_0 26 rfl) rfl ha5 (fun hc11 => ?_) (fun hc11 => ?_)
    · replace h := ifP h hc11
      refine wx_iconst (pc := 60) (dK D_Law_runs_0 34 rfl) ?_
      refine x_istore (pc := 61) (ls2 := [(5, V 0), (0, .ref 0), (1, .ref c1), (2, V a2), (3, V a3), (4, V a4), (6, V a6)]) (dK D_Law_runs_0 35 rfl) (ltK rfl) rfl ?_
      refine nmE h ?_
      clear h
      intro v5 e_v5 h
      refine wx_iinc (pc := 63) (j := 6) (a := a6) (z := 1) (ls2 := [(6, V v5), (5, V 0), (0, .ref 0), (1, .ref c1), (2, V a2), (3, V a3), (4, V a4)]) (dK D_Law_runs_0 36 rfl) rfl e_v5 (ltK rfl) rfl ?_
      refine x_goto (pc := 66) (tgt := 32) (dK D_Law_runs_0 37 rfl) rfl ?_
      refine x_weak (ls' := [(0, .ref 0), (1, .ref c1), (2, V a2), (3, V a3), (4, V a4), (5, V 0), (6, V v5)]) (sbc 2 rfl (sbc 3 rfl (sbc 4 rfl (sbc 5 rfl (sbc 6 rfl (sbc 1 rfl (sbc 0 rfl sbn))))))) ?_
      replace h := ih _ _ h
      exact h (inRk rfl) (Vn_in e_v5) hx
    · replace h := ifN h hc11
      refine x_aloadn (pc := 46) (i0 := 1) (j := 1) (dK D_Law_runs_0 27 rfl) rfl rfl ?_
      refine x_iload (pc := 47) (j := 6) (dK D_Law_runs_0 28 rfl) rfl ?_
      refine gdE h ?_
      clear h
      intro hk7 h
      refine bnE h ?_
      clear h
      intro p6 e_p6 h
      refine x_callX (pc := 49) (As := [V a6]) (rest := []) (mc' := 0) (ms' := 0) (dK D_Law_runs_0 29 rfl) Q_Law_142 sx_LP_left (fitK rfl) (isK_at (Z := (S, L)) (ci := 12) hk7) rfl (leK rfl) hk0 hn0 (tg_LP_left ha6 e_p6) (kxI' (fun h_p6 => ?_))
      refine wx_iconst (pc := 52) (dK D_Law_runs_0 30 rfl) ?_
      refine wx_icmp_ne (pc := 53) (t := 60) (dK D_Law_runs_0 31 rfl) rfl h_p6 (inRk rfl) (fun hc10 => ?_) (fun hc10 => ?_)
      · replace h := ifN h hc10
        refine wx_iconst (pc := 60) (dK D_Law_runs_0 34 rfl) ?_
        refine x_istore (pc := 61) (ls2 := [(5, V 0), (0, .ref 0), (1, .ref c1), (2, V a2), (3, V a3), (4, V a4), (6, V a6)]) (dK D_Law_runs_0 35 rfl) (ltK rfl) rfl ?_
        refine nmE h ?_
        clear h
        intro v8 e_v8 h
        refine wx_iinc (pc := 63) (j := 6) (a := a6) (z := 1) (ls2 := [(6, V v8), (5, V 0), (0, .ref 0), (1, .ref c1), (2, V a2), (3, V a3), (4, V a4)]) (dK D_Law_runs_0 36 rfl) rfl e_v8 (ltK rfl) rfl ?_
        refine x_goto (pc := 66) (tgt := 32) (dK D_Law_runs_0 37 rfl) rfl ?_
        refine x_weak (ls' := [(0, .ref 0), (1, .ref c1), (2, V a2), (3, V a3), (4, V a4), (5, V 0), (6, V v8)]) (sbc 2 rfl (sbc 3 rfl (sbc 4 rfl (sbc 5 rfl (sbc 6 rfl (sbc 1 rfl (sbc 0 rfl sbn))))))) ?_
        replace h := ih _ _ h
        exact h (inRk rfl) (Vn_in e_v8) hx
      · replace h := ifP h hc10
        refine wx_iconst (pc := 56) (dK D_Law_runs_0 32 rfl) ?_
        refine x_goto (pc := 57) (tgt := 61) (dK D_Law_runs_0 33 rfl) rfl ?_
        refine x_istore (pc := 61) (ls2 := [(5, V 1), (0, .ref 0), (1, .ref c1), (2, V a2), (3, V a3), (4, V a4), (6, V a6)]) (dK D_Law_runs_0 35 rfl) (ltK rfl) rfl ?_
        refine nmE h ?_
        clear h
        intro v9 e_v9 h
        refine wx_iinc (pc := 63) (j := 6) (a := a6) (z := 1) (ls2 := [(6, V v9), (5, V 1), (0, .ref 0), (1, .ref c1), (2, V a2), (3, V a3), (4, V a4)]) (dK D_Law_runs_0 36 rfl) rfl e_v9 (ltK rfl) rfl ?_
        refine x_goto (pc := 66) (tgt := 32) (dK D_Law_runs_0 37 rfl) rfl ?_
        refine x_weak (ls' := [(0, .ref 0), (1, .ref c1), (2, V a2), (3, V a3), (4, V a4), (5, V 1), (6, V v9)]) (sbc 2 rfl (sbc 3 rfl (sbc 4 rfl (sbc 5 rfl (sbc 6 rfl (sbc 1 rfl (sbc 0 rfl sbn))))))) ?_
        replace h := ih _ _ h
        exact h (inRk rfl) (Vn_in e_v9) hx
def lb2_Law_runs_20 (c1 : Nat) (a2 : Int) (S : St) (L : List PC) (go : Int × Int → Option (Int)) (a3 : Int) (a4 : Int) : Option (Int) := if a4 ≤ 0 then (some a3) else (bnO (lo2_Law_runs_32 c1 a2 a3 a4 S L FU (1, a4)) fun p13 => if p13 = 0 then (nm (wr (a4 + (-1))) fun v14 => go (a3, v14)) else (nm (wr (a4 + (-1))) fun v15 => go (a4, v15)))
def lo2_Law_runs_20 (c1 : Nat) (a2 : Int) (S : St) (L : List PC) : Nat → Int × Int → Option (Int) := lp fun go p => lb2_Law_runs_20 c1 a2 S L go p.1 p.2
theorem tl2_Law_runs_20 {sc : SC} {c1 : Nat} {a2 : Int} (ha2 : inR a2) {K : Option Value → List PC → Prop} {S : St} {L : List PC} {mc ms k n : Nat} (hk0 : k ≤ mc) (hn0 : n ≤ ms) : ∀ (N : Nat) (a : Int × Int) (q : Int), lo2_Law_runs_20 c1 a2 S L N a = some q → inR a.1 → inR a.2 → (inR q → GX sc M_Law_runs mc ms 87 [(0, .ref 0), (1, .ref c1), (2, V a2), (3, V q)] [] (wz (S, L)) k n K) → GX sc M_Law_runs mc ms 20 [(0, .ref 0), (1, .ref c1), (2, V a2), (3, V a.1), (4, V a.2)] [] (wz (S, L)) k n K := by
  refine lp_ind2 (P := fun (a : Int × Int) (q : Int) => inR a.1 → inR a.2 → (inR q → GX sc M_Law_runs mc ms 87 [(0, .ref 0), (1, .ref c1), (2, V a2), (3, V q)] [] (wz (S, L)) k n K) → GX sc M_Law_runs mc ms 20 [(0, .ref 0), (1, .ref c1), (2, V a2), (3, V a.1), (4, V a.2)] [] (wz (S, L)) k n K) (fun go ih a q h => ?_)
  obtain ⟨a3, a4⟩ := a
  intro ha3 ha4 hx
  show GX sc M_Law_runs mc ms 20 [(0, .ref 0), (1, .ref c1), (2, V a2), (3, V a3), (4, V a4)] [] (wz (S, L)) k n K
  replace h : lb2_Law_runs_20 c1 a2 S L go a3 a4 = some q := h
  unfold lb2_Law_runs_20 at h
  refine x_iload (pc := 20) (j := 4) (dK D_Law_runs_0 14 rfl) rfl ?_
  refine wx_if_le (pc := 22) (t := 87) (dK D_Law_runs_0 15 rfl) rfl ha4 (fun hc17 => ?_) (fun hc17 => ?_)
  · replace h := ifP h hc17
    obtain rfl := Option.some.inj h
    refine x_weak (ls' := [(0, .ref 0), (1, .ref c1), (2, V a2), (3, V a3)]) (sbc 0 rfl (sbc 1 rfl (sbc 2 rfl (sbc 3 rfl sbn)))) ?_
    exact hx ha3
  · replace h := ifN h hc17
    refine wx_iconst (pc := 25) (dK D_Law_runs_0 16 rfl) ?_
    refine x_istore (pc := 26) (ls2 := [(5, V 1), (0, .ref 0), (1, .ref c1), (2, V a2), (3, V a3), (4, V a4)]) (dK D_Law_runs_0 17 rfl) (ltK rfl) rfl ?_
    refine x_iload (pc := 28) (j := 5) (dK D_Law_runs_0 18 rfl) rfl ?_
    refine x_istore (pc := 30) (ls2 := [(6, V a4), (5, V 1), (0, .ref 0), (1, .ref c1), (2, V a2), (3, V a3), (4, V a4)]) (dK D_Law_runs_0 19 rfl) (ltK rfl) rfl ?_
    refine bnE h ?_
    clear h
    intro p13 e_p13 h
    refine x_weak (ls' := [(0, .ref 0), (1, .ref c1), (2, V a2), (3, V a3), (4, V a4), (5, V 1), (6, V a4)]) (sbc 2 rfl (sbc 3 rfl (sbc 4 rfl (sbc 5 rfl (sbc 6 rfl (sbc 1 rfl (sbc 0 rfl sbn))))))) ?_
    refine tl2_Law_runs_32 ha2 ha3 ha4 hk0 hn0 FU _ _ e_p13 (inRk rfl) ha4 (fun hx5_p13 => ?_)
    refine x_iload (pc := 69) (j := 5) (dK D_Law_runs_0 38 rfl) rfl ?_
    refine wx_if_eq (pc := 71) (t := 79) (dK D_Law_runs_0 39 rfl) rfl hx5_p13 (fun hc16 => ?_) (fun hc16 => ?_)
    · replace h := ifP h hc16
      refine x_iloadn (pc := 79) (i0 := 3) (j := 3) (dK D_Law_runs_0 42 rfl) rfl rfl ?_
      refine x_istoren (pc := 80) (i0 := 3) (ls2 := [(3, V a3), (0, .ref 0), (1, .ref c1), (2, V a2), (4, V a4), (5, V p13)]) (dK D_Law_runs_0 43 rfl) rfl (ltK rfl) rfl ?_
      refine nmE h ?_
      clear h
      intro v14 e_v14 h
      refine wx_iinc (pc := 81) (j := 4) (a := a4) (z := -1) (ls2 := [(4, V v14), (3, V a3), (0, .ref 0), (1, .ref c1), (2, V a2), (5, V p13)]) (dK D_Law_runs_0 44 rfl) rfl e_v14 (ltK rfl) rfl ?_
      refine x_goto (pc := 84) (tgt := 20) (dK D_Law_runs_0 45 rfl) rfl ?_
      refine x_weak (ls' := [(0, .ref 0), (1, .ref c1), (2, V a2), (3, V a3), (4, V v14)]) (sbc 2 rfl (sbc 3 rfl (sbc 4 rfl (sbc 1 rfl (sbc 0 rfl sbn))))) ?_
      replace h := ih _ _ h
      exact h ha3 (Vn_in e_v14) hx
    · replace h := ifN h hc16
      refine x_iload (pc := 74) (j := 4) (dK D_Law_runs_0 40 rfl) rfl ?_
      refine x_goto (pc := 76) (tgt := 80) (dK D_Law_runs_0 41 rfl) rfl ?_
      refine x_istoren (pc := 80) (i0 := 3) (ls2 := [(3, V a4), (0, .ref 0), (1, .ref c1), (2, V a2), (4, V a4), (5, V p13)]) (dK D_Law_runs_0 43 rfl) rfl (ltK rfl) rfl ?_
      refine nmE h ?_
      clear h
      intro v15 e_v15 h
      refine wx_iinc (pc := 81) (j := 4) (a := a4) (z := -1) (ls2 := [(4, V v15), (3, V a4), (0, .ref 0), (1, .ref c1), (2, V a2), (5, V p13)]) (dK D_Law_runs_0 44 rfl) rfl e_v15 (ltK rfl) rfl ?_
      refine x_goto (pc := 84) (tgt := 20) (dK D_Law_runs_0 45 rfl) rfl ?_
      refine x_weak (ls' := [(0, .ref 0), (1, .ref c1), (2, V a2), (3, V a4), (4, V v15)]) (sbc 2 rfl (sbc 3 rfl (sbc 4 rfl (sbc 1 rfl (sbc 0 rfl sbn))))) ?_
      replace h := ih _ _ h
      exact h ha4 (Vn_in e_v15) hx
def lb2_Law_runs_2 (c1 : Nat) (go : Int × LZ → Option (((Bool × LZ) ⊕ (LZ)) × Nat × Nat)) (a2 : Int) (S : St) (L : List PC) : Option (((Bool × LZ) ⊕ (LZ)) × Nat × Nat) := if 10 ≤ a2 then (some (.inr (S, L), 0, 0)) else (if isK L c1 12 = true then (bnO (gn_LP_pages c1 S L) fun p1 => nm (wr ((p1 - a2) + 1)) fun v3 => bnO (lo2_Law_runs_20 c1 a2 S L FU ((-1), v3)) fun p18 => bnO (fn_FP_emptyRun 0 a2 S) fun p19 => if p19.1 = 0 then (adC 1 6 (if p19.2 = p18 then (nm (wr (a2 + 1)) fun v20 => go (v20, (S, L))) else (some (.inl (false, (S, L)), 0, 0)))) else none) else none)
def lo2_Law_runs_2 (c1 : Nat) : Nat → Int × LZ → Option (((Bool × LZ) ⊕ (LZ)) × Nat × Nat) := lp fun go p => lb2_Law_runs_2 c1 go p.1 p.2.1 p.2.2
theorem tl2_Law_runs_2 {sc : SC} {c1 : Nat} {K : Option Value → List PC → Prop} {mc ms kt nt : Nat} (hkt : kt ≤ mc) (hnt : nt ≤ ms) : ∀ (N : Nat) (a : Int × LZ) (q : ((Bool × LZ) ⊕ (LZ)) × Nat × Nat), lo2_Law_runs_2 c1 N a = some q → ∀ k n, Bd k n kt nt q → inR a.1 → (∀ e, q.1 = .inr e → GX sc M_Law_runs mc ms 104 [] [] (wz e) kt nt K) → (∀ r, q.1 = .inl r → K (some (V (bi r.1))) (wz r.2)) → GX sc M_Law_runs mc ms 2 [(0, .ref 0), (1, .ref c1), (2, V a.1)] [] (wz a.2) k n K := by
  refine lp_ind2 (P := fun (a : Int × LZ) (q : ((Bool × LZ) ⊕ (LZ)) × Nat × Nat) => ∀ k n, Bd k n kt nt q → inR a.1 → (∀ e, q.1 = .inr e → GX sc M_Law_runs mc ms 104 [] [] (wz e) kt nt K) → (∀ r, q.1 = .inl r → K (some (V (bi r.1))) (wz r.2)) → GX sc M_Law_runs mc ms 2 [(0, .ref 0), (1, .ref c1), (2, V a.1)] [] (wz a.2) k n K) (fun go ih a q h => ?_)
  obtain ⟨a2, ⟨S, L⟩⟩ := a
  intro k n hb ha2 hx hr
  show GX sc M_Law_runs mc ms 2 [(0, .ref 0), (1, .ref c1), (2, V a2)] [] (wz (S, L)) k n K
  replace h : lb2_Law_runs_2 c1 go a2 S L = some q := h
  unfold lb2_Law_runs_2 at h
  refine x_iloadn (pc := 2) (i0 := 2) (j := 2) (dK D_Law_runs_0 2 rfl) rfl rfl ?_
  refine wx_bipush (pc := 3) (dK D_Law_runs_0 3 rfl) rfl ?_
  refine wx_icmp_ge (pc := 5) (t := 104) (dK D_Law_runs_0 4 rfl) rfl ha2 (inRk rfl) (fun hc22 => ?_) (fun hc22 => ?_)
  · replace h := ifP h hc22
    obtain rfl := Option.some.inj h
    refine x_weak (ls' := []) sbn ?_
    refine x_room (bdk hb) (bdn hb) ?_
    exact hx (S, L) rfl
  · replace h := ifN h hc22
    refine wx_iconst (pc := 8) (dK D_Law_runs_0 5 rfl) ?_
    refine x_istoren (pc := 9) (i0 := 3) (ls2 := [(3, V (-1)), (0, .ref 0), (1, .ref c1), (2, V a2)]) (dK D_Law_runs_0 6 rfl) rfl (ltK rfl) rfl ?_
    refine x_aloadn (pc := 10) (i0 := 1) (j := 2) (dK D_Law_runs_0 7 rfl) rfl rfl ?_
    refine gdE h ?_
    clear h
    intro hk2 h
    refine bnE h ?_
    clear h
    intro p1 e_p1 h
    refine x_callX (pc := 11) (As := []) (rest := []) (mc' := 0) (ms' := 0) (dK D_Law_runs_0 8 rfl) Q_Law_42 sx_LP_pages (fitK rfl) (isK_at (Z := (S, L)) (ci := 12) hk2) rfl (leK rfl) (Nat.le_trans (bdk hb) hkt) (Nat.le_trans (bdn hb) hnt) (tg_LP_pages  e_p1) (kxI' (fun h_p1 => ?_))
    refine x_iloadn (pc := 14) (i0 := 2) (j := 3) (dK D_Law_runs_0 9 rfl) rfl rfl ?_
    refine wx_isub (pc := 15) (dK D_Law_runs_0 10 rfl) ?_
    refine wx_iconst (pc := 16) (dK D_Law_runs_0 11 rfl) ?_
    refine wx_iadd (pc := 17) (dK D_Law_runs_0 12 rfl) ?_
    refine nmE h ?_
    clear h
    intro v3 e_v3 h
    refine wtop e_v3 ?_
    refine x_istore (pc := 18) (ls2 := [(4, V v3), (3, V (-1)), (0, .ref 0), (1, .ref c1), (2, V a2)]) (dK D_Law_runs_0 13 rfl) (ltK rfl) rfl ?_
    refine bnE h ?_
    clear h
    intro p18 e_p18 h
    refine x_weak (ls' := [(0, .ref 0), (1, .ref c1), (2, V a2), (3, V (-1)), (4, V v3)]) (sbc 2 rfl (sbc 3 rfl (sbc 4 rfl (sbc 1 rfl (sbc 0 rfl sbn))))) ?_
    refine tl2_Law_runs_20 ha2 (Nat.le_trans (bdk hb) hkt) (Nat.le_trans (bdn hb) hnt) FU _ _ e_p18 (inRk rfl) (Vn_in e_v3) (fun hx3_p18 => ?_)
    refine x_aloadn (pc := 87) (i0 := 0) (j := 0) (dK D_Law_runs_0 46 rfl) rfl rfl ?_
    refine x_iloadn (pc := 88) (i0 := 2) (j := 2) (dK D_Law_runs_0 47 rfl) rfl rfl ?_
    refine bnE h ?_
    clear h
    intro p19 e_p19 h
    refine gdE h ?_
    clear h
    intro hz_p19 h
    obtain ⟨yp19, h9, e9⟩ := adE2 h
    clear h
    subst e9
    have h := h9
    clear h9
    have hk1 := Nat.le_trans (bd1 hb) hkt
    have hn1 := Nat.le_trans (bd2 hb) hnt
    replace hb := bdA hb
    refine x_callX (pc := 89) (As := [V a2]) (rest := []) (mc' := 1) (ms' := 6) (dK D_Law_runs_0 48 rfl) Q_Law_215 sx_FP_emptyRun (fitK rfl) (isK_at (Z := (S, L)) (ci := 10) isK0) rfl (leK rfl) hk1 hn1 (clTI hz_p19 (fun E => tf_FP_emptyRun (X := xz L) rfl xz_hc ha2 e_p19)) (kxI' (fun h_p19 => ?_))
    refine x_iloadn (pc := 92) (i0 := 3) (j := 3) (dK D_Law_runs_0 49 rfl) rfl rfl ?_
    refine wx_icmp_eq (pc := 93) (t := 98) (dK D_Law_runs_1 0 rfl) rfl h_p19 hx3_p18 (fun hc21 => ?_) (fun hc21 => ?_)
    · replace h := ifP h hc21
      refine nmE h ?_
      clear h
      intro v20 e_v20 h
      refine wx_iinc (pc := 98) (j := 2) (a := a2) (z := 1) (ls2 := [(2, V v20), (0, .ref 0), (1, .ref c1), (3, V p18)]) (dK D_Law_runs_1 3 rfl) rfl e_v20 (ltK rfl) rfl ?_
      refine x_goto (pc := 101) (tgt := 2) (dK D_Law_runs_1 4 rfl) rfl ?_
      refine x_weak (ls' := [(0, .ref 0), (1, .ref c1), (2, V v20)]) (sbc 1 rfl (sbc 2 rfl (sbc 0 rfl sbn))) ?_
      replace h := ih _ _ h
      exact h _ _ hb (Vn_in e_v20) hx hr
    · replace h := ifN h hc21
      refine wx_iconst (pc := 96) (dK D_Law_runs_1 1 rfl) ?_
      obtain rfl := Option.some.inj h
      exact wk_iretB (pc := 97) (b := false) (dK D_Law_runs_1 2 rfl) rfl (Nat.le_trans (bdk hb) hkt) (Nat.le_trans (bdn hb) hnt) (hr (false, (S, L)) rfl)
def gn_Law_runs (c1 : Nat) (S : St) (L : List PC) : Option ((Bool × LZ) × Nat × Nat) := bnT (lo2_Law_runs_2 c1 FU (1, (S, L))) (fun r24 => some ((r24.1, (r24.2.1, r24.2.2)), 0, 0)) fun e25 => some ((true, (e25.1, e25.2)), 0, 0)
theorem te_Law_runs {sc : SC} {c1 : Nat} {S : St} {L : List PC} {q : (Bool × LZ) × Nat × Nat} (h : gn_Law_runs c1 S L = some q) {mc ms k n : Nat} (hb : Bd k n mc ms q) : GX sc M_Law_runs mc ms 0 [(0, .ref 0), (1, .ref c1)] [] (wz (S, L)) k n (KXB q.1.1 q.1.2) := by
  unfold gn_Law_runs at h
  refine wx_iconst (pc := 0) (dK D_Law_runs_0 0 rfl) ?_
  refine x_istoren (pc := 1) (i0 := 2) (ls2 := [(2, V 1), (0, .ref 0), (1, .ref c1)]) (dK D_Law_runs_0 1 rfl) rfl (ltK rfl) rfl ?_
  refine bnTE h ?_ ?_
  · clear h
    intro p23 r24 yp23 e_p23 f_p23 h e9
    subst e9
    have hk1 := bd1 hb
    have hn1 := bd2 hb
    replace hb := bdA hb
    refine x_weak (ls' := [(0, .ref 0), (1, .ref c1), (2, V 1)]) (sbc 1 rfl (sbc 2 rfl (sbc 0 rfl sbn))) ?_
    refine tl2_Law_runs_2  hk1 hn1 FU _ _ e_p23 _ _ ⟨Nat.le_refl _, Nat.le_refl _⟩ (inRk rfl) (fun _ g_ => by rw [f_p23] at g_; exact nomatch g_) (fun r_ g_  => ?_)
    obtain rfl := Sum.inl.inj (f_p23.symm.trans g_)
    obtain rfl := Option.some.inj h
    exact ⟨rfl, rfl⟩
  · clear h
    intro p23 e25 yp23 e_p23 f_p23 h e9
    subst e9
    have hk1 := bd1 hb
    have hn1 := bd2 hb
    replace hb := bdA hb
    refine x_weak (ls' := [(0, .ref 0), (1, .ref c1), (2, V 1)]) (sbc 1 rfl (sbc 2 rfl (sbc 0 rfl sbn))) ?_
    refine tl2_Law_runs_2  hk1 hn1 FU _ _ e_p23 _ _ ⟨Nat.le_refl _, Nat.le_refl _⟩ (inRk rfl) (fun e_ g_  => ?_) (fun _ g_ => by rw [f_p23] at g_; exact nomatch g_)
    obtain rfl := Sum.inr.inj (f_p23.symm.trans g_)
    refine wx_iconst (pc := 104) (dK D_Law_runs_1 5 rfl) ?_
    obtain rfl := Option.some.inj h
    exact wk_iretB (pc := 105) (b := true) (dK D_Law_runs_1 6 rfl) rfl (bdk hb) (bdn hb) ⟨rfl, rfl⟩
theorem tg_Law_runs {sc : SC} {c1 : Nat} {S : St} {L : List PC} {q : (Bool × LZ) × Nat × Nat} (h : gn_Law_runs c1 S L = some q) : EvX sc M_Law_runs [.ref 0, .ref c1] (wz (S, L)) q.2.1 q.2.2 (KXB q.1.1 q.1.2) := EvX.of pn2_Law rfl (leK rfl) (te_Law_runs  h ⟨Nat.le_of_eq (Nat.zero_add _), Nat.le_of_eq (Nat.zero_add _)⟩)
def lb2_Law_pages_117 (c1 : Nat) (a2 : Int) (a3 : Int) (c4 : Nat) (c5 : Nat) (a6 : Int) (c7 : Nat) (go : Int × LZ → Option (((Bool × LZ) ⊕ (LZ)) × Nat × Nat)) (a8 : Int) (S : St) (L : List PC) : Option (((Bool × LZ) ⊕ (LZ)) × Nat × Nat) := if 8 ≤ a8 then (some (.inr (S, L), 0, 0)) else (bnO (fn_FP_page 0 a3 a8 S) fun p42 => if p42.1 = 0 then (adC 1 6 (bnO (ald L 0 c7 a8) fun v43 => if p42.2 = v43 then (nm (wr (a8 + 1)) fun v44 => go (v44, (S, L))) else (some (.inl (false, (S, L)), 0, 0)))) else none)
def lo2_Law_pages_117 (c1 : Nat) (a2 : Int) (a3 : Int) (c4 : Nat) (c5 : Nat) (a6 : Int) (c7 : Nat) : Nat → Int × LZ → Option (((Bool × LZ) ⊕ (LZ)) × Nat × Nat) := lp fun go p => lb2_Law_pages_117 c1 a2 a3 c4 c5 a6 c7 go p.1 p.2.1 p.2.2
theorem tl2_Law_pages_117 {sc : SC} {c1 : Nat} {a2 : Int} (ha2 : inR a2) {a3 : Int} (ha3 : inR a3) {c4 : Nat} {c5 : Nat} {a6 : Int} (ha6 : inR a6) {c7 : Nat} {K : Option Value → List PC → Prop} {mc ms kt nt : Nat} (hkt : kt ≤ mc) (hnt : nt ≤ ms) : ∀ (N : Nat) (a : Int × LZ) (q : ((Bool × LZ) ⊕ (LZ)) × Nat × Nat), lo2_Law_pages_117 c1 a2 a3 c4 c5 a6 c7 N a = some q → ∀ k n, Bd k n kt nt q → inR a.1 → (∀ e, q.1 = .inr e → GX sc M_Law_pages mc ms 147 [(0, .ref 0), (1, .ref c1), (2, V a2), (3, V a3), (4, .ref c4), (5, .ref c5), (6, V a6)] [] (wz e) kt nt K) → (∀ r, q.1 = .inl r → K (some (V (bi r.1))) (wz r.2)) → GX sc M_Law_pages mc ms 117 [(0, .ref 0), (1, .ref c1), (2, V a2), (3, V a3), (4, .ref c4), (5, .ref c5), (6, V a6), (7, .ref c7), (8, V a.1)] [] (wz a.2) k n K := by
  refine lp_ind2 (P := fun (a : Int × LZ) (q : ((Bool × LZ) ⊕ (LZ)) × Nat × Nat) => ∀ k n, Bd k n kt nt q → inR a.1 → (∀ e, q.1 = .inr e → GX sc M_Law_pages mc ms 147 [(0, .ref 0), (1, .ref c1), (2, V a2), (3, V a3), (4, .ref c4), (5, .ref c5), (6, V a6)] [] (wz e) kt nt K) → (∀ r, q.1 = .inl r → K (some (V (bi r.1))) (wz r.2)) → GX sc M_Law_pages mc ms 117 [(0, .ref 0), (1, .ref c1), (2, V a2), (3, V a3), (4, .ref c4), (5, .ref c5), (6, V a6), (7, .ref c7), (8, V a.1)] [] (wz a.2) k n K) (fun go ih a q h => ?_)
  obtain ⟨a8, ⟨S, L⟩⟩ := a
  intro k n hb ha8 hx hr
  show GX sc M_Law_pages mc ms 117 [(0, .ref 0), (1, .ref c1), (2, V a2), (3, V a3), (4, .ref c4), (5, .ref c5), (6, V a6), (7, .ref c7), (8, V a8)] [] (wz (S, L)) k n K
  replace h : lb2_Law_pages_117 c1 a2 a3 c4 c5 a6 c7 go a8 S L = some q := h
  unfold lb2_Law_pages_117 at h
  refine x_iload (pc := 117) (j := 8) (dK D_Law_pages_1 30 rfl) rfl ?_
  refine wx_bipush (pc := 119) (dK D_Law_pages_1 31 rfl) rfl ?_
  refine wx_icmp_ge (pc := 121) (t := 147) (dK D_Law_pages_1 32 rfl) rfl ha8 (inRk rfl) (fun hc46 => ?_) (fun hc46 => ?_)
  · replace h := ifP h hc46
    obtain rfl := Option.some.inj h
    refine x_weak (ls' := [(0, .ref 0), (1, .ref c1), (2, V a2), (3, V a3), (4, .ref c4), (5, .ref c5), (6, V a6)]) (sbc 0 rfl (sbc 1 rfl (sbc 2 rfl (sbc 3 rfl (sbc 4 rfl (sbc 5 rfl (sbc 6 rfl sbn))))))) ?_
    refine x_room (bdk hb) (bdn hb) ?_
    exact hx (S, L) rfl
  · replace h := ifN h hc46
    refine x_aloadn (pc := 124) (i0 := 0) (j := 0) (dK D_Law_pages_1 33 rfl) rfl rfl ?_
    refine x_iloadn (pc := 125) (i0 := 3) (j := 3) (dK D_Law_pages_1 34 rfl) rfl rfl ?_
    refine x_iload (pc := 126) (j := 8) (dK D_Law_pages_1 35 rfl) rfl ?_
    refine bnE h ?_
    clear h
    intro p42 e_p42 h
    refine gdE h ?_
    clear h
    intro hz_p42 h
    obtain ⟨yp42, h9, e9⟩ := adE2 h
    clear h
    subst e9
    have h := h9
    clear h9
    have hk1 := Nat.le_trans (bd1 hb) hkt
    have hn1 := Nat.le_trans (bd2 hb) hnt
    replace hb := bdA hb
    refine x_callX (pc := 128) (As := [V a3, V a8]) (rest := []) (mc' := 1) (ms' := 6) (dK D_Law_pages_1 36 rfl) Q_Law_28 sx_FP_page (fitK rfl) (isK_at (Z := (S, L)) (ci := 10) isK0) rfl (leK rfl) hk1 hn1 (clTI hz_p42 (fun E => tf_FP_page (X := xz L) rfl xz_hc ha3 ha8 e_p42)) (kxI' (fun h_p42 => ?_))
    refine x_aload (pc := 131) (j := 7) (dK D_Law_pages_1 37 rfl) rfl ?_
    refine x_iload (pc := 133) (j := 8) (dK D_Law_pages_1 38 rfl) rfl ?_
    refine bnE h ?_
    clear h
    intro v43 e_v43 h
    refine wx_iald (pc := 135) e_v43 ha8 (dK D_Law_pages_1 39 rfl) ?_
    refine wx_icmp_eq (pc := 136) (t := 141) (dK D_Law_pages_1 40 rfl) rfl h_p42 (vI_at e_v43).2 (fun hc45 => ?_) (fun hc45 => ?_)
    · replace h := ifP h hc45
      refine nmE h ?_
      clear h
      intro v44 e_v44 h
      refine wx_iinc (pc := 141) (j := 8) (a := a8) (z := 1) (ls2 := [(8, V v44), (0, .ref 0), (1, .ref c1), (2, V a2), (3, V a3), (4, .ref c4), (5, .ref c5), (6, V a6), (7, .ref c7)]) (dK D_Law_pages_1 43 rfl) rfl e_v44 (ltK rfl) rfl ?_
      refine x_goto (pc := 144) (tgt := 117) (dK D_Law_pages_1 44 rfl) rfl ?_
      refine x_weak (ls' := [(0, .ref 0), (1, .ref c1), (2, V a2), (3, V a3), (4, .ref c4), (5, .ref c5), (6, V a6), (7, .ref c7), (8, V v44)]) (sbc 1 rfl (sbc 2 rfl (sbc 3 rfl (sbc 4 rfl (sbc 5 rfl (sbc 6 rfl (sbc 7 rfl (sbc 8 rfl (sbc 0 rfl sbn))))))))) ?_
      replace h := ih _ _ h
      exact h _ _ hb (Vn_in e_v44) hx hr
    · replace h := ifN h hc45
      refine wx_iconst (pc := 139) (dK D_Law_pages_1 41 rfl) ?_
      obtain rfl := Option.some.inj h
      exact wk_iretB (pc := 140) (b := false) (dK D_Law_pages_1 42 rfl) rfl (Nat.le_trans (bdk hb) hkt) (Nat.le_trans (bdn hb) hnt) (hr (false, (S, L)) rfl)
def lb2_Law_pages_150 (c1 : Nat) (a2 : Int) (a3 : Int) (c4 : Nat) (c5 : Nat) (a6 : Int) (go : Int × LZ → Option (((Bool × LZ) ⊕ (LZ)) × Nat × Nat)) (a8 : Int) (S : St) (L : List PC) : Option (((Bool × LZ) ⊕ (LZ)) × Nat × Nat) := if isK L c4 13 = true then (bnO (gn_AL_size c4 S L) fun p50 => if p50 < a8 then (some (.inr (S, L), 0, 0)) else (bnO (fn_FP_adOn 0 a3 a8 S) fun p52 => if p52.1 = 0 then (adC 1 6 (if isK L c4 13 = true then (bnO (gn_AL_size c4 S L) fun p53 => if p53 ≤ a8 then (if p52.2 = (-1) then (nm (wr (a8 + 1)) fun v55 => go (v55, (S, L))) else (some (.inl (false, (S, L)), 0, 0))) else (if isK L c4 13 = true then (bnO (gn_AL_get c4 a8 S L) fun p57 => rfB p57 fun r59 => if isK L r59 17 = true then (if isK L r59 17 = true then (bnO (gn_Integer_intValue r59 S L) fun p61 => if p52.2 = p61 then (nm (wr (a8 + 1)) fun v63 => go (v63, (S, L))) else (some (.inl (false, (S, L)), 0, 0))) else none) else none) else none)) else none)) else none)) else none
def lo2_Law_pages_150 (c1 : Nat) (a2 : Int) (a3 : Int) (c4 : Nat) (c5 : Nat) (a6 : Int) : Nat → Int × LZ → Option (((Bool × LZ) ⊕ (LZ)) × Nat × Nat) := lp fun go p => lb2_Law_pages_150 c1 a2 a3 c4 c5 a6 go p.1 p.2.1 p.2.2
theorem tl2_Law_pages_150 {sc : SC} {c1 : Nat} {a2 : Int} (ha2 : inR a2) {a3 : Int} (ha3 : inR a3) {c4 : Nat} {c5 : Nat} {a6 : Int} (ha6 : inR a6) {K : Option Value → List PC → Prop} {mc ms kt nt : Nat} (hkt : kt ≤ mc) (hnt : nt ≤ ms) : ∀ (N : Nat) (a : Int × LZ) (q : ((Bool × LZ) ⊕ (LZ)) × Nat × Nat), lo2_Law_pages_150 c1 a2 a3 c4 c5 a6 N a = some q → ∀ k n, Bd k n kt nt q → inR a.1 → (∀ e, q.1 = .inr e → GX sc M_Law_pages mc ms 205 [(0, .ref 0), (1, .ref c1), (2, V a2), (3, V a3), (4, .ref c4), (5, .ref c5), (6, V a6)] [] (wz e) kt nt K) → (∀ r, q.1 = .inl r → K (some (V (bi r.1))) (wz r.2)) → GX sc M_Law_pages mc ms 150 [(0, .ref 0), (1, .ref c1), (2, V a2), (3, V a3), (4, .ref c4), (5, .ref c5), (6, V a6), (8, V a.1)] [] (wz a.2) k n K := by
  refine lp_ind2 (P := fun (a : Int × LZ) (q : ((Bool × LZ) ⊕ (LZ)) × Nat × Nat) => ∀ k n, Bd k n kt nt q → inR a.1 → (∀ e, q.1 = .inr e → GX sc M_Law_pages mc ms 205 [(0, .ref 0), (1, .ref c1), (2, V a2), (3, V a3), (4, .ref c4), (5, .ref c5), (6, V a6)] [] (wz e) kt nt K) → (∀ r, q.1 = .inl r → K (some (V (bi r.1))) (wz r.2)) → GX sc M_Law_pages mc ms 150 [(0, .ref 0), (1, .ref c1), (2, V a2), (3, V a3), (4, .ref c4), (5, .ref c5), (6, V a6), (8, V a.1)] [] (wz a.2) k n K) (fun go ih a q h => ?_)
  obtain ⟨a8, ⟨S, L⟩⟩ := a
  intro k n hb ha8 hx hr
  show GX sc M_Law_pages mc ms 150 [(0, .ref 0), (1, .ref c1), (2, V a2), (3, V a3), (4, .ref c4), (5, .ref c5), (6, V a6), (8, V a8)] [] (wz (S, L)) k n K
  replace h : lb2_Law_pages_150 c1 a2 a3 c4 c5 a6 go a8 S L = some q := h
  unfold lb2_Law_pages_150 at h
  refine x_iload (pc := 150) (j := 7) (dK D_Law_pages_1 47 rfl) rfl ?_
  refine x_aload (pc := 152) (j := 4) (dK D_Law_pages_1 48 rfl) rfl ?_
  refine gdE h ?_
  clear h
  intro hk51 h
  refine bnE h ?_
  clear h
  intro p50 e_p50 h
  refine x_callX (pc := 154) (As := []) (rest := [V a8]) (mc' := 0) (ms' := 0) (dK D_Law_pages_1 49 rfl) Q_Law_55 sx_AL_size (fitK rfl) (isK_at (Z := (S, L)) (ci := 13) hk51) rfl (leK rfl) (Nat.le_trans (bdk hb) hkt) (Nat.le_trans (bdn hb) hnt) (tg_AL_size  e_p50) (kxI' (fun h_p50 => ?_))
  refine wx_icmp_gt (pc := 157) (t := 205) (dK D_Law_pages_2 0 rfl) rfl ha8 h_p50 (fun hc66 => ?_) (fun hc66 => ?_)
  · replace h := ifP h hc66
    obtain rfl := Option.some.inj h
    refine x_weak (ls' := [(0, .ref 0), (1, .ref c1), (2, V a2), (3, V a3), (4, .ref c4), (5, .ref c5), (6, V a6)]) (sbc 0 rfl (sbc 1 rfl (sbc 2 rfl (sbc 3 rfl (sbc 4 rfl (sbc 5 rfl (sbc 6 rfl sbn))))))) ?_
    refine x_room (bdk hb) (bdn hb) ?_
    exact hx (S, L) rfl
  · replace h := ifN h hc66
    refine x_aloadn (pc := 160) (i0 := 0) (j := 0) (dK D_Law_pages_2 1 rfl) rfl rfl ?_
    refine x_iloadn (pc := 161) (i0 := 3) (j := 3) (dK D_Law_pages_2 2 rfl) rfl rfl ?_
    refine x_iload (pc := 162) (j := 7) (dK D_Law_pages_2 3 rfl) rfl ?_
    refine bnE h ?_
    clear h
    intro p52 e_p52 h
    refine gdE h ?_
    clear h
    intro hz_p52 h
    obtain ⟨yp52, h9, e9⟩ := adE2 h
    clear h
    subst e9
    have h := h9
    clear h9
    have hk1 := Nat.le_trans (bd1 hb) hkt
    have hn1 := Nat.le_trans (bd2 hb) hnt
    replace hb := bdA hb
    refine x_callX (pc := 164) (As := [V a3, V a8]) (rest := []) (mc' := 1) (ms' := 6) (dK D_Law_pages_2 4 rfl) Q_Law_153 sx_FP_adOn (fitK rfl) (isK_at (Z := (S, L)) (ci := 10) isK0) rfl (leK rfl) hk1 hn1 (clTI hz_p52 (fun E => tf_FP_adOn (X := xz L) rfl xz_hc ha3 ha8 e_p52)) (kxI' (fun h_p52 => ?_))
    refine x_iload (pc := 167) (j := 7) (dK D_Law_pages_2 5 rfl) rfl ?_
    refine x_aload (pc := 169) (j := 4) (dK D_Law_pages_2 6 rfl) rfl ?_
    refine gdE h ?_
    clear h
    intro hk54 h
    refine bnE h ?_
    clear h
    intro p53 e_p53 h
    refine x_callX (pc := 171) (As := []) (rest := [V a8, V p52.2]) (mc' := 0) (ms' := 0) (dK D_Law_pages_2 7 rfl) Q_Law_55 sx_AL_size (fitK rfl) (isK_at (Z := (S, L)) (ci := 13) hk54) rfl (leK rfl) (Nat.le_trans (bdk hb) hkt) (Nat.le_trans (bdn hb) hnt) (tg_AL_size  e_p53) (kxI' (fun h_p53 => ?_))
    refine wx_icmp_ge (pc := 174) (t := 193) (dK D_Law_pages_2 8 rfl) rfl ha8 h_p53 (fun hc65 => ?_) (fun hc65 => ?_)
    · replace h := ifP h hc65
      refine wx_iconst (pc := 193) (dK D_Law_pages_2 15 rfl) ?_
      refine wx_icmp_eq (pc := 194) (t := 199) (dK D_Law_pages_2 16 rfl) rfl h_p52 (inRk rfl) (fun hc56 => ?_) (fun hc56 => ?_)
      · replace h := ifP h hc56
        refine nmE h ?_
        clear h
        intro v55 e_v55 h
        refine wx_iinc (pc := 199) (j := 7) (a := a8) (z := 1) (ls2 := [(8, V v55), (0, .ref 0), (1, .ref c1), (2, V a2), (3, V a3), (4, .ref c4), (5, .ref c5), (6, V a6)]) (dK D_Law_pages_2 19 rfl) rfl e_v55 (ltK rfl) rfl ?_
        refine x_goto (pc := 202) (tgt := 150) (dK D_Law_pages_2 20 rfl) rfl ?_
        refine x_weak (ls' := [(0, .ref 0), (1, .ref c1), (2, V a2), (3, V a3), (4, .ref c4), (5, .ref c5), (6, V a6), (8, V v55)]) (sbc 1 rfl (sbc 2 rfl (sbc 3 rfl (sbc 4 rfl (sbc 5 rfl (sbc 6 rfl (sbc 7 rfl (sbc 0 rfl sbn)))))))) ?_
        replace h := ih _ _ h
        exact h _ _ hb (Vn_in e_v55) hx hr
      · replace h := ifN h hc56
        refine wx_iconst (pc := 197) (dK D_Law_pages_2 17 rfl) ?_
        obtain rfl := Option.some.inj h
        exact wk_iretB (pc := 198) (b := false) (dK D_Law_pages_2 18 rfl) rfl (Nat.le_trans (bdk hb) hkt) (Nat.le_trans (bdn hb) hnt) (hr (false, (S, L)) rfl)
    · replace h := ifN h hc65
      refine x_aload (pc := 177) (j := 4) (dK D_Law_pages_2 9 rfl) rfl ?_
      refine x_iload (pc := 179) (j := 7) (dK D_Law_pages_2 10 rfl) rfl ?_
      refine gdE h ?_
      clear h
      intro hk58 h
      refine bnE h ?_
      clear h
      intro p57 e_p57 h
      refine x_callX (pc := 181) (As := [V a8]) (rest := [V p52.2]) (mc' := 0) (ms' := 0) (dK D_Law_pages_2 11 rfl) Q_Law_69 sx_AL_get (fitK rfl) (isK_at (Z := (S, L)) (ci := 13) hk58) rfl (leK rfl) (Nat.le_trans (bdk hb) hkt) (Nat.le_trans (bdn hb) hnt) (tg_AL_get ha8 e_p57) (kxR (fun h_p57 => ?_))
      refine rfE h ?_
      clear h
      intro r59 e_r59 h
      rw [e_r59]
      refine gdE h ?_
      clear h
      intro hk60 h
      refine x_cast (pc := 184) (dK D_Law_pages_2 12 rfl) q_1269 (isK_at (Z := (S, L)) (ci := 17) hk60) ?_
      refine gdE h ?_
      clear h
      intro hk62 h
      refine bnE h ?_
      clear h
      intro p61 e_p61 h
      refine x_callX (pc := 187) (As := []) (rest := [V p52.2]) (mc' := 0) (ms' := 0) (dK D_Law_pages_2 13 rfl) Q_Law_158 sx_Integer_intValue (fitK rfl) (isK_at (Z := (S, L)) (ci := 17) hk62) rfl (leK rfl) (Nat.le_trans (bdk hb) hkt) (Nat.le_trans (bdn hb) hnt) (tg_Integer_intValue  e_p61) (kxI' (fun h_p61 => ?_))
      refine x_goto (pc := 190) (tgt := 194) (dK D_Law_pages_2 14 rfl) rfl ?_
      refine wx_icmp_eq (pc := 194) (t := 199) (dK D_Law_pages_2 16 rfl) rfl h_p52 h_p61 (fun hc64 => ?_) (fun hc64 => ?_)
      · replace h := ifP h hc64
        refine nmE h ?_
        clear h
        intro v63 e_v63 h
        refine wx_iinc (pc := 199) (j := 7) (a := a8) (z := 1) (ls2 := [(8, V v63), (0, .ref 0), (1, .ref c1), (2, V a2), (3, V a3), (4, .ref c4), (5, .ref c5), (6, V a6)]) (dK D_Law_pages_2 19 rfl) rfl e_v63 (ltK rfl) rfl ?_
        refine x_goto (pc := 202) (tgt := 150) (dK D_Law_pages_2 20 rfl) rfl ?_
        refine x_weak (ls' := [(0, .ref 0), (1, .ref c1), (2, V a2), (3, V a3), (4, .ref c4), (5, .ref c5), (6, V a6), (8, V v63)]) (sbc 1 rfl (sbc 2 rfl (sbc 3 rfl (sbc 4 rfl (sbc 5 rfl (sbc 6 rfl (sbc 7 rfl (sbc 0 rfl sbn)))))))) ?_
        replace h := ih _ _ h
        exact h _ _ hb (Vn_in e_v63) hx hr
      · replace h := ifN h hc64
        refine wx_iconst (pc := 197) (dK D_Law_pages_2 17 rfl) ?_
        obtain rfl := Option.some.inj h
        exact wk_iretB (pc := 198) (b := false) (dK D_Law_pages_2 18 rfl) rfl (Nat.le_trans (bdk hb) hkt) (Nat.le_trans (bdn hb) hnt) (hr (false, (S, L)) rfl)
def lb2_Law_pages_250 (c1 : Nat) (a2 : Int) (a3 : Int) (c5 : Nat) (a6 : Int) (c9 : Nat) (go : Value × LZ → Option ((Value × LZ) × Nat × Nat)) (c8 : Value) (S : St) (L : List PC) : Option ((Value × LZ) × Nat × Nat) := if isK L c9 14 = true then (bnO (gn_Itr_hasNext c9 S L) fun p90 => if p90 = true then (if isK L c9 14 = true then (bnO (gn_Itr_next c9 S L) fun p93 => adC p93.2.1 p93.2.2 (rfB p93.1.1 fun r95 => if isK p93.1.2.2 r95 17 = true then (if isK p93.1.2.2 r95 17 = true then (bnO (gn_Integer_intValue r95 p93.1.2.1 p93.1.2.2) fun p97 => if p93.1.2.2.length < 900000000 then adC 1 4 (nw p93.1.2.2 (15, dfl 15) fun r100 L101 => bnO (gn_SB_init r100 p93.1.2.1 L101) fun p103 => adC p103.2.1 p103.2.2 (rfB c8 fun r104 => if isK p103.1.2 r100 15 = true then (bnO (gn_SB_append r100 r104 p103.1.1 p103.1.2) fun p105 => adC p105.2.1 p105.2.2 (rfB p105.1.1 fun r107 => if isK p105.1.2.2 r107 15 = true then (bnO (gn_SB_append r107 (XB + 10) p105.1.2.1 p105.1.2.2) fun p108 => adC p108.2.1 p108.2.2 (rfB p108.1.1 fun r110 => if isK p108.1.2.2 r110 15 = true then (bnO (gn_SB_append2 r110 p97 p108.1.2.1 p108.1.2.2) fun p111 => adC p111.2.1 p111.2.2 (rfB p111.1.1 fun r113 => if isK p111.1.2.2 r113 15 = true then (bnO (gn_SB_toString r113 p111.1.2.1 p111.1.2.2) fun p114 => adC p114.2.1 p114.2.2 (go (p114.1.1, (p114.1.2.1, p114.1.2.2)))) else none)) else none)) else none)) else none)) else none) else none) else none)) else none) else (some ((c8, (S, L)), 0, 0))) else none
def lo2_Law_pages_250 (c1 : Nat) (a2 : Int) (a3 : Int) (c5 : Nat) (a6 : Int) (c9 : Nat) : Nat → Value × LZ → Option ((Value × LZ) × Nat × Nat) := lp fun go p => lb2_Law_pages_250 c1 a2 a3 c5 a6 c9 go p.1 p.2.1 p.2.2
theorem tl2_Law_pages_250 {sc : SC} {c1 : Nat} {a2 : Int} (ha2 : inR a2) {a3 : Int} (ha3 : inR a3) {c5 : Nat} {a6 : Int} (ha6 : inR a6) {c9 : Nat} {K : Option Value → List PC → Prop} {mc ms kt nt : Nat} (hkt : kt ≤ mc) (hnt : nt ≤ ms) : ∀ (N : Nat) (a : Value × LZ) (q : (Value × LZ) × Nat × Nat), lo2_Law_pages_250 c1 a2 a3 c5 a6 c9 N a = some q → ∀ k n, Bd k n kt nt q → (a.1 = .null ∨ ∃ b, a.1 = .ref b) → ((q.1.1 = .null ∨ ∃ b, q.1.1 = .ref b) → GX sc M_Law_pages mc ms 305 [(0, .ref 0), (1, .ref c1), (2, V a2), (3, V a3), (5, .ref c5), (6, V a6), (8, q.1.1)] [] (wz q.1.2) kt nt K) → GX sc M_Law_pages mc ms 250 [(0, .ref 0), (1, .ref c1), (2, V a2), (3, V a3), (5, .ref c5), (6, V a6), (8, a.1), (9, .ref c9)] [] (wz a.2) k n K := by
  refine lp_ind2 (P := fun (a : Value × LZ) (q : (Value × LZ) × Nat × Nat) => ∀ k n, Bd k n kt nt q → (a.1 = .null ∨ ∃ b, a.1 = .ref b) → ((q.1.1 = .null ∨ ∃ b, q.1.1 = .ref b) → GX sc M_Law_pages mc ms 305 [(0, .ref 0), (1, .ref c1), (2, V a2), (3, V a3), (5, .ref c5), (6, V a6), (8, q.1.1)] [] (wz q.1.2) kt nt K) → GX sc M_Law_pages mc ms 250 [(0, .ref 0), (1, .ref c1), (2, V a2), (3, V a3), (5, .ref c5), (6, V a6), (8, a.1), (9, .ref c9)] [] (wz a.2) k n K) (fun go ih a q h => ?_)
  obtain ⟨c8, ⟨S, L⟩⟩ := a
  intro k n hb hc8 hx
  show GX sc M_Law_pages mc ms 250 [(0, .ref 0), (1, .ref c1), (2, V a2), (3, V a3), (5, .ref c5), (6, V a6), (8, c8), (9, .ref c9)] [] (wz (S, L)) k n K
  replace h : lb2_Law_pages_250 c1 a2 a3 c5 a6 c9 go c8 S L = some q := h
  unfold lb2_Law_pages_250 at h
  refine x_aload (pc := 250) (j := 7) (dK D_Law_pages_2 41 rfl) rfl ?_
  refine gdE h ?_
  clear h
  intro hk91 h
  refine bnE h ?_
  clear h
  intro p90 e_p90 h
  refine x_callF (pc := 252) (As := []) (rest := []) (mc' := 0) (ms' := 0) (dK D_Law_pages_2 42 rfl) LE_Itr_hasNext (List.mem_of_getElem? (i := 0) rfl) q_1469 q_843 q_845 rfl q_820 (fitK rfl) (isK_at (Z := (S, L)) (ci := 14) hk91) rfl (leK rfl) (Nat.le_trans (bdk hb) hkt) (Nat.le_trans (bdn hb) hnt) (tg_Itr_hasNext  e_p90) (kxB' ?_)
  refine wx_ifB_eq (pc := 257) (b := p90) (t := 305) (dK D_Law_pages_2 43 rfl) rfl (fun hc92 => ?_) (fun hc92 => ?_)
  · replace h := ifP h hc92
    refine x_aload (pc := 260) (j := 7) (dK D_Law_pages_2 44 rfl) rfl ?_
    refine gdE h ?_
    clear h
    intro hk94 h
    refine bnE h ?_
    clear h
    intro p93 e_p93 h
    obtain ⟨yp93, h9, e9⟩ := adE2 h
    clear h
    subst e9
    have h := h9
    clear h9
    have hk1 := Nat.le_trans (bd1 hb) hkt
    have hn1 := Nat.le_trans (bd2 hb) hnt
    replace hb := bdA hb
    refine x_callF (pc := 262) (As := []) (rest := []) (mc' := p93.2.1) (ms' := p93.2.2) (dK D_Law_pages_2 45 rfl) LE_Itr_next (List.mem_of_getElem? (i := 1) rfl) q_1471 q_852 q_854 rfl q_820 (fitK rfl) (isK_at (Z := (S, L)) (ci := 14) hk94) rfl (leK rfl) hk1 hn1 (tg_Itr_next  e_p93) (kxR (fun h_p93 => ?_))
    refine rfE h ?_
    clear h
    intro r95 e_r95 h
    rw [e_r95]
    refine gdE h ?_
    clear h
    intro hk96 h
    refine x_cast (pc := 267) (dK D_Law_pages_2 46 rfl) q_1269 (isK_at (Z := (p93.1.2.1, p93.1.2.2)) (ci := 17) hk96) ?_
    refine gdE h ?_
    clear h
    intro hk98 h
    refine bnE h ?_
    clear h
    intro p97 e_p97 h
    refine x_callX (pc := 270) (As := []) (rest := []) (mc' := 0) (ms' := 0) (dK D_Law_pages_2 47 rfl) Q_Law_158 sx_Integer_intValue (fitK rfl) (isK_at (Z := (p93.1.2.1, p93.1.2.2)) (ci := 17) hk98) rfl (leK rfl) (Nat.le_trans (bdk hb) hkt) (Nat.le_trans (bdn hb) hnt) (tg_Integer_intValue  e_p97) (kxI' (fun h_p97 => ?_))
    refine x_istore (pc := 273) (ls2 := [(10, V p97), (0, .ref 0), (1, .ref c1), (2, V a2), (3, V a3), (5, .ref c5), (6, V a6), (8, c8), (9, .ref c9)]) (dK D_Law_pages_2 48 rfl) (ltK rfl) rfl ?_
    refine gdE h ?_
    clear h
    intro hl99 h
    obtain ⟨y102, h9, e9⟩ := adE2 h
    clear h
    subst e9
    have h := h9
    clear h9
    refine nwE h ?_
    clear h
    intro r100 L101 e_r100 e_L101 h
    have hk1 := Nat.le_trans (bd1 hb) hkt
    have hn1 := Nat.le_trans (bd2 hb) hnt
    replace hb := bdA hb
    refine wn_new (Z := (p93.1.2.1, p93.1.2.2)) (pc := 275) (ci := 15) (N := 4) e_r100 e_L101 hl99 rfl (dK D_Law_pages_2 49 rfl) (ltK rfl) q_1275 q_1276 q_33 hk1 hn1 ?_
    refine x_dup (pc := 278) (dK D_Law_pages_3 0 rfl) rfl ?_
    refine bnE h ?_
    clear h
    intro p103 e_p103 h
    obtain ⟨yp103, h9, e9⟩ := adE2 h
    clear h
    subst e9
    have h := h9
    clear h9
    have hk1 := Nat.le_trans (bd1 hb) hkt
    have hn1 := Nat.le_trans (bd2 hb) hnt
    replace hb := bdA hb
    refine x_callI (pc := 279) (As := []) (rest := [.ref r100]) (mc' := p103.2.1) (ms' := p103.2.2) (dK D_Law_pages_3 1 rfl) Q_Law_165 (fitK rfl) rfl (leK rfl) hk1 hn1 (tg_SB_init  e_p103) (kxU ?_)
    refine x_aloadV (pc := 282) (j := 7) hc8 (dK D_Law_pages_3 2 rfl) rfl ?_
    refine rfE h ?_
    clear h
    intro r104 e_r104 h
    rw [e_r104]
    refine gdE h ?_
    clear h
    intro hk106 h
    refine bnE h ?_
    clear h
    intro p105 e_p105 h
    obtain ⟨yp105, h9, e9⟩ := adE2 h
    clear h
    subst e9
    have h := h9
    clear h9
    have hk1 := Nat.le_trans (bd1 hb) hkt
    have hn1 := Nat.le_trans (bd2 hb) hnt
    replace hb := bdA hb
    refine x_callX (pc := 284) (As := [.ref r104]) (rest := []) (mc' := p105.2.1) (ms' := p105.2.2) (dK D_Law_pages_3 3 rfl) Q_Law_168 sx_SB_append (fitK rfl) (isK_at (Z := (p103.1.1, p103.1.2)) (ci := 15) hk106) rfl (leK rfl) hk1 hn1 (tg_SB_append  e_p105) (kxR (fun h_p105 => ?_))
    refine x_ldcS (own := "FlatPlanLaw") (text := " a") (j := 10) rfl (dK D_Law_pages_3 4 rfl) (List.mem_of_getElem? (i := 10) rfl) ?_
    refine rfE h ?_
    clear h
    intro r107 e_r107 h
    rw [e_r107]
    refine gdE h ?_
    clear h
    intro hk109 h
    refine bnE h ?_
    clear h
    intro p108 e_p108 h
    obtain ⟨yp108, h9, e9⟩ := adE2 h
    clear h
    subst e9
    have h := h9
    clear h9
    have hk1 := Nat.le_trans (bd1 hb) hkt
    have hn1 := Nat.le_trans (bd2 hb) hnt
    replace hb := bdA hb
    refine x_callX (pc := 289) (As := [.ref (XB + 10)]) (rest := []) (mc' := p108.2.1) (ms' := p108.2.2) (dK D_Law_pages_3 5 rfl) Q_Law_168 sx_SB_append (fitK rfl) (isK_at (Z := (p105.1.2.1, p105.1.2.2)) (ci := 15) hk109) rfl (leK rfl) hk1 hn1 (tg_SB_append  e_p108) (kxR (fun h_p108 => ?_))
    refine x_iload (pc := 292) (j := 0) (dK D_Law_pages_3 6 rfl) rfl ?_
    refine rfE h ?_
    clear h
    intro r110 e_r110 h
    rw [e_r110]
    refine gdE h ?_
    clear h
    intro hk112 h
    refine bnE h ?_
    clear h
    intro p111 e_p111 h
    obtain ⟨yp111, h9, e9⟩ := adE2 h
    clear h
    subst e9
    have h := h9
    clear h9
    have hk1 := Nat.le_trans (bd1 hb) hkt
    have hn1 := Nat.le_trans (bd2 hb) hnt
    replace hb := bdA hb
    refine x_callX (pc := 294) (As := [V p97]) (rest := []) (mc' := p111.2.1) (ms' := p111.2.2) (dK D_Law_pages_3 7 rfl) Q_Law_172 sx_SB_append2 (fitK rfl) (isK_at (Z := (p108.1.2.1, p108.1.2.2)) (ci := 15) hk112) rfl (leK rfl) hk1 hn1 (tg_SB_append2 h_p97 e_p111) (kxR (fun h_p111 => ?_))
    refine rfE h ?_
    clear h
    intro r113 e_r113 h
    rw [e_r113]
    refine gdE h ?_
    clear h
    intro hk115 h
    refine bnE h ?_
    clear h
    intro p114 e_p114 h
    obtain ⟨yp114, h9, e9⟩ := adE2 h
    clear h
    subst e9
    have h := h9
    clear h9
    have hk1 := Nat.le_trans (bd1 hb) hkt
    have hn1 := Nat.le_trans (bd2 hb) hnt
    replace hb := bdA hb
    refine x_callX (pc := 297) (As := []) (rest := []) (mc' := p114.2.1) (ms' := p114.2.2) (dK D_Law_pages_3 8 rfl) Q_Law_175 sx_SB_toString (fitK rfl) (isK_at (Z := (p111.1.2.1, p111.1.2.2)) (ci := 15) hk115) rfl (leK rfl) hk1 hn1 (tg_SB_toString  e_p114) (kxR (fun h_p114 => ?_))
    refine x_astoreV (pc := 300) (ls2 := [(8, p114.1.1), (10, V p97), (0, .ref 0), (1, .ref c1), (2, V a2), (3, V a3), (5, .ref c5), (6, V a6), (9, .ref c9)]) h_p114 (dK D_Law_pages_3 9 rfl) (ltK rfl) rfl ?_
    refine x_goto (pc := 302) (tgt := 250) (dK D_Law_pages_3 10 rfl) rfl ?_
    refine x_weak (ls' := [(0, .ref 0), (1, .ref c1), (2, V a2), (3, V a3), (5, .ref c5), (6, V a6), (8, p114.1.1), (9, .ref c9)]) (sbc 2 rfl (sbc 3 rfl (sbc 4 rfl (sbc 5 rfl (sbc 6 rfl (sbc 7 rfl (sbc 0 rfl (sbc 8 rfl sbn)))))))) ?_
    replace h := ih _ _ h
    exact h _ _ hb h_p114 hx
  · replace h := ifN h hc92
    obtain rfl := Option.some.inj h
    refine x_weak (ls' := [(0, .ref 0), (1, .ref c1), (2, V a2), (3, V a3), (5, .ref c5), (6, V a6), (8, c8)]) (sbc 0 rfl (sbc 1 rfl (sbc 2 rfl (sbc 3 rfl (sbc 4 rfl (sbc 5 rfl (sbc 6 rfl sbn))))))) ?_
    refine x_room (bdk hb) (bdn hb) ?_
    exact hx hc8
def lb2_Law_pages_312 (c1 : Nat) (a2 : Int) (a3 : Int) (a6 : Int) (c9 : Nat) (go : Value × LZ → Option ((Value × LZ) × Nat × Nat)) (c8 : Value) (S : St) (L : List PC) : Option ((Value × LZ) × Nat × Nat) := if isK L c9 14 = true then (bnO (gn_Itr_hasNext c9 S L) fun p120 => if p120 = true then (if isK L c9 14 = true then (bnO (gn_Itr_next c9 S L) fun p123 => adC p123.2.1 p123.2.2 (rfB p123.1.1 fun r125 => if isK p123.1.2.2 r125 17 = true then (if isK p123.1.2.2 r125 17 = true then (bnO (gn_Integer_intValue r125 p123.1.2.1 p123.1.2.2) fun p127 => if p123.1.2.2.length < 900000000 then adC 1 4 (nw p123.1.2.2 (15, dfl 15) fun r130 L131 => bnO (gn_SB_init r130 p123.1.2.1 L131) fun p133 => adC p133.2.1 p133.2.2 (rfB c8 fun r134 => if isK p133.1.2 r130 15 = true then (bnO (gn_SB_append r130 r134 p133.1.1 p133.1.2) fun p135 => adC p135.2.1 p135.2.2 (rfB p135.1.1 fun r137 => if isK p135.1.2.2 r137 15 = true then (bnO (gn_SB_append r137 (XB + 11) p135.1.2.1 p135.1.2.2) fun p138 => adC p138.2.1 p138.2.2 (rfB p138.1.1 fun r140 => if isK p138.1.2.2 r140 15 = true then (bnO (gn_SB_append2 r140 p127 p138.1.2.1 p138.1.2.2) fun p141 => adC p141.2.1 p141.2.2 (rfB p141.1.1 fun r143 => if isK p141.1.2.2 r143 15 = true then (bnO (gn_SB_toString r143 p141.1.2.1 p141.1.2.2) fun p144 => adC p144.2.1 p144.2.2 (go (p144.1.1, (p144.1.2.1, p144.1.2.2)))) else none)) else none)) else none)) else none)) else none) else none) else none)) else none) else (some ((c8, (S, L)), 0, 0))) else none
def lo2_Law_pages_312 (c1 : Nat) (a2 : Int) (a3 : Int) (a6 : Int) (c9 : Nat) : Nat → Value × LZ → Option ((Value × LZ) × Nat × Nat) := lp fun go p => lb2_Law_pages_312 c1 a2 a3 a6 c9 go p.1 p.2.1 p.2.2
theorem tl2_Law_pages_312 {sc : SC} {c1 : Nat} {a2 : Int} (ha2 : inR a2) {a3 : Int} (ha3 : inR a3) {a6 : Int} (ha6 : inR a6) {c9 : Nat} {K : Option Value → List PC → Prop} {mc ms kt nt : Nat} (hkt : kt ≤ mc) (hnt : nt ≤ ms) : ∀ (N : Nat) (a : Value × LZ) (q : (Value × LZ) × Nat × Nat), lo2_Law_pages_312 c1 a2 a3 a6 c9 N a = some q → ∀ k n, Bd k n kt nt q → (a.1 = .null ∨ ∃ b, a.1 = .ref b) → ((q.1.1 = .null ∨ ∃ b, q.1.1 = .ref b) → GX sc M_Law_pages mc ms 367 [(0, .ref 0), (1, .ref c1), (2, V a2), (3, V a3), (6, V a6), (8, q.1.1)] [] (wz q.1.2) kt nt K) → GX sc M_Law_pages mc ms 312 [(0, .ref 0), (1, .ref c1), (2, V a2), (3, V a3), (6, V a6), (8, a.1), (9, .ref c9)] [] (wz a.2) k n K := by
  refine lp_ind2 (P := fun (a : Value × LZ) (q : (Value × LZ) × Nat × Nat) => ∀ k n, Bd k n kt nt q → (a.1 = .null ∨ ∃ b, a.1 = .ref b) → ((q.1.1 = .null ∨ ∃ b, q.1.1 = .ref b) → GX sc M_Law_pages mc ms 367 [(0, .ref 0), (1, .ref c1), (2, V a2), (3, V a3), (6, V a6), (8, q.1.1)] [] (wz q.1.2) kt nt K) → GX sc M_Law_pages mc ms 312 [(0, .ref 0), (1, .ref c1), (2, V a2), (3, V a3), (6, V a6), (8, a.1), (9, .ref c9)] [] (wz a.2) k n K) (fun go ih a q h => ?_)
  obtain ⟨c8, ⟨S, L⟩⟩ := a
  intro k n hb hc8 hx
  show GX sc M_Law_pages mc ms 312 [(0, .ref 0), (1, .ref c1), (2, V a2), (3, V a3), (6, V a6), (8, c8), (9, .ref c9)] [] (wz (S, L)) k n K
  replace h : lb2_Law_pages_312 c1 a2 a3 a6 c9 go c8 S L = some q := h
  unfold lb2_Law_pages_312 at h
  refine x_aload (pc := 312) (j := 6) (dK D_Law_pages_3 14 rfl) rfl ?_
  refine gdE h ?_
  clear h
  intro hk121 h
  refine bnE h ?_
  clear h
  intro p120 e_p120 h
  refine x_callF (pc := 314) (As := []) (rest := []) (mc' := 0) (ms' := 0) (dK D_Law_pages_3 15 rfl) LE_Itr_hasNext (List.mem_of_getElem? (i := 0) rfl) q_1469 q_843 q_845 rfl q_820 (fitK rfl) (isK_at (Z := (S, L)) (ci := 14) hk121) rfl (leK rfl) (Nat.le_trans (bdk hb) hkt) (Nat.le_trans (bdn hb) hnt) (tg_Itr_hasNext  e_p120) (kxB' ?_)
  refine wx_ifB_eq (pc := 319) (b := p120) (t := 367) (dK D_Law_pages_3 16 rfl) rfl (fun hc122 => ?_) (fun hc122 => ?_)
  · replace h := ifP h hc122
    refine x_aload (pc := 322) (j := 6) (dK D_Law_pages_3 17 rfl) rfl ?_
    refine gdE h ?_
    clear h
    intro hk124 h
    refine bnE h ?_
    clear h
    intro p123 e_p123 h
    obtain ⟨yp123, h9, e9⟩ := adE2 h
    clear h
    subst e9
    have h := h9
    clear h9
    have hk1 := Nat.le_trans (bd1 hb) hkt
    have hn1 := Nat.le_trans (bd2 hb) hnt
    replace hb := bdA hb
    refine x_callF (pc := 324) (As := []) (rest := []) (mc' := p123.2.1) (ms' := p123.2.2) (dK D_Law_pages_3 18 rfl) LE_Itr_next (List.mem_of_getElem? (i := 1) rfl) q_1471 q_852 q_854 rfl q_820 (fitK rfl) (isK_at (Z := (S, L)) (ci := 14) hk124) rfl (leK rfl) hk1 hn1 (tg_Itr_next  e_p123) (kxR (fun h_p123 => ?_))
    refine rfE h ?_
    clear h
    intro r125 e_r125 h
    rw [e_r125]
    refine gdE h ?_
    clear h
    intro hk126 h
    refine x_cast (pc := 329) (dK D_Law_pages_3 19 rfl) q_1269 (isK_at (Z := (p123.1.2.1, p123.1.2.2)) (ci := 17) hk126) ?_
    refine gdE h ?_
    clear h
    intro hk128 h
    refine bnE h ?_
    clear h
    intro p127 e_p127 h
    refine x_callX (pc := 332) (As := []) (rest := []) (mc' := 0) (ms' := 0) (dK D_Law_pages_3 20 rfl) Q_Law_158 sx_Integer_intValue (fitK rfl) (isK_at (Z := (p123.1.2.1, p123.1.2.2)) (ci := 17) hk128) rfl (leK rfl) (Nat.le_trans (bdk hb) hkt) (Nat.le_trans (bdn hb) hnt) (tg_Integer_intValue  e_p127) (kxI' (fun h_p127 => ?_))
    refine x_istore (pc := 335) (ls2 := [(10, V p127), (0, .ref 0), (1, .ref c1), (2, V a2), (3, V a3), (6, V a6), (8, c8), (9, .ref c9)]) (dK D_Law_pages_3 21 rfl) (ltK rfl) rfl ?_
    refine gdE h ?_
    clear h
    intro hl129 h
    obtain ⟨y132, h9, e9⟩ := adE2 h
    clear h
    subst e9
    have h := h9
    clear h9
    refine nwE h ?_
    clear h
    intro r130 L131 e_r130 e_L131 h
    have hk1 := Nat.le_trans (bd1 hb) hkt
    have hn1 := Nat.le_trans (bd2 hb) hnt
    replace hb := bdA hb
    refine wn_new (Z := (p123.1.2.1, p123.1.2.2)) (pc := 337) (ci := 15) (N := 4) e_r130 e_L131 hl129 rfl (dK D_Law_pages_3 22 rfl) (ltK rfl) q_1275 q_1276 q_33 hk1 hn1 ?_
    refine x_dup (pc := 340) (dK D_Law_pages_3 23 rfl) rfl ?_
    refine bnE h ?_
    clear h
    intro p133 e_p133 h
    obtain ⟨yp133, h9, e9⟩ := adE2 h
    clear h
    subst e9
    have h := h9
    clear h9
    have hk1 := Nat.le_trans (bd1 hb) hkt
    have hn1 := Nat.le_trans (bd2 hb) hnt
    replace hb := bdA hb
    refine x_callI (pc := 341) (As := []) (rest := [.ref r130]) (mc' := p133.2.1) (ms' := p133.2.2) (dK D_Law_pages_3 24 rfl) Q_Law_165 (fitK rfl) rfl (leK rfl) hk1 hn1 (tg_SB_init  e_p133) (kxU ?_)
    refine x_aloadV (pc := 344) (j := 6) hc8 (dK D_Law_pages_3 25 rfl) rfl ?_
    refine rfE h ?_
    clear h
    intro r134 e_r134 h
    rw [e_r134]
    refine gdE h ?_
    clear h
    intro hk136 h
    refine bnE h ?_
    clear h
    intro p135 e_p135 h
    obtain ⟨yp135, h9, e9⟩ := adE2 h
    clear h
    subst e9
    have h := h9
    clear h9
    have hk1 := Nat.le_trans (bd1 hb) hkt
    have hn1 := Nat.le_trans (bd2 hb) hnt
    replace hb := bdA hb
    refine x_callX (pc := 346) (As := [.ref r134]) (rest := []) (mc' := p135.2.1) (ms' := p135.2.2) (dK D_Law_pages_3 26 rfl) Q_Law_168 sx_SB_append (fitK rfl) (isK_at (Z := (p133.1.1, p133.1.2)) (ci := 15) hk136) rfl (leK rfl) hk1 hn1 (tg_SB_append  e_p135) (kxR (fun h_p135 => ?_))
    refine x_ldcS (own := "FlatPlanLaw") (text := " b") (j := 11) rfl (dK D_Law_pages_3 27 rfl) (List.mem_of_getElem? (i := 11) rfl) ?_
    refine rfE h ?_
    clear h
    intro r137 e_r137 h
    rw [e_r137]
    refine gdE h ?_
    clear h
    intro hk139 h
    refine bnE h ?_
    clear h
    intro p138 e_p138 h
    obtain ⟨yp138, h9, e9⟩ := adE2 h
    clear h
    subst e9
    have h := h9
    clear h9
    have hk1 := Nat.le_trans (bd1 hb) hkt
    have hn1 := Nat.le_trans (bd2 hb) hnt
    replace hb := bdA hb
    refine x_callX (pc := 351) (As := [.ref (XB + 11)]) (rest := []) (mc' := p138.2.1) (ms' := p138.2.2) (dK D_Law_pages_3 28 rfl) Q_Law_168 sx_SB_append (fitK rfl) (isK_at (Z := (p135.1.2.1, p135.1.2.2)) (ci := 15) hk139) rfl (leK rfl) hk1 hn1 (tg_SB_append  e_p138) (kxR (fun h_p138 => ?_))
    refine x_iload (pc := 354) (j := 0) (dK D_Law_pages_3 29 rfl) rfl ?_
    refine rfE h ?_
    clear h
    intro r140 e_r140 h
    rw [e_r140]
    refine gdE h ?_
    clear h
    intro hk142 h
    refine bnE h ?_
    clear h
    intro p141 e_p141 h
    obtain ⟨yp141, h9, e9⟩ := adE2 h
    clear h
    subst e9
    have h := h9
    clear h9
    have hk1 := Nat.le_trans (bd1 hb) hkt
    have hn1 := Nat.le_trans (bd2 hb) hnt
    replace hb := bdA hb
    refine x_callX (pc := 356) (As := [V p127]) (rest := []) (mc' := p141.2.1) (ms' := p141.2.2) (dK D_Law_pages_3 30 rfl) Q_Law_172 sx_SB_append2 (fitK rfl) (isK_at (Z := (p138.1.2.1, p138.1.2.2)) (ci := 15) hk142) rfl (leK rfl) hk1 hn1 (tg_SB_append2 h_p127 e_p141) (kxR (fun h_p141 => ?_))
    refine rfE h ?_
    clear h
    intro r143 e_r143 h
    rw [e_r143]
    refine gdE h ?_
    clear h
    intro hk145 h
    refine bnE h ?_
    clear h
    intro p144 e_p144 h
    obtain ⟨yp144, h9, e9⟩ := adE2 h
    clear h
    subst e9
    have h := h9
    clear h9
    have hk1 := Nat.le_trans (bd1 hb) hkt
    have hn1 := Nat.le_trans (bd2 hb) hnt
    replace hb := bdA hb
    refine x_callX (pc := 359) (As := []) (rest := []) (mc' := p144.2.1) (ms' := p144.2.2) (dK D_Law_pages_3 31 rfl) Q_Law_175 sx_SB_toString (fitK rfl) (isK_at (Z := (p141.1.2.1, p141.1.2.2)) (ci := 15) hk145) rfl (leK rfl) hk1 hn1 (tg_SB_toString  e_p144) (kxR (fun h_p144 => ?_))
    refine x_astoreV (pc := 362) (ls2 := [(8, p144.1.1), (10, V p127), (0, .ref 0), (1, .ref c1), (2, V a2), (3, V a3), (6, V a6), (9, .ref c9)]) h_p144 (dK D_Law_pages_3 32 rfl) (ltK rfl) rfl ?_
    refine x_goto (pc := 364) (tgt := 312) (dK D_Law_pages_3 33 rfl) rfl ?_
    refine x_weak (ls' := [(0, .ref 0), (1, .ref c1), (2, V a2), (3, V a3), (6, V a6), (8, p144.1.1), (9, .ref c9)]) (sbc 2 rfl (sbc 3 rfl (sbc 4 rfl (sbc 5 rfl (sbc 6 rfl (sbc 0 rfl (sbc 7 rfl sbn))))))) ?_
    replace h := ih _ _ h
    exact h _ _ hb h_p144 hx
  · replace h := ifN h hc122
    obtain rfl := Option.some.inj h
    refine x_weak (ls' := [(0, .ref 0), (1, .ref c1), (2, V a2), (3, V a3), (6, V a6), (8, c8)]) (sbc 0 rfl (sbc 1 rfl (sbc 2 rfl (sbc 3 rfl (sbc 4 rfl (sbc 5 rfl sbn)))))) ?_
    refine x_room (bdk hb) (bdn hb) ?_
    exact hx hc8
def lb2_Law_pages_461 (c1 : Nat) (a2 : Int) (a3 : Int) (a6 : Int) (c8 : Nat) (go : Int × LZ → Option (((Bool × LZ) ⊕ (LZ)) × Nat × Nat)) (a9 : Int) (S : St) (L : List PC) : Option (((Bool × LZ) ⊕ (LZ)) × Nat × Nat) := if isK L c8 16 = true then (bnO (gn_String_length c8 S L) fun p172 => if p172 ≤ a9 then (some (.inr (S, L), 0, 0)) else (nm (wr (a9 - 1)) fun v174 => bnO (fn_FP_describedByte 0 v174 S) fun p175 => if isK L c8 16 = true then (bnO (gn_String_charAt c8 a9 S L) fun p176 => if p175 = p176 then (nm (wr (a9 + 1)) fun v178 => go (v178, (S, L))) else (some (.inl (false, (S, L)), 0, 0))) else none)) else none
def lo2_Law_pages_461 (c1 : Nat) (a2 : Int) (a3 : Int) (a6 : Int) (c8 : Nat) : Nat → Int × LZ → Option (((Bool × LZ) ⊕ (LZ)) × Nat × Nat) := lp fun go p => lb2_Law_pages_461 c1 a2 a3 a6 c8 go p.1 p.2.1 p.2.2
theorem tl2_Law_pages_461 {sc : SC} {c1 : Nat} {a2 : Int} (ha2 : inR a2) {a3 : Int} (ha3 : inR a3) {a6 : Int} (ha6 : inR a6) {c8 : Nat} {K : Option Value → List PC → Prop} {mc ms kt nt : Nat} (hkt : kt ≤ mc) (hnt : nt ≤ ms) : ∀ (N : Nat) (a : Int × LZ) (q : ((Bool × LZ) ⊕ (LZ)) × Nat × Nat), lo2_Law_pages_461 c1 a2 a3 a6 c8 N a = some q → ∀ k n, Bd k n kt nt q → inR a.1 → (∀ e, q.1 = .inr e → GX sc M_Law_pages mc ms 497 [(0, .ref 0), (1, .ref c1), (2, V a2), (3, V a3), (6, V a6)] [] (wz e) kt nt K) → (∀ r, q.1 = .inl r → K (some (V (bi r.1))) (wz r.2)) → GX sc M_Law_pages mc ms 461 [(0, .ref 0), (1, .ref c1), (2, V a2), (3, V a3), (6, V a6), (8, .ref c8), (9, V a.1)] [] (wz a.2) k n K := by
  refine lp_ind2 (P := fun (a : Int × LZ) (q : ((Bool × LZ) ⊕ (LZ)) × Nat × Nat) => ∀ k n, Bd k n kt nt q → inR a.1 → (∀ e, q.1 = .inr e → GX sc M_Law_pages mc ms 497 [(0, .ref 0), (1, .ref c1), (2, V a2), (3, V a3), (6, V a6)] [] (wz e) kt nt K) → (∀ r, q.1 = .inl r → K (some (V (bi r.1))) (wz r.2)) → GX sc M_Law_pages mc ms 461 [(0, .ref 0), (1, .ref c1), (2, V a2), (3, V a3), (6, V a6), (8, .ref c8), (9, V a.1)] [] (wz a.2) k n K) (fun go ih a q h => ?_)
  obtain ⟨a9, ⟨S, L⟩⟩ := a
  intro k n hb ha9 hx hr
  show GX sc M_Law_pages mc ms 461 [(0, .ref 0), (1, .ref c1), (2, V a2), (3, V a3), (6, V a6), (8, .ref c8), (9, V a9)] [] (wz (S, L)) k n K
  replace h : lb2_Law_pages_461 c1 a2 a3 a6 c8 go a9 S L = some q := h
  unfold lb2_Law_pages_461 at h
  refine x_iload (pc := 461) (j := 6) (dK D_Law_pages_4 29 rfl) rfl ?_
  refine x_aload (pc := 463) (j := 5) (dK D_Law_pages_4 30 rfl) rfl ?_
  refine gdE h ?_
  clear h
  intro hk173 h
  refine bnE h ?_
  clear h
  intro p172 e_p172 h
  refine x_callX (pc := 465) (As := []) (rest := [V a9]) (mc' := 0) (ms' := 0) (dK D_Law_pages_4 31 rfl) Q_Law_14 sx_String_length (fitK rfl) (isK_at (Z := (S, L)) (ci := 16) hk173) rfl (leK rfl) (Nat.le_trans (bdk hb) hkt) (Nat.le_trans (bdn hb) hnt) (tg_String_length  e_p172) (kxI' (fun h_p172 => ?_))
  refine wx_icmp_ge (pc := 468) (t := 497) (dK D_Law_pages_4 32 rfl) rfl ha9 h_p172 (fun hc180 => ?_) (fun hc180 => ?_)
  · replace h := ifP h hc180
    obtain rfl := Option.some.inj h
    refine x_weak (ls' := [(0, .ref 0), (1, .ref c1), (2, V a2), (3, V a3), (6, V a6)]) (sbc 0 rfl (sbc 1 rfl (sbc 2 rfl (sbc 3 rfl (sbc 4 rfl sbn))))) ?_
    refine x_room (bdk hb) (bdn hb) ?_
    exact hx (S, L) rfl
  · replace h := ifN h hc180
    refine x_aloadn (pc := 471) (i0 := 0) (j := 0) (dK D_Law_pages_4 33 rfl) rfl rfl ?_
    refine x_iload (pc := 472) (j := 6) (dK D_Law_pages_4 34 rfl) rfl ?_
    refine wx_iconst (pc := 474) (dK D_Law_pages_4 35 rfl) ?_
    refine wx_isub (pc := 475) (dK D_Law_pages_4 36 rfl) ?_
    refine nmE h ?_
    clear h
    intro v174 e_v174 h
    refine wtop e_v174 ?_
    refine bnE h ?_
    clear h
    intro p175 e_p175 h
    refine x_callX (pc := 476) (As := [V v174]) (rest := []) (mc' := 0) (ms' := 0) (dK D_Law_pages_4 37 rfl) Q_Law_202 sx_FP_describedByte (fitK rfl) (isK_at (Z := (S, L)) (ci := 10) isK0) rfl (leK rfl) (Nat.le_trans (bdk hb) hkt) (Nat.le_trans (bdn hb) hnt) (clI (fun E => tf_FP_describedByte (X := xz L) xz_hc (Vn_in e_v174) e_p175)) (kxI' (fun h_p175 => ?_))
    refine x_aload (pc := 479) (j := 5) (dK D_Law_pages_4 38 rfl) rfl ?_
    refine x_iload (pc := 481) (j := 6) (dK D_Law_pages_4 39 rfl) rfl ?_
    refine gdE h ?_
    clear h
    intro hk177 h
    refine bnE h ?_
    clear h
    intro p176 e_p176 h
    refine x_callX (pc := 483) (As := [V a9]) (rest := [V p175]) (mc' := 0) (ms' := 0) (dK D_Law_pages_4 40 rfl) Q_Law_20 sx_String_charAt (fitK rfl) (isK_at (Z := (S, L)) (ci := 16) hk177) rfl (leK rfl) (Nat.le_trans (bdk hb) hkt) (Nat.le_trans (bdn hb) hnt) (tg_String_charAt ha9 e_p176) (kxI' (fun h_p176 => ?_))
    refine wx_icmp_eq (pc := 486) (t := 491) (dK D_Law_pages_4 41 rfl) rfl h_p175 h_p176 (fun hc179 => ?_) (fun hc179 => ?_)
    · replace h := ifP h hc179
      refine nmE h ?_
      clear h
      intro v178 e_v178 h
      refine wx_iinc (pc := 491) (j := 6) (a := a9) (z := 1) (ls2 := [(9, V v178), (0, .ref 0), (1, .ref c1), (2, V a2), (3, V a3), (6, V a6), (8, .ref c8)]) (dK D_Law_pages_4 44 rfl) rfl e_v178 (ltK rfl) rfl ?_
      refine x_goto (pc := 494) (tgt := 461) (dK D_Law_pages_4 45 rfl) rfl ?_
      refine x_weak (ls' := [(0, .ref 0), (1, .ref c1), (2, V a2), (3, V a3), (6, V a6), (8, .ref c8), (9, V v178)]) (sbc 1 rfl (sbc 2 rfl (sbc 3 rfl (sbc 4 rfl (sbc 5 rfl (sbc 6 rfl (sbc 0 rfl sbn))))))) ?_
      replace h := ih _ _ h
      exact h _ _ hb (Vn_in e_v178) hx hr
    · replace h := ifN h hc179
      refine wx_iconst (pc := 489) (dK D_Law_pages_4 42 rfl) ?_
      obtain rfl := Option.some.inj h
      exact wk_iretB (pc := 490) (b := false) (dK D_Law_pages_4 43 rfl) rfl (Nat.le_trans (bdk hb) hkt) (Nat.le_trans (bdn hb) hnt) (hr (false, (S, L)) rfl)
def lb2_Law_pages_503 (c1 : Nat) (a2 : Int) (a3 : Int) (a6 : Int) (S : St) (L : List PC) (go : Int × Int → Option (Int)) (a9 : Int) (a10 : Int) : Option (Int) := if isK L c1 12 = true then (bnO (gn_LP_pages c1 S L) fun p184 => if p184 < a10 then (some a9) else (if isK L c1 12 = true then (bnO (gn_LP_left c1 a10 S L) fun p186 => if a6 < p186 then (nm (wr (a9 + 1)) fun v188 => nm (wr (a10 + 1)) fun v189 => go (v188, v189)) else (if isK L c1 12 = true then (bnO (gn_LP_left c1 a10 S L) fun p190 => if p190 = a6 then (if a3 ≤ a10 then (nm (wr (a9 + 0)) fun v194 => nm (wr (a10 + 1)) fun v195 => go (v194, v195)) else (nm (wr (a9 + 1)) fun v196 => nm (wr (a10 + 1)) fun v197 => go (v196, v197))) else (nm (wr (a9 + 0)) fun v192 => nm (wr (a10 + 1)) fun v193 => go (v192, v193))) else none)) else none)) else none
def lo2_Law_pages_503 (c1 : Nat) (a2 : Int) (a3 : Int) (a6 : Int) (S : St) (L : List PC) : Nat → Int × Int → Option (Int) := lp fun go p => lb2_Law_pages_503 c1 a2 a3 a6 S L go p.1 p.2
theorem tl2_Law_pages_503 {sc : SC} {c1 : Nat} {a2 : Int} (ha2 : inR a2) {a3 : Int} (ha3 : inR a3) {a6 : Int} (ha6 : inR a6) {K : Option Value → List PC → Prop} {S : St} {L : List PC} {mc ms k n : Nat} (hk0 : k ≤ mc) (hn0 : n ≤ ms) : ∀ (N : Nat) (a : Int × Int) (q : Int), lo2_Law_pages_503 c1 a2 a3 a6 S L N a = some q → inR a.1 → inR a.2 → (inR q → GX sc M_Law_pages mc ms 556 [(0, .ref 0), (1, .ref c1), (2, V a2), (3, V a3), (9, V q)] [] (wz (S, L)) k n K) → GX sc M_Law_pages mc ms 503 [(0, .ref 0), (1, .ref c1), (2, V a2), (3, V a3), (6, V a6), (9, V a.1), (10, V a.2)] [] (wz (S, L)) k n K := by
  refine lp_ind2 (P := fun (a : Int × Int) (q : Int) => inR a.1 → inR a.2 → (inR q → GX sc M_Law_pages mc ms 556 [(0, .ref 0), (1, .ref c1), (2, V a2), (3, V a3), (9, V q)] [] (wz (S, L)) k n K) → GX sc M_Law_pages mc ms 503 [(0, .ref 0), (1, .ref c1), (2, V a2), (3, V a3), (6, V a6), (9, V a.1), (10, V a.2)] [] (wz (S, L)) k n K) (fun go ih a q h => ?_)
  obtain ⟨a9, a10⟩ := a
  intro ha9 ha10 hx
  show GX sc M_Law_pages mc ms 503 [(0, .ref 0), (1, .ref c1), (2, V a2), (3, V a3), (6, V a6), (9, V a9), (10, V a10)] [] (wz (S, L)) k n K
  replace h : lb2_Law_pages_503 c1 a2 a3 a6 S L go a9 a10 = some q := h
  unfold lb2_Law_pages_503 at h
  refine x_iload (pc := 503) (j := 6) (dK D_Law_pages_5 0 rfl) rfl ?_
  refine x_aloadn (pc := 505) (i0 := 1) (j := 1) (dK D_Law_pages_5 1 rfl) rfl rfl ?_
  refine gdE h ?_
  clear h
  intro hk185 h
  refine bnE h ?_
  clear h
  intro p184 e_p184 h
  refine x_callX (pc := 506) (As := []) (rest := [V a10]) (mc' := 0) (ms' := 0) (dK D_Law_pages_5 2 rfl) Q_Law_42 sx_LP_pages (fitK rfl) (isK_at (Z := (S, L)) (ci := 12) hk185) rfl (leK rfl) hk0 hn0 (tg_LP_pages  e_p184) (kxI' (fun h_p184 => ?_))
  refine wx_icmp_gt (pc := 509) (t := 556) (dK D_Law_pages_5 3 rfl) rfl ha10 h_p184 (fun hc201 => ?_) (fun hc201 => ?_)
  · replace h := ifP h hc201
    obtain rfl := Option.some.inj h
    refine x_weak (ls' := [(0, .ref 0), (1, .ref c1), (2, V a2), (3, V a3), (9, V a9)]) (sbc 0 rfl (sbc 1 rfl (sbc 2 rfl (sbc 3 rfl (sbc 5 rfl sbn))))) ?_
    exact hx ha9
  · replace h := ifN h hc201
    refine x_iload (pc := 512) (j := 5) (dK D_Law_pages_5 4 rfl) rfl ?_
    refine x_aloadn (pc := 514) (i0 := 1) (j := 1) (dK D_Law_pages_5 5 rfl) rfl rfl ?_
    refine x_iload (pc := 515) (j := 6) (dK D_Law_pages_5 6 rfl) rfl ?_
    refine gdE h ?_
    clear h
    intro hk187 h
    refine bnE h ?_
    clear h
    intro p186 e_p186 h
    refine x_callX (pc := 517) (As := [V a10]) (rest := [V a9]) (mc' := 0) (ms' := 0) (dK D_Law_pages_5 7 rfl) Q_Law_142 sx_LP_left (fitK rfl) (isK_at (Z := (S, L)) (ci := 12) hk187) rfl (leK rfl) hk0 hn0 (tg_LP_left ha10 e_p186) (kxI' (fun h_p186 => ?_))
    refine x_iload (pc := 520) (j := 4) (dK D_Law_pages_5 8 rfl) rfl ?_
    refine wx_icmp_gt (pc := 522) (t := 542) (dK D_Law_pages_5 9 rfl) rfl h_p186 ha6 (fun hc200 => ?_) (fun hc200 => ?_)
    · replace h := ifP h hc200
      refine wx_iconst (pc := 542) (dK D_Law_pages_5 18 rfl) ?_
      refine x_goto (pc := 543) (tgt := 547) (dK D_Law_pages_5 19 rfl) rfl ?_
      refine wx_iadd (pc := 547) (dK D_Law_pages_5 21 rfl) ?_
      refine nmE h ?_
      clear h
      intro v188 e_v188 h
      refine wtop e_v188 ?_
      refine x_istore (pc := 548) (ls2 := [(9, V v188), (0, .ref 0), (1, .ref c1), (2, V a2), (3, V a3), (6, V a6), (10, V a10)]) (dK D_Law_pages_5 22 rfl) (ltK rfl) rfl ?_
      refine nmE h ?_
      clear h
      intro v189 e_v189 h
      refine wx_iinc (pc := 550) (j := 6) (a := a10) (z := 1) (ls2 := [(10, V v189), (9, V v188), (0, .ref 0), (1, .ref c1), (2, V a2), (3, V a3), (6, V a6)]) (dK D_Law_pages_5 23 rfl) rfl e_v189 (ltK rfl) rfl ?_
      refine x_goto (pc := 553) (tgt := 503) (dK D_Law_pages_5 24 rfl) rfl ?_
      refine x_weak (ls' := [(0, .ref 0), (1, .ref c1), (2, V a2), (3, V a3), (6, V a6), (9, V v188), (10, V v189)]) (sbc 2 rfl (sbc 3 rfl (sbc 4 rfl (sbc 5 rfl (sbc 6 rfl (sbc 1 rfl (sbc 0 rfl sbn))))))) ?_
      replace h := ih _ _ h
      exact h (Vn_in e_v188) (Vn_in e_v189) hx
    · replace h := ifN h hc200
      refine x_aloadn (pc := 525) (i0 := 1) (j := 1) (dK D_Law_pages_5 10 rfl) rfl rfl ?_
      refine x_iload (pc := 526) (j := 6) (dK D_Law_pages_5 11 rfl) rfl ?_
      refine gdE h ?_
      clear h
      intro hk191 h
      refine bnE h ?_
      clear h
      intro p190 e_p190 h
      refine x_callX (pc := 528) (As := [V a10]) (rest := [V a9]) (mc' := 0) (ms' := 0) (dK D_Law_pages_5 12 rfl) Q_Law_142 sx_LP_left (fitK rfl) (isK_at (Z := (S, L)) (ci := 12) hk191) rfl (leK rfl) hk0 hn0 (tg_LP_left ha10 e_p190) (kxI' (fun h_p190 => ?_))
      refine x_iload (pc := 531) (j := 4) (dK D_Law_pages_5 13 rfl) rfl ?_
      refine wx_icmp_ne (pc := 533) (t := 546) (dK D_Law_pages_5 14 rfl) rfl h_p190 ha6 (fun hc199 => ?_) (fun hc199 => ?_)
      · replace h := ifN h hc199
        refine wx_iconst (pc := 546) (dK D_Law_pages_5 20 rfl) ?_
        refine wx_iadd (pc := 547) (dK D_Law_pages_5 21 rfl) ?_
        refine nmE h ?_
        clear h
        intro v192 e_v192 h
        refine wtop e_v192 ?_
        refine x_istore (pc := 548) (ls2 := [(9, V v192), (0, .ref 0), (1, .ref c1), (2, V a2), (3, V a3), (6, V a6), (10, V a10)]) (dK D_Law_pages_5 22 rfl) (ltK rfl) rfl ?_
        refine nmE h ?_
        clear h
        intro v193 e_v193 h
        refine wx_iinc (pc := 550) (j := 6) (a := a10) (z := 1) (ls2 := [(10, V v193), (9, V v192), (0, .ref 0), (1, .ref c1), (2, V a2), (3, V a3), (6, V a6)]) (dK D_Law_pages_5 23 rfl) rfl e_v193 (ltK rfl) rfl ?_
        refine x_goto (pc := 553) (tgt := 503) (dK D_Law_pages_5 24 rfl) rfl ?_
        refine x_weak (ls' := [(0, .ref 0), (1, .ref c1), (2, V a2), (3, V a3), (6, V a6), (9, V v192), (10, V v193)]) (sbc 2 rfl (sbc 3 rfl (sbc 4 rfl (sbc 5 rfl (sbc 6 rfl (sbc 1 rfl (sbc 0 rfl sbn))))))) ?_
        replace h := ih _ _ h
        exact h (Vn_in e_v192) (Vn_in e_v193) hx
      · replace h := ifP h hc199
        refine x_iload (pc := 536) (j := 6) (dK D_Law_pages_5 15 rfl) rfl ?_
        refine x_iloadn (pc := 538) (i0 := 3) (j := 3) (dK D_Law_pages_5 16 rfl) rfl rfl ?_
        refine wx_icmp_ge (pc := 539) (t := 546) (dK D_Law_pages_5 17 rfl) rfl ha10 ha3 (fun hc198 => ?_) (fun hc198 => ?_)
        · replace h := ifP h hc198
          refine wx_iconst (pc := 546) (dK D_Law_pages_5 20 rfl) ?_
          refine wx_iadd (pc := 547) (dK D_Law_pages_5 21 rfl) ?_
          refine nmE h ?_
          clear h
          intro v194 e_v194 h
          refine wtop e_v194 ?_
          refine x_istore (pc := 548) (ls2 := [(9, V v194), (0, .ref 0), (1, .ref c1), (2, V a2), (3, V a3), (6, V a6), (10, V a10)]) (dK D_Law_pages_5 22 rfl) (ltK rfl) rfl ?_
          refine nmE h ?_
          clear h
          intro v195 e_v195 h
          refine wx_iinc (pc := 550) (j := 6) (a := a10) (z := 1) (ls2 := [(10, V v195), (9, V v194), (0, .ref 0), (1, .ref c1), (2, V a2), (3, V a3), (6, V a6)]) (dK D_Law_pages_5 23 rfl) rfl e_v195 (ltK rfl) rfl ?_
          refine x_goto (pc := 553) (tgt := 503) (dK D_Law_pages_5 24 rfl) rfl ?_
          refine x_weak (ls' := [(0, .ref 0), (1, .ref c1), (2, V a2), (3, V a3), (6, V a6), (9, V v194), (10, V v195)]) (sbc 2 rfl (sbc 3 rfl (sbc 4 rfl (sbc 5 rfl (sbc 6 rfl (sbc 1 rfl (sbc 0 rfl sbn))))))) ?_
          replace h := ih _ _ h
          exact h (Vn_in e_v194) (Vn_in e_v195) hx
        · replace h := ifN h hc198
          refine wx_iconst (pc := 542) (dK D_Law_pages_5 18 rfl) ?_
          refine x_goto (pc := 543) (tgt := 547) (dK D_Law_pages_5 19 rfl) rfl ?_
          refine wx_iadd (pc := 547) (dK D_Law_pages_5 21 rfl) ?_
          refine nmE h ?_
          clear h
          intro v196 e_v196 h
          refine wtop e_v196 ?_
          refine x_istore (pc := 548) (ls2 := [(9, V v196), (0, .ref 0), (1, .ref c1), (2, V a2), (3, V a3), (6, V a6), (10, V a10)]) (dK D_Law_pages_5 22 rfl) (ltK rfl) rfl ?_
          refine nmE h ?_
          clear h
          intro v197 e_v197 h
          refine wx_iinc (pc := 550) (j := 6) (a := a10) (z := 1) (ls2 := [(10, V v197), (9, V v196), (0, .ref 0), (1, .ref c1), (2, V a2), (3, V a3), (6, V a6)]) (dK D_Law_pages_5 23 rfl) rfl e_v197 (ltK rfl) rfl ?_
          refine x_goto (pc := 553) (tgt := 503) (dK D_Law_pages_5 24 rfl) rfl ?_
          refine x_weak (ls' := [(0, .ref 0), (1, .ref c1), (2, V a2), (3, V a3), (6, V a6), (9, V v196), (10, V v197)]) (sbc 2 rfl (sbc 3 rfl (sbc 4 rfl (sbc 5 rfl (sbc 6 rfl (sbc 1 rfl (sbc 0 rfl sbn))))))) ?_
          replace h := ih _ _ h
          exact h (Vn_in e_v196) (Vn_in e_v197) hx
def jf2_Law_pages_409_4 (c1 : Nat) (go : Int × Int × LZ → Option (((Bool × LZ) ⊕ (Int × LZ)) × Nat × Nat)) (a2 : Int) (a3 : Int) (a6 : Int) (dt0 : Value) (dt1 : Value) (S : St) (L : List PC) : Option (((Bool × LZ) ⊕ (Int × LZ)) × Nat × Nat) := rfB dt0 fun r155 => rfB dt1 fun r156 => if isK L r156 15 = true then (bnO (gn_SB_append r156 r155 S L) fun p157 => adC p157.2.1 p157.2.2 (rfB p157.1.1 fun r159 => if isK p157.1.2.2 r159 15 = true then (bnO (gn_SB_toString r159 p157.1.2.1 p157.1.2.2) fun p160 => adC p160.2.1 p160.2.2 (bnO (fn_FP_describe 0 a3 p160.1.2.1) fun p162 => if p162.1 = 0 then (adC 1 6 (rfB p160.1.1 fun r163 => if isK p160.1.2.2 r163 16 = true then (bnO (gn_String_length r163 p162.2.2 p160.1.2.2) fun p164 => nm (wr (p164 - 1)) fun v166 => if p162.2.1 = v166 then (if isK p160.1.2.2 r163 16 = true then (bnO (gn_String_length r163 p162.2.2 p160.1.2.2) fun p167 => nm (wr (p167 - 1)) fun v169 => bnO (fn_FP_describedByte 0 v169 p162.2.2) fun p170 => if p170 = (-1) then (bnO (fn_FP_describedByte 0 (-1) p162.2.2) fun p171 => if p171 = (-1) then (bnT (lo2_Law_pages_461 c1 a2 a3 a6 r163 FU (1, (p162.2.2, p160.1.2.2))) (fun r182 => some (.inl (r182.1, (r182.2.1, r182.2.2)), 0, 0)) fun e183 => bnO (lo2_Law_pages_503 c1 a2 a3 a6 e183.1 e183.2 FU (0, 1)) fun p202 => bnO (fn_FP_emptiest 0 p202 e183.1) fun p203 => if p203 = a3 then (nm (wr (a3 + 1)) fun v204 => go (a2, v204, (e183.1, e183.2))) else (some (.inl (false, (e183.1, e183.2)), 0, 0))) else (some (.inl (false, (p162.2.2, p160.1.2.2)), 0, 0))) else (some (.inl (false, (p162.2.2, p160.1.2.2)), 0, 0))) else none) else (some (.inl (false, (p162.2.2, p160.1.2.2)), 0, 0))) else none)) else none)) else none)) else none
theorem tj2_Law_pages_409_4 {sc : SC} {c1 : Nat} {K : Option Value → List PC → Prop} {mc ms kt nt : Nat} (hkt : kt ≤ mc) (hnt : nt ≤ ms) {go : Int × Int × LZ → Option (((Bool × LZ) ⊕ (Int × LZ)) × Nat × Nat)} (ih : ∀ (a : Int × Int × LZ) (q : ((Bool × LZ) ⊕ (Int × LZ)) × Nat × Nat), go a = some q → ∀ k n, Bd k n kt nt q → inR a.1 → inR a.2.1 → (∀ e, q.1 = .inr e → inR e.1 → GX sc M_Law_pages mc ms 574 [(0, .ref 0), (1, .ref c1), (2, V e.1)] [] (wz e.2) kt nt K) → (∀ r, q.1 = .inl r → K (some (V (bi r.1))) (wz r.2)) → GX sc M_Law_pages mc ms 4 [(0, .ref 0), (1, .ref c1), (2, V a.1), (3, V a.2.1)] [] (wz a.2.2) k n K) {a2 : Int} (ha2 : inR a2) {a3 : Int} (ha3 : inR a3) {a6 : Int} (ha6 : inR a6) {dt0 : Value} (hdt0 : dt0 = .null ∨ ∃ b, dt0 = .ref b) {dt1 : Value} (hdt1 : dt1 = .null ∨ ∃ b, dt1 = .ref b) {S : St} {L : List PC} {q : ((Bool × LZ) ⊕ (Int × LZ)) × Nat × Nat} (h : jf2_Law_pages_409_4 c1 go a2 a3 a6 dt0 dt1 S L = some q) {k n : Nat} (hb : Bd k n kt nt q) (hx : (∀ e, q.1 = .inr e → inR e.1 → GX sc M_Law_pages mc ms 574 [(0, .ref 0), (1, .ref c1), (2, V e.1)] [] (wz e.2) kt nt K)) (hr : (∀ r, q.1 = .inl r → K (some (V (bi r.1))) (wz r.2))) : GX sc M_Law_pages mc ms 409 [(0, .ref 0), (1, .ref c1), (2, V a2), (3, V a3), (6, V a6)] [dt0, dt1] (wz (S, L)) k n K := by
  unfold jf2_Law_pages_409_4 at h
  refine rfE h ?_
  clear h
  intro r155 e_r155 h
  rw [e_r155]
  refine rfE h ?_
  clear h
  intro r156 e_r156 h
  rw [e_r156]
  refine gdE h ?_
  clear h
  intro hk158 h
  refine bnE h ?_
  clear h
  intro p157 e_p157 h
  obtain ⟨yp157, h9, e9⟩ := adE2 h
  clear h
  subst e9
  have h := h9
  clear h9
  have hk1 := Nat.le_trans (bd1 hb) hkt
  have hn1 := Nat.le_trans (bd2 hb) hnt
  replace hb := bdA hb
  refine x_callX (pc := 409) (As := [.ref r155]) (rest := []) (mc' := p157.2.1) (ms' := p157.2.2) (dK D_Law_pages_4 1 rfl) Q_Law_168 sx_SB_append (fitK rfl) (isK_at (Z := (S, L)) (ci := 15) hk158) rfl (leK rfl) hk1 hn1 (tg_SB_append  e_p157) (kxR (fun h_p157 => ?_))
  refine rfE h ?_
  clear h
  intro r159 e_r159 h
  rw [e_r159]
  refine gdE h ?_
  clear h
  intro hk161 h
  refine bnE h ?_
  clear h
  intro p160 e_p160 h
  obtain ⟨yp160, h9, e9⟩ := adE2 h
  clear h
  subst e9
  have h := h9
  clear h9
  have hk1 := Nat.le_trans (bd1 hb) hkt
  have hn1 := Nat.le_trans (bd2 hb) hnt
  replace hb := bdA hb
  refine x_callX (pc := 412) (As := []) (rest := []) (mc' := p160.2.1) (ms' := p160.2.2) (dK D_Law_pages_4 2 rfl) Q_Law_175 sx_SB_toString (fitK rfl) (isK_at (Z := (p157.1.2.1, p157.1.2.2)) (ci := 15) hk161) rfl (leK rfl) hk1 hn1 (tg_SB_toString  e_p160) (kxR (fun h_p160 => ?_))
  refine x_astoreV (pc := 415) (ls2 := [(8, p160.1.1), (0, .ref 0), (1, .ref c1), (2, V a2), (3, V a3), (6, V a6)]) h_p160 (dK D_Law_pages_4 3 rfl) (ltK rfl) rfl ?_
  refine x_aloadn (pc := 417) (i0 := 0) (j := 1) (dK D_Law_pages_4 4 rfl) rfl rfl ?_
  refine x_iloadn (pc := 418) (i0 := 3) (j := 4) (dK D_Law_pages_4 5 rfl) rfl rfl ?_
  refine bnE h ?_
  clear h
  intro p162 e_p162 h
  refine gdE h ?_
  clear h
  intro hz_p162 h
  obtain ⟨yp162, h9, e9⟩ := adE2 h
  clear h
  subst e9
  have h := h9
  clear h9
  have hk1 := Nat.le_trans (bd1 hb) hkt
  have hn1 := Nat.le_trans (bd2 hb) hnt
  replace hb := bdA hb
  refine x_callX (pc := 419) (As := [V a3]) (rest := []) (mc' := 1) (ms' := 6) (dK D_Law_pages_4 6 rfl) Q_Law_199 sx_FP_describe (fitK rfl) (isK_at (Z := (p160.1.2.1, p160.1.2.2)) (ci := 10) isK0) rfl (leK rfl) hk1 hn1 (clTI hz_p162 (fun E => tf_FP_describe (X := xz p160.1.2.2) rfl xz_hc ha3 e_p162)) (kxI' (fun h_p162 => ?_))
  refine x_aloadV (pc := 422) (j := 0) h_p160 (dK D_Law_pages_4 7 rfl) rfl ?_
  refine rfE h ?_
  clear h
  intro r163 e_r163 h
  rw [e_r163]
  refine gdE h ?_
  clear h
  intro hk165 h
  refine bnE h ?_
  clear h
  intro p164 e_p164 h
  refine x_callX (pc := 424) (As := []) (rest := [V p162.2.1]) (mc' := 0) (ms' := 0) (dK D_Law_pages_4 8 rfl) Q_Law_14 sx_String_length (fitK rfl) (isK_at (Z := (p162.2.2, p160.1.2.2)) (ci := 16) hk165) rfl (leK rfl) (Nat.le_trans (bdk hb) hkt) (Nat.le_trans (bdn hb) hnt) (tg_String_length  e_p164) (kxI' (fun h_p164 => ?_))
  refine wx_iconst (pc := 427) (dK D_Law_pages_4 9 rfl) ?_
  refine wx_isub (pc := 428) (dK D_Law_pages_4 10 rfl) ?_
  refine nmE h ?_
  clear h
  intro v166 e_v166 h
  refine wtop e_v166 ?_
  refine wx_icmp_ne (pc := 429) (t := 456) (dK D_Law_pages_4 11 rfl) rfl h_p162 (Vn_in e_v166) (fun hc208 => ?_) (fun hc208 => ?_)
  · replace h := ifN h hc208
    refine wx_iconst (pc := 456) (dK D_Law_pages_4 25 rfl) ?_
    obtain rfl := Option.some.inj h
    exact wk_iretB (pc := 457) (b := false) (dK D_Law_pages_4 26 rfl) rfl (Nat.le_trans (bdk hb) hkt) (Nat.le_trans (bdn hb) hnt) (hr (false, (p162.2.2, p160.1.2.2)) rfl)
  · replace h := ifP h hc208
    refine x_aloadn (pc := 432) (i0 := 0) (j := 1) (dK D_Law_pages_4 12 rfl) rfl rfl ?_
    refine x_aload (pc := 433) (j := 0) (dK D_Law_pages_4 13 rfl) rfl ?_
    refine gdE h ?_
    clear h
    intro hk168 h
    refine bnE h ?_
    clear h
    intro p167 e_p167 h
    refine x_callX (pc := 435) (As := []) (rest := [.ref 0]) (mc' := 0) (ms' := 0) (dK D_Law_pages_4 14 rfl) Q_Law_14 sx_String_length (fitK rfl) (isK_at (Z := (p162.2.2, p160.1.2.2)) (ci := 16) hk168) rfl (leK rfl) (Nat.le_trans (bdk hb) hkt) (Nat.le_trans (bdn hb) hnt) (tg_String_length  e_p167) (kxI' (fun h_p167 => ?_))
    refine wx_iconst (pc := 438) (dK D_Law_pages_4 15 rfl) ?_
    refine wx_isub (pc := 439) (dK D_Law_pages_4 16 rfl) ?_
    refine nmE h ?_
    clear h
    intro v169 e_v169 h
    refine wtop e_v169 ?_
    refine bnE h ?_
    clear h
    intro p170 e_p170 h
    refine x_callX (pc := 440) (As := [V v169]) (rest := []) (mc' := 0) (ms' := 0) (dK D_Law_pages_4 17 rfl) Q_Law_202 sx_FP_describedByte (fitK rfl) (isK_at (Z := (p162.2.2, p160.1.2.2)) (ci := 10) isK0) rfl (leK rfl) (Nat.le_trans (bdk hb) hkt) (Nat.le_trans (bdn hb) hnt) (clI (fun E => tf_FP_describedByte (X := xz p160.1.2.2) xz_hc (Vn_in e_v169) e_p170)) (kxI' (fun h_p170 => ?_))
    refine wx_iconst (pc := 443) (dK D_Law_pages_4 18 rfl) ?_
    refine wx_icmp_ne (pc := 444) (t := 456) (dK D_Law_pages_4 19 rfl) rfl h_p170 (inRk rfl) (fun hc207 => ?_) (fun hc207 => ?_)
    · replace h := ifN h hc207
      refine wx_iconst (pc := 456) (dK D_Law_pages_4 25 rfl) ?_
      obtain rfl := Option.some.inj h
      exact wk_iretB (pc := 457) (b := false) (dK D_Law_pages_4 26 rfl) rfl (Nat.le_trans (bdk hb) hkt) (Nat.le_trans (bdn hb) hnt) (hr (false, (p162.2.2, p160.1.2.2)) rfl)
    · replace h := ifP h hc207
      refine x_aloadn (pc := 447) (i0 := 0) (j := 1) (dK D_Law_pages_4 20 rfl) rfl rfl ?_
      refine wx_iconst (pc := 448) (dK D_Law_pages_4 21 rfl) ?_
      refine bnE h ?_
      clear h
      intro p171 e_p171 h
      refine x_callX (pc := 449) (As := [V (-1)]) (rest := []) (mc' := 0) (ms' := 0) (dK D_Law_pages_4 22 rfl) Q_Law_202 sx_FP_describedByte (fitK rfl) (isK_at (Z := (p162.2.2, p160.1.2.2)) (ci := 10) isK0) rfl (leK rfl) (Nat.le_trans (bdk hb) hkt) (Nat.le_trans (bdn hb) hnt) (clI (fun E => tf_FP_describedByte (X := xz p160.1.2.2) xz_hc (inRk rfl) e_p171)) (kxI' (fun h_p171 => ?_))
      refine wx_iconst (pc := 452) (dK D_Law_pages_4 23 rfl) ?_
      refine wx_icmp_eq (pc := 453) (t := 458) (dK D_Law_pages_4 24 rfl) rfl h_p171 (inRk rfl) (fun hc206 => ?_) (fun hc206 => ?_)
      · replace h := ifP h hc206
        refine wx_iconst (pc := 458) (dK D_Law_pages_4 27 rfl) ?_
        refine x_istore (pc := 459) (ls2 := [(9, V 1), (8, .ref r163), (0, .ref 0), (1, .ref c1), (2, V a2), (3, V a3), (6, V a6)]) (dK D_Law_pages_4 28 rfl) (ltK rfl) rfl ?_
        refine bnTE h ?_ ?_
        · clear h
          intro p181 r182 yp181 e_p181 f_p181 h e9
          subst e9
          have hk1 := Nat.le_trans (bd1 hb) hkt
          have hn1 := Nat.le_trans (bd2 hb) hnt
          replace hb := bdA hb
          refine x_weak (ls' := [(0, .ref 0), (1, .ref c1), (2, V a2), (3, V a3), (6, V a6), (8, .ref r163), (9, V 1)]) (sbc 2 rfl (sbc 3 rfl (sbc 4 rfl (sbc 5 rfl (sbc 6 rfl (sbc 1 rfl (sbc 0 rfl sbn))))))) ?_
          refine tl2_Law_pages_461 ha2 ha3 ha6 hk1 hn1 FU _ _ e_p181 _ _ ⟨Nat.le_refl _, Nat.le_refl _⟩ (inRk rfl) (fun _ g_ => by rw [f_p181] at g_; exact nomatch g_) (fun r_ g_  => ?_)
          obtain rfl := Sum.inl.inj (f_p181.symm.trans g_)
          obtain rfl := Option.some.inj h
          exact hr (r182.1, (r182.2.1, r182.2.2)) rfl
        · clear h
          intro p181 e183 yp181 e_p181 f_p181 h e9
          subst e9
          have hk1 := Nat.le_trans (bd1 hb) hkt
          have hn1 := Nat.le_trans (bd2 hb) hnt
          replace hb := bdA hb
          refine x_weak (ls' := [(0, .ref 0), (1, .ref c1), (2, V a2), (3, V a3), (6, V a6), (8, .ref r163), (9, V 1)]) (sbc 2 rfl (sbc 3 rfl (sbc 4 rfl (sbc 5 rfl (sbc 6 rfl (sbc 1 rfl (sbc 0 rfl sbn))))))) ?_
          refine tl2_Law_pages_461 ha2 ha3 ha6 hk1 hn1 FU _ _ e_p181 _ _ ⟨Nat.le_refl _, Nat.le_refl _⟩ (inRk rfl) (fun e_ g_  => ?_) (fun _ g_ => by rw [f_p181] at g_; exact nomatch g_)
          obtain rfl := Sum.inr.inj (f_p181.symm.trans g_)
          refine wx_iconst (pc := 497) (dK D_Law_pages_4 46 rfl) ?_
          refine x_istore (pc := 498) (ls2 := [(9, V 0), (0, .ref 0), (1, .ref c1), (2, V a2), (3, V a3), (6, V a6)]) (dK D_Law_pages_4 47 rfl) (ltK rfl) rfl ?_
          refine wx_iconst (pc := 500) (dK D_Law_pages_4 48 rfl) ?_
          refine x_istore (pc := 501) (ls2 := [(10, V 1), (9, V 0), (0, .ref 0), (1, .ref c1), (2, V a2), (3, V a3), (6, V a6)]) (dK D_Law_pages_4 49 rfl) (ltK rfl) rfl ?_
          refine bnE h ?_
          clear h
          intro p202 e_p202 h
          refine x_weak (ls' := [(0, .ref 0), (1, .ref c1), (2, V a2), (3, V a3), (6, V a6), (9, V 0), (10, V 1)]) (sbc 2 rfl (sbc 3 rfl (sbc 4 rfl (sbc 5 rfl (sbc 6 rfl (sbc 1 rfl (sbc 0 rfl sbn))))))) ?_
          refine tl2_Law_pages_503 ha2 ha3 ha6 (Nat.le_trans (bdk hb) hkt) (Nat.le_trans (bdn hb) hnt) FU _ _ e_p202 (inRk rfl) (inRk rfl) (fun hx9_p202 => ?_)
          refine x_aloadn (pc := 556) (i0 := 0) (j := 0) (dK D_Law_pages_5 25 rfl) rfl rfl ?_
          refine x_iload (pc := 557) (j := 4) (dK D_Law_pages_5 26 rfl) rfl ?_
          refine bnE h ?_
          clear h
          intro p203 e_p203 h
          refine x_callX (pc := 559) (As := [V p202]) (rest := []) (mc' := 0) (ms' := 0) (dK D_Law_pages_5 27 rfl) Q_Law_205 sx_FP_emptiest (fitK rfl) (isK_at (Z := (e183.1, e183.2)) (ci := 10) isK0) rfl (leK rfl) (Nat.le_trans (bdk hb) hkt) (Nat.le_trans (bdn hb) hnt) (clI (fun E => tf_FP_emptiest (X := xz e183.2) xz_hc hx9_p202 e_p203)) (kxI' (fun h_p203 => ?_))
          refine x_iloadn (pc := 562) (i0 := 3) (j := 3) (dK D_Law_pages_5 28 rfl) rfl rfl ?_
          refine wx_icmp_eq (pc := 563) (t := 568) (dK D_Law_pages_5 29 rfl) rfl h_p203 ha3 (fun hc205 => ?_) (fun hc205 => ?_)
          · replace h := ifP h hc205
            refine nmE h ?_
            clear h
            intro v204 e_v204 h
            refine wx_iinc (pc := 568) (j := 3) (a := a3) (z := 1) (ls2 := [(3, V v204), (0, .ref 0), (1, .ref c1), (2, V a2), (9, V p202)]) (dK D_Law_pages_5 32 rfl) rfl e_v204 (ltK rfl) rfl ?_
            refine x_goto (pc := 571) (tgt := 4) (dK D_Law_pages_5 33 rfl) rfl ?_
            refine x_weak (ls' := [(0, .ref 0), (1, .ref c1), (2, V a2), (3, V v204)]) (sbc 1 rfl (sbc 2 rfl (sbc 3 rfl (sbc 0 rfl sbn)))) ?_
            replace h := ih _ _ h
            exact h _ _ hb ha2 (Vn_in e_v204) hx hr
          · replace h := ifN h hc205
            refine wx_iconst (pc := 566) (dK D_Law_pages_5 30 rfl) ?_
            obtain rfl := Option.some.inj h
            exact wk_iretB (pc := 567) (b := false) (dK D_Law_pages_5 31 rfl) rfl (Nat.le_trans (bdk hb) hkt) (Nat.le_trans (bdn hb) hnt) (hr (false, (e183.1, e183.2)) rfl)
      · replace h := ifN h hc206
        refine wx_iconst (pc := 456) (dK D_Law_pages_4 25 rfl) ?_
        obtain rfl := Option.some.inj h
        exact wk_iretB (pc := 457) (b := false) (dK D_Law_pages_4 26 rfl) rfl (Nat.le_trans (bdk hb) hkt) (Nat.le_trans (bdn hb) hnt) (hr (false, (p162.2.2, p160.1.2.2)) rfl)
def lb2_Law_pages_4 (c1 : Nat) (go : Int × Int × LZ → Option (((Bool × LZ) ⊕ (Int × LZ)) × Nat × Nat)) (a2 : Int) (a3 : Int) (S : St) (L : List PC) : Option (((Bool × LZ) ⊕ (Int × LZ)) × Nat × Nat) := if isK L c1 12 = true then (bnO (gn_LP_pages c1 S L) fun p1 => if p1 < a3 then (some (.inr (a2, (S, L)), 0, 0)) else (bnO (gfV L c1 12 4) fun v3 => rfB v3 fun r4 => if isK L c1 12 = true then (bnO (gn_LP_on c1 r4 a3 S L) fun p5 => adC p5.2.1 p5.2.2 (bnO (gfV p5.1.2.2 c1 12 6) fun v7 => rfB v7 fun r8 => if isK p5.1.2.2 c1 12 = true then (bnO (gn_LP_on c1 r8 a3 p5.1.2.1 p5.1.2.2) fun p9 => adC p9.2.1 p9.2.2 (if isK p9.1.2.2 c1 12 = true then (bnO (gn_LP_left c1 a3 p9.1.2.1 p9.1.2.2) fun p11 => nm (wr (a2 + (4 - p11))) fun v13 => if (0 : Int) ≤ 8 ∧ (8 : Int) ≤ 16384 then (if p9.1.2.2.length < 900000000 then adC 1 (8 : Int).toNat (nw p9.1.2.2 (100, List.replicate (8 : Int).toNat (.int 0)) fun r17 L18 => nm (wr (a3.tdiv 2)) fun v19 => bnO (ast L18 100 r17 0 (V v19)) fun L20 => bnO (gfI L20 c1 12 1) fun v21 => nm (wr (a3 - 1)) fun v22 => if 0 < v21 then (nm (wr (v22.tdiv v21)) fun v24 => bnO (ast L20 100 r17 1 (V v24)) fun L25 => if isK L25 c1 12 = true then (bnO (gn_LP_form c1 a3 p9.1.2.1 L25) fun p26 => bnO (ast L25 100 r17 2 (V p26)) fun L28 => bnO (ast L28 100 r17 3 (V p11)) fun L29 => rfB p5.1.1 fun r30 => if isK L29 r30 13 = true then (bnO (gn_AL_size r30 p9.1.2.1 L29) fun p31 => bnO (ast L29 100 r17 4 (V p31)) fun L33 => if isK L33 c1 12 = true then (bnO (gn_LP_story c1 a3 p9.1.2.1 L33) fun p34 => bnO (ast L33 100 r17 5 (V p34)) fun L36 => rfB p9.1.1 fun r37 => if isK L36 r37 13 = true then (bnO (gn_AL_size r37 p9.1.2.1 L36) fun p38 => bnO (ast L36 100 r17 6 (V p38)) fun L40 => bnO (ast L40 100 r17 7 (V (-1))) fun L41 => bnT (lo2_Law_pages_117 c1 v13 a3 r30 r37 p11 r17 FU (0, (p9.1.2.1, L41))) (fun r48 => some (.inl (r48.1, (r48.2.1, r48.2.2)), 0, 0)) fun e49 => bnT (lo2_Law_pages_150 c1 v13 a3 r30 r37 p11 FU (0, (e49.1, e49.2))) (fun r68 => some (.inl (r68.1, (r68.2.1, r68.2.2)), 0, 0)) fun e69 => if isK e69.2 c1 12 = true then (bnO (gn_LP_story c1 a3 e69.1 e69.2) fun p70 => if 0 ≤ p70 then (if e69.2.length < 900000000 then adC 1 4 (nw e69.2 (15, dfl 15) fun r73 L74 => bnO (gn_SB_init r73 e69.1 L74) fun p76 => adC p76.2.1 p76.2.2 (if isK p76.1.2 r73 15 = true then (bnO (gn_SB_append r73 (XB + 9) p76.1.1 p76.1.2) fun p77 => adC p77.2.1 p77.2.2 (if isK p77.1.2.2 c1 12 = true then (bnO (gn_LP_story c1 a3 p77.1.2.1 p77.1.2.2) fun p79 => rfB p77.1.1 fun r81 => if isK p77.1.2.2 r81 15 = true then (bnO (gn_SB_append2 r81 p79 p77.1.2.1 p77.1.2.2) fun p82 => adC p82.2.1 p82.2.2 (rfB p82.1.1 fun r84 => if isK p82.1.2.2 r84 15 = true then (bnO (gn_SB_toString r84 p82.1.2.1 p82.1.2.2) fun p85 => adC p85.2.1 p85.2.2 (if isK p85.1.2.2 r30 13 = true then (bnO (gn_AL_iterator r30 p85.1.2.1 p85.1.2.2) fun p87 => adC p87.2.1 p87.2.2 (rfB p87.1.1 fun r89 => bnO (lo2_Law_pages_250 c1 v13 a3 r37 p11 r89 FU (p85.1.1, (p87.1.2.1, p87.1.2.2))) fun p116 => adC p116.2.1 p116.2.2 (if isK p116.1.2.2 r37 13 = true then (bnO (gn_AL_iterator r37 p116.1.2.1 p116.1.2.2) fun p117 => adC p117.2.1 p117.2.2 (rfB p117.1.1 fun r119 => bnO (lo2_Law_pages_312 c1 v13 a3 p11 r119 FU (p116.1.1, (p117.1.2.1, p117.1.2.2))) fun p146 => adC p146.2.1 p146.2.2 (if p146.1.2.2.length < 900000000 then adC 1 4 (nw p146.1.2.2 (15, dfl 15) fun r148 L149 => bnO (gn_SB_init r148 p146.1.2.1 L149) fun p151 => adC p151.2.1 p151.2.2 (rfB p146.1.1 fun r152 => if isK p151.1.2 r148 15 = true then (bnO (gn_SB_append r148 r152 p151.1.1 p151.1.2) fun p153 => adC p153.2.1 p153.2.2 (if p11 ≤ 0 then (jf2_Law_pages_409_4 c1 go v13 a3 p11 (.ref (XB + 8)) p153.1.1 p153.1.2.1 p153.1.2.2) else (if p153.1.2.2.length < 900000000 then adC 1 4 (nw p153.1.2.2 (15, dfl 15) fun r210 L211 => bnO (gn_SB_init r210 p153.1.2.1 L211) fun p213 => adC p213.2.1 p213.2.2 (if isK p213.1.2 r210 15 = true then (bnO (gn_SB_append r210 (XB + 12) p213.1.1 p213.1.2) fun p214 => adC p214.2.1 p214.2.2 (rfB p214.1.1 fun r216 => if isK p214.1.2.2 r216 15 = true then (bnO (gn_SB_append2 r216 p11 p214.1.2.1 p214.1.2.2) fun p217 => adC p217.2.1 p217.2.2 (rfB p217.1.1 fun r219 => if isK p217.1.2.2 r219 15 = true then (bnO (gn_SB_toString r219 p217.1.2.1 p217.1.2.2) fun p220 => adC p220.2.1 p220.2.2 (jf2_Law_pages_409_4 c1 go v13 a3 p11 p220.1.1 p153.1.1 p220.1.2.1 p220.1.2.2)) else none)) else none)) else none)) else none))) else none)) else none))) else none))) else none)) else none)) else none) else none)) else none)) else none) else (if isK e69.2 r30 13 = true then (bnO (gn_AL_iterator r30 e69.1 e69.2) fun p223 => adC p223.2.1 p223.2.2 (rfB p223.1.1 fun r225 => bnO (lo2_Law_pages_250 c1 v13 a3 r37 p11 r225 FU (.ref (XB + 8), (p223.1.2.1, p223.1.2.2))) fun p226 => adC p226.2.1 p226.2.2 (if isK p226.1.2.2 r37 13 = true then (bnO (gn_AL_iterator r37 p226.1.2.1 p226.1.2.2) fun p227 => adC p227.2.1 p227.2.2 (rfB p227.1.1 fun r229 => bnO (lo2_Law_pages_312 c1 v13 a3 p11 r229 FU (p226.1.1, (p227.1.2.1, p227.1.2.2))) fun p230 => adC p230.2.1 p230.2.2 (if p230.1.2.2.length < 900000000 then adC 1 4 (nw p230.1.2.2 (15, dfl 15) fun r232 L233 => bnO (gn_SB_init r232 p230.1.2.1 L233) fun p235 => adC p235.2.1 p235.2.2 (rfB p230.1.1 fun r236 => if isK p235.1.2 r232 15 = true then (bnO (gn_SB_append r232 r236 p235.1.1 p235.1.2) fun p237 => adC p237.2.1 p237.2.2 (if p11 ≤ 0 then (jf2_Law_pages_409_4 c1 go v13 a3 p11 (.ref (XB + 8)) p237.1.1 p237.1.2.1 p237.1.2.2) else (if p237.1.2.2.length < 900000000 then adC 1 4 (nw p237.1.2.2 (15, dfl 15) fun r240 L241 => bnO (gn_SB_init r240 p237.1.2.1 L241) fun p243 => adC p243.2.1 p243.2.2 (if isK p243.1.2 r240 15 = true then (bnO (gn_SB_append r240 (XB + 12) p243.1.1 p243.1.2) fun p244 => adC p244.2.1 p244.2.2 (rfB p244.1.1 fun r246 => if isK p244.1.2.2 r246 15 = true then (bnO (gn_SB_append2 r246 p11 p244.1.2.1 p244.1.2.2) fun p247 => adC p247.2.1 p247.2.2 (rfB p247.1.1 fun r249 => if isK p247.1.2.2 r249 15 = true then (bnO (gn_SB_toString r249 p247.1.2.1 p247.1.2.2) fun p250 => adC p250.2.1 p250.2.2 (jf2_Law_pages_409_4 c1 go v13 a3 p11 p250.1.1 p237.1.1 p250.1.2.1 p250.1.2.2)) else none)) else none)) else none)) else none))) else none)) else none))) else none))) else none)) else none) else none) else none) else none) else none) else none) else none) else none) else none)) else none)) else none)) else none
def lo2_Law_pages_4 (c1 : Nat) : Nat → Int × Int × LZ → Option (((Bool × LZ) ⊕ (Int × LZ)) × Nat × Nat) := lp fun go p => lb2_Law_pages_4 c1 go p.1 p.2.1 p.2.2.1 p.2.2.2
theorem tl2_Law_pages_4 {sc : SC} {c1 : Nat} {K : Option Value → List PC → Prop} {mc ms kt nt : Nat} (hkt : kt ≤ mc) (hnt : nt ≤ ms) : ∀ (N : Nat) (a : Int × Int × LZ) (q : ((Bool × LZ) ⊕ (Int × LZ)) × Nat × Nat), lo2_Law_pages_4 c1 N a = some q → ∀ k n, Bd k n kt nt q → inR a.1 → inR a.2.1 → (∀ e, q.1 = .inr e → inR e.1 → GX sc M_Law_pages mc ms 574 [(0, .ref 0), (1, .ref c1), (2, V e.1)] [] (wz e.2) kt nt K) → (∀ r, q.1 = .inl r → K (some (V (bi r.1))) (wz r.2)) → GX sc M_Law_pages mc ms 4 [(0, .ref 0), (1, .ref c1), (2, V a.1), (3, V a.2.1)] [] (wz a.2.2) k n K := by
  refine lp_ind2 (P := fun (a : Int × Int × LZ) (q : ((Bool × LZ) ⊕ (Int × LZ)) × Nat × Nat) => ∀ k n, Bd k n kt nt q → inR a.1 → inR a.2.1 → (∀ e, q.1 = .inr e → inR e.1 → GX sc M_Law_pages mc ms 574 [(0, .ref 0), (1, .ref c1), (2, V e.1)] [] (wz e.2) kt nt K) → (∀ r, q.1 = .inl r → K (some (V (bi r.1))) (wz r.2)) → GX sc M_Law_pages mc ms 4 [(0, .ref 0), (1, .ref c1), (2, V a.1), (3, V a.2.1)] [] (wz a.2.2) k n K) (fun go ih a q h => ?_)
  obtain ⟨a2, a3, ⟨S, L⟩⟩ := a
  intro k n hb ha2 ha3 hx hr
  show GX sc M_Law_pages mc ms 4 [(0, .ref 0), (1, .ref c1), (2, V a2), (3, V a3)] [] (wz (S, L)) k n K
  replace h : lb2_Law_pages_4 c1 go a2 a3 S L = some q := h
  unfold lb2_Law_pages_4 at h
  refine x_iloadn (pc := 4) (i0 := 3) (j := 3) (dK D_Law_pages_0 4 rfl) rfl rfl ?_
  refine x_aloadn (pc := 5) (i0 := 1) (j := 1) (dK D_Law_pages_0 5 rfl) rfl rfl ?_
  refine gdE h ?_
  clear h
  intro hk2 h
  refine bnE h ?_
  clear h
  intro p1 e_p1 h
  refine x_callX (pc := 6) (As := []) (rest := [V a3]) (mc' := 0) (ms' := 0) (dK D_Law_pages_0 6 rfl) Q_Law_42 sx_LP_pages (fitK rfl) (isK_at (Z := (S, L)) (ci := 12) hk2) rfl (leK rfl) (Nat.le_trans (bdk hb) hkt) (Nat.le_trans (bdn hb) hnt) (tg_LP_pages  e_p1) (kxI' (fun h_p1 => ?_))
  refine wx_icmp_gt (pc := 9) (t := 574) (dK D_Law_pages_0 7 rfl) rfl ha3 h_p1 (fun hc254 => ?_) (fun hc254 => ?_)
  · replace h := ifP h hc254
    obtain rfl := Option.some.inj h
    refine x_weak (ls' := [(0, .ref 0), (1, .ref c1), (2, V a2)]) (sbc 0 rfl (sbc 1 rfl (sbc 2 rfl sbn))) ?_
    refine x_room (bdk hb) (bdn hb) ?_
    exact hx (a2, (S, L)) rfl ha2
  · replace h := ifN h hc254
    refine x_aloadn (pc := 12) (i0 := 1) (j := 1) (dK D_Law_pages_0 8 rfl) rfl rfl ?_
    refine x_aloadn (pc := 13) (i0 := 1) (j := 1) (dK D_Law_pages_0 9 rfl) rfl rfl ?_
    refine bnE h ?_
    clear h
    intro v3 e_v3 h
    refine wx_getV (pc := 14) (ci := 12) (f := 4) e_v3 (dK D_Law_pages_0 10 rfl) q_776 (ltK rfl) (ltK rfl) (fun hv3 => ?_)
    refine x_iloadn (pc := 17) (i0 := 3) (j := 3) (dK D_Law_pages_0 11 rfl) rfl rfl ?_
    refine rfE h ?_
    clear h
    intro r4 e_r4 h
    rw [e_r4]
    refine gdE h ?_
    clear h
    intro hk6 h
    refine bnE h ?_
    clear h
    intro p5 e_p5 h
    obtain ⟨yp5, h9, e9⟩ := adE2 h
    clear h
    subst e9
    have h := h9
    clear h9
    have hk1 := Nat.le_trans (bd1 hb) hkt
    have hn1 := Nat.le_trans (bd2 hb) hnt
    replace hb := bdA hb
    refine x_callX (pc := 18) (As := [.ref r4, V a3]) (rest := []) (mc' := p5.2.1) (ms' := p5.2.2) (dK D_Law_pages_0 12 rfl) Q_Law_138 sx_LP_on (fitK rfl) (isK_at (Z := (S, L)) (ci := 12) hk6) rfl (leK rfl) hk1 hn1 (tg_LP_on ha3 e_p5) (kxR (fun h_p5 => ?_))
    refine x_astoreV (pc := 21) (ls2 := [(4, p5.1.1), (0, .ref 0), (1, .ref c1), (2, V a2), (3, V a3)]) h_p5 (dK D_Law_pages_0 13 rfl) (ltK rfl) rfl ?_
    refine x_aloadn (pc := 23) (i0 := 1) (j := 2) (dK D_Law_pages_0 14 rfl) rfl rfl ?_
    refine x_aloadn (pc := 24) (i0 := 1) (j := 2) (dK D_Law_pages_0 15 rfl) rfl rfl ?_
    refine bnE h ?_
    clear h
    intro v7 e_v7 h
    refine wx_getV (pc := 25) (ci := 12) (f := 6) e_v7 (dK D_Law_pages_0 16 rfl) q_780 (ltK rfl) (ltK rfl) (fun hv7 => ?_)
    refine x_iloadn (pc := 28) (i0 := 3) (j := 4) (dK D_Law_pages_0 17 rfl) rfl rfl ?_
    refine rfE h ?_
    clear h
    intro r8 e_r8 h
    rw [e_r8]
    refine gdE h ?_
    clear h
    intro hk10 h
    refine bnE h ?_
    clear h
    intro p9 e_p9 h
    obtain ⟨yp9, h9, e9⟩ := adE2 h
    clear h
    subst e9
    have h := h9
    clear h9
    have hk1 := Nat.le_trans (bd1 hb) hkt
    have hn1 := Nat.le_trans (bd2 hb) hnt
    replace hb := bdA hb
    refine x_callX (pc := 29) (As := [.ref r8, V a3]) (rest := []) (mc' := p9.2.1) (ms' := p9.2.2) (dK D_Law_pages_0 18 rfl) Q_Law_138 sx_LP_on (fitK rfl) (isK_at (Z := (p5.1.2.1, p5.1.2.2)) (ci := 12) hk10) rfl (leK rfl) hk1 hn1 (tg_LP_on ha3 e_p9) (kxR (fun h_p9 => ?_))
    refine x_astoreV (pc := 32) (ls2 := [(5, p9.1.1), (4, p5.1.1), (0, .ref 0), (1, .ref c1), (2, V a2), (3, V a3)]) h_p9 (dK D_Law_pages_0 19 rfl) (ltK rfl) (by simp [stI, List.filter, cato h_p5]) ?_
    refine x_aloadn (pc := 34) (i0 := 1) (j := 3) (dK D_Law_pages_0 20 rfl) rfl rfl ?_
    refine x_iloadn (pc := 35) (i0 := 3) (j := 5) (dK D_Law_pages_0 21 rfl) rfl rfl ?_
    refine gdE h ?_
    clear h
    intro hk12 h
    refine bnE h ?_
    clear h
    intro p11 e_p11 h
    refine x_callX (pc := 36) (As := [V a3]) (rest := []) (mc' := 0) (ms' := 0) (dK D_Law_pages_0 22 rfl) Q_Law_142 sx_LP_left (fitK rfl) (isK_at (Z := (p9.1.2.1, p9.1.2.2)) (ci := 12) hk12) rfl (leK rfl) (Nat.le_trans (bdk hb) hkt) (Nat.le_trans (bdn hb) hnt) (tg_LP_left ha3 e_p11) (kxI' (fun h_p11 => ?_))
    refine x_istore (pc := 39) (ls2 := [(6, V p11), (5, p9.1.1), (4, p5.1.1), (0, .ref 0), (1, .ref c1), (2, V a2), (3, V a3)]) (dK D_Law_pages_0 23 rfl) (ltK rfl) (by simp [stI, List.filter, cato h_p9]) ?_
    refine x_iloadn (pc := 41) (i0 := 2) (j := 5) (dK D_Law_pages_0 24 rfl) rfl rfl ?_
    refine wx_iconst (pc := 42) (dK D_Law_pages_0 25 rfl) ?_
    refine x_iload (pc := 43) (j := 0) (dK D_Law_pages_0 26 rfl) rfl ?_
    refine wx_isub (pc := 45) (dK D_Law_pages_0 27 rfl) ?_
    refine wx_iadd (pc := 46) (dK D_Law_pages_0 28 rfl) ?_
    refine nmE h ?_
    clear h
    intro v13 e_v13 h
    refine wtop e_v13 ?_
    refine x_istoren (pc := 47) (i0 := 2) (ls2 := [(2, V v13), (6, V p11), (5, p9.1.1), (4, p5.1.1), (0, .ref 0), (1, .ref c1), (3, V a3)]) (dK D_Law_pages_0 29 rfl) rfl (ltK rfl) rfl ?_
    refine wx_bipush (pc := 48) (dK D_Law_pages_0 30 rfl) rfl ?_
    refine gdE h ?_
    clear h
    intro hz14 h
    refine gdE h ?_
    clear h
    intro hl15 h
    obtain ⟨y16, h9, e9⟩ := adE2 h
    clear h
    subst e9
    have h := h9
    clear h9
    refine nwE h ?_
    clear h
    intro r17 L18 e_r17 e_L18 h
    have hk1 := Nat.le_trans (bd1 hb) hkt
    have hn1 := Nat.le_trans (bd2 hb) hnt
    replace hb := bdA hb
    refine wn_newa_int (Z := (p9.1.2.1, p9.1.2.2)) (pc := 50) e_r17 e_L18 hl15 (inRk rfl) hz14 (dK D_Law_pages_0 31 rfl) q_68 hk1 hn1 ?_
    refine x_dup (pc := 52) (dK D_Law_pages_0 32 rfl) rfl ?_
    refine wx_iconst (pc := 53) (dK D_Law_pages_0 33 rfl) ?_
    refine x_iloadn (pc := 54) (i0 := 3) (j := 6) (dK D_Law_pages_0 34 rfl) rfl rfl ?_
    refine wx_iconst (pc := 55) (dK D_Law_pages_0 35 rfl) ?_
    refine wx_idiv (pc := 56) (dK D_Law_pages_0 36 rfl) ha3 (inRk rfl) (by decide) ?_
    refine nmE h ?_
    clear h
    intro v19 e_v19 h
    refine wtop e_v19 ?_
    refine bnE h ?_
    clear h
    intro L20 e_L20 h
    refine wx_iast (Z := (p9.1.2.1, L18)) (pc := 57) (z := v19) e_L20 (inRk rfl) (dK D_Law_pages_0 37 rfl) ?_
    refine x_dup (pc := 58) (dK D_Law_pages_0 38 rfl) rfl ?_
    refine wx_iconst (pc := 59) (dK D_Law_pages_0 39 rfl) ?_
    refine x_iloadn (pc := 60) (i0 := 3) (j := 6) (dK D_Law_pages_0 40 rfl) rfl rfl ?_
    refine wx_iconst (pc := 61) (dK D_Law_pages_0 41 rfl) ?_
    refine wx_isub (pc := 62) (dK D_Law_pages_0 42 rfl) ?_
    refine x_aloadn (pc := 63) (i0 := 1) (j := 5) (dK D_Law_pages_0 43 rfl) rfl rfl ?_
    refine bnE h ?_
    clear h
    intro v21 e_v21 h
    refine wx_getI (pc := 64) (ci := 12) (f := 1) e_v21 (dK D_Law_pages_0 44 rfl) q_770 (ltK rfl) (ltK rfl) ?_
    refine nmE h ?_
    clear h
    intro v22 e_v22 h
    refine wsk (st' := [V v21, V v22, V 1, .ref r17, .ref r17]) (congrArg (fun z9 => [V v21, z9, V 1, .ref r17, .ref r17]) (Vn e_v22)) ?_
    refine gdE h ?_
    clear h
    intro hp23 h
    refine wx_idiv (pc := 67) (dK D_Law_pages_0 45 rfl) (Vn_in e_v22) (vI_at e_v21).2 hp23 ?_
    refine nmE h ?_
    clear h
    intro v24 e_v24 h
    refine wtop e_v24 ?_
    refine bnE h ?_
    clear h
    intro L25 e_L25 h
    refine wx_iast (Z := (p9.1.2.1, L20)) (pc := 68) (z := v24) e_L25 (inRk rfl) (dK D_Law_pages_0 46 rfl) ?_
    refine x_dup (pc := 69) (dK D_Law_pages_0 47 rfl) rfl ?_
    refine wx_iconst (pc := 70) (dK D_Law_pages_0 48 rfl) ?_
    refine x_aloadn (pc := 71) (i0 := 1) (j := 5) (dK D_Law_pages_0 49 rfl) rfl rfl ?_
    refine x_iloadn (pc := 72) (i0 := 3) (j := 6) (dK D_Law_pages_1 0 rfl) rfl rfl ?_
    refine gdE h ?_
    clear h
    intro hk27 h
    refine bnE h ?_
    clear h
    intro p26 e_p26 h
    refine x_callX (pc := 73) (As := [V a3]) (rest := [V 2, .ref r17, .ref r17]) (mc' := 0) (ms' := 0) (dK D_Law_pages_1 1 rfl) Q_Law_148 sx_LP_form (fitK rfl) (isK_at (Z := (p9.1.2.1, L25)) (ci := 12) hk27) rfl (leK rfl) (Nat.le_trans (bdk hb) hkt) (Nat.le_trans (bdn hb) hnt) (tg_LP_form ha3 e_p26) (kxI' (fun h_p26 => ?_))
    refine bnE h ?_
    clear h
    intro L28 e_L28 h
    refine wx_iast (Z := (p9.1.2.1, L25)) (pc := 76) (z := p26) e_L28 (inRk rfl) (dK D_Law_pages_1 2 rfl) ?_
    refine x_dup (pc := 77) (dK D_Law_pages_1 3 rfl) rfl ?_
    refine wx_iconst (pc := 78) (dK D_Law_pages_1 4 rfl) ?_
    refine x_iload (pc := 79) (j := 1) (dK D_Law_pages_1 5 rfl) rfl ?_
    refine bnE h ?_
    clear h
    intro L29 e_L29 h
    refine wx_iast (Z := (p9.1.2.1, L28)) (pc := 81) (z := p11) e_L29 (inRk rfl) (dK D_Law_pages_1 6 rfl) ?_
    refine x_dup (pc := 82) (dK D_Law_pages_1 7 rfl) rfl ?_
    refine wx_iconst (pc := 83) (dK D_Law_pages_1 8 rfl) ?_
    refine x_aloadV (pc := 84) (j := 3) h_p5 (dK D_Law_pages_1 9 rfl) rfl ?_
    refine rfE h ?_
    clear h
    intro r30 e_r30 h
    rw [e_r30]
    refine gdE h ?_
    clear h
    intro hk32 h
    refine bnE h ?_
    clear h
    intro p31 e_p31 h
    refine x_callX (pc := 86) (As := []) (rest := [V 4, .ref r17, .ref r17]) (mc' := 0) (ms' := 0) (dK D_Law_pages_1 10 rfl) Q_Law_55 sx_AL_size (fitK rfl) (isK_at (Z := (p9.1.2.1, L29)) (ci := 13) hk32) rfl (leK rfl) (Nat.le_trans (bdk hb) hkt) (Nat.le_trans (bdn hb) hnt) (tg_AL_size  e_p31) (kxI' (fun h_p31 => ?_))
    refine bnE h ?_
    clear h
    intro L33 e_L33 h
    refine wx_iast (Z := (p9.1.2.1, L29)) (pc := 89) (z := p31) e_L33 (inRk rfl) (dK D_Law_pages_1 11 rfl) ?_
    refine x_dup (pc := 90) (dK D_Law_pages_1 12 rfl) rfl ?_
    refine wx_iconst (pc := 91) (dK D_Law_pages_1 13 rfl) ?_
    refine x_aloadn (pc := 92) (i0 := 1) (j := 5) (dK D_Law_pages_1 14 rfl) rfl rfl ?_
    refine x_iloadn (pc := 93) (i0 := 3) (j := 6) (dK D_Law_pages_1 15 rfl) rfl rfl ?_
    refine gdE h ?_
    clear h
    intro hk35 h
    refine bnE h ?_
    clear h
    intro p34 e_p34 h
    refine x_callX (pc := 94) (As := [V a3]) (rest := [V 5, .ref r17, .ref r17]) (mc' := 0) (ms' := 0) (dK D_Law_pages_1 16 rfl) Q_Law_151 sx_LP_story (fitK rfl) (isK_at (Z := (p9.1.2.1, L33)) (ci := 12) hk35) rfl (leK rfl) (Nat.le_trans (bdk hb) hkt) (Nat.le_trans (bdn hb) hnt) (tg_LP_story ha3 e_p34) (kxI' (fun h_p34 => ?_))
    refine bnE h ?_
    clear h
    intro L36 e_L36 h
    refine wx_iast (Z := (p9.1.2.1, L33)) (pc := 97) (z := p34) e_L36 (inRk rfl) (dK D_Law_pages_1 17 rfl) ?_
    refine x_dup (pc := 98) (dK D_Law_pages_1 18 rfl) rfl ?_
    refine wx_bipush (pc := 99) (dK D_Law_pages_1 19 rfl) rfl ?_
    refine x_aloadV (pc := 101) (j := 2) h_p9 (dK D_Law_pages_1 20 rfl) rfl ?_
    refine rfE h ?_
    clear h
    intro r37 e_r37 h
    rw [e_r37]
    refine gdE h ?_
    clear h
    intro hk39 h
    refine bnE h ?_
    clear h
    intro p38 e_p38 h
    refine x_callX (pc := 103) (As := []) (rest := [V 6, .ref r17, .ref r17]) (mc' := 0) (ms' := 0) (dK D_Law_pages_1 21 rfl) Q_Law_55 sx_AL_size (fitK rfl) (isK_at (Z := (p9.1.2.1, L36)) (ci := 13) hk39) rfl (leK rfl) (Nat.le_trans (bdk hb) hkt) (Nat.le_trans (bdn hb) hnt) (tg_AL_size  e_p38) (kxI' (fun h_p38 => ?_))
    refine bnE h ?_
    clear h
    intro L40 e_L40 h
    refine wx_iast (Z := (p9.1.2.1, L36)) (pc := 106) (z := p38) e_L40 (inRk rfl) (dK D_Law_pages_1 22 rfl) ?_
    refine x_dup (pc := 107) (dK D_Law_pages_1 23 rfl) rfl ?_
    refine wx_bipush (pc := 108) (dK D_Law_pages_1 24 rfl) rfl ?_
    refine wx_iconst (pc := 110) (dK D_Law_pages_1 25 rfl) ?_
    refine bnE h ?_
    clear h
    intro L41 e_L41 h
    refine wx_iast (Z := (p9.1.2.1, L40)) (pc := 111) (z := (-1)) e_L41 (inRk rfl) (dK D_Law_pages_1 26 rfl) ?_
    refine x_astore (pc := 112) (ls2 := [(7, .ref r17), (2, V v13), (6, V p11), (5, .ref r37), (4, .ref r30), (0, .ref 0), (1, .ref c1), (3, V a3)]) (dK D_Law_pages_1 27 rfl) (ltK rfl) rfl ?_
    refine wx_iconst (pc := 114) (dK D_Law_pages_1 28 rfl) ?_
    refine x_istore (pc := 115) (ls2 := [(8, V 0), (7, .ref r17), (2, V v13), (6, V p11), (5, .ref r37), (4, .ref r30), (0, .ref 0), (1, .ref c1), (3, V a3)]) (dK D_Law_pages_1 29 rfl) (ltK rfl) rfl ?_
    refine bnTE h ?_ ?_
    · clear h
      intro p47 r48 yp47 e_p47 f_p47 h e9
      subst e9
      have hk1 := Nat.le_trans (bd1 hb) hkt
      have hn1 := Nat.le_trans (bd2 hb) hnt
      replace hb := bdA hb
      refine x_weak (ls' := [(0, .ref 0), (1, .ref c1), (2, V v13), (3, V a3), (4, .ref r30), (5, .ref r37), (6, V p11), (7, .ref r17), (8, V 0)]) (sbc 6 rfl (sbc 7 rfl (sbc 2 rfl (sbc 8 rfl (sbc 5 rfl (sbc 4 rfl (sbc 3 rfl (sbc 1 rfl (sbc 0 rfl sbn))))))))) ?_
      refine tl2_Law_pages_117 (Vn_in e_v13) ha3 h_p11 hk1 hn1 FU _ _ e_p47 _ _ ⟨Nat.le_refl _, Nat.le_refl _⟩ (inRk rfl) (fun _ g_ => by rw [f_p47] at g_; exact nomatch g_) (fun r_ g_  => ?_)
      obtain rfl := Sum.inl.inj (f_p47.symm.trans g_)
      obtain rfl := Option.some.inj h
      exact hr (r48.1, (r48.2.1, r48.2.2)) rfl
    · clear h
      intro p47 e49 yp47 e_p47 f_p47 h e9
      subst e9
      have hk1 := Nat.le_trans (bd1 hb) hkt
      have hn1 := Nat.le_trans (bd2 hb) hnt
      replace hb := bdA hb
      refine x_weak (ls' := [(0, .ref 0), (1, .ref c1), (2, V v13), (3, V a3), (4, .ref r30), (5, .ref r37), (6, V p11), (7, .ref r17), (8, V 0)]) (sbc 6 rfl (sbc 7 rfl (sbc 2 rfl (sbc 8 rfl (sbc 5 rfl (sbc 4 rfl (sbc 3 rfl (sbc 1 rfl (sbc 0 rfl sbn))))))))) ?_
      refine tl2_Law_pages_117 (Vn_in e_v13) ha3 h_p11 hk1 hn1 FU _ _ e_p47 _ _ ⟨Nat.le_refl _, Nat.le_refl _⟩ (inRk rfl) (fun e_ g_  => ?_) (fun _ g_ => by rw [f_p47] at g_; exact nomatch g_)
      obtain rfl := Sum.inr.inj (f_p47.symm.trans g_)
      refine wx_iconst (pc := 147) (dK D_Law_pages_1 45 rfl) ?_
      refine x_istore (pc := 148) (ls2 := [(8, V 0), (0, .ref 0), (1, .ref c1), (2, V v13), (3, V a3), (4, .ref r30), (5, .ref r37), (6, V p11)]) (dK D_Law_pages_1 46 rfl) (ltK rfl) rfl ?_
      refine bnTE h ?_ ?_
      · clear h
        intro p67 r68 yp67 e_p67 f_p67 h e9
        subst e9
        have hk1 := Nat.le_trans (bd1 hb) hkt
        have hn1 := Nat.le_trans (bd2 hb) hnt
        replace hb := bdA hb
        refine x_weak (ls' := [(0, .ref 0), (1, .ref c1), (2, V v13), (3, V a3), (4, .ref r30), (5, .ref r37), (6, V p11), (8, V 0)]) (sbc 1 rfl (sbc 2 rfl (sbc 3 rfl (sbc 4 rfl (sbc 5 rfl (sbc 6 rfl (sbc 7 rfl (sbc 0 rfl sbn)))))))) ?_
        refine tl2_Law_pages_150 (Vn_in e_v13) ha3 h_p11 hk1 hn1 FU _ _ e_p67 _ _ ⟨Nat.le_refl _, Nat.le_refl _⟩ (inRk rfl) (fun _ g_ => by rw [f_p67] at g_; exact nomatch g_) (fun r_ g_  => ?_)
        obtain rfl := Sum.inl.inj (f_p67.symm.trans g_)
        obtain rfl := Option.some.inj h
        exact hr (r68.1, (r68.2.1, r68.2.2)) rfl
      · clear h
        intro p67 e69 yp67 e_p67 f_p67 h e9
        subst e9
        have hk1 := Nat.le_trans (bd1 hb) hkt
        have hn1 := Nat.le_trans (bd2 hb) hnt
        replace hb := bdA hb
        refine x_weak (ls' := [(0, .ref 0), (1, .ref c1), (2, V v13), (3, V a3), (4, .ref r30), (5, .ref r37), (6, V p11), (8, V 0)]) (sbc 1 rfl (sbc 2 rfl (sbc 3 rfl (sbc 4 rfl (sbc 5 rfl (sbc 6 rfl (sbc 7 rfl (sbc 0 rfl sbn)))))))) ?_
        refine tl2_Law_pages_150 (Vn_in e_v13) ha3 h_p11 hk1 hn1 FU _ _ e_p67 _ _ ⟨Nat.le_refl _, Nat.le_refl _⟩ (inRk rfl) (fun e_ g_  => ?_) (fun _ g_ => by rw [f_p67] at g_; exact nomatch g_)
        obtain rfl := Sum.inr.inj (f_p67.symm.trans g_)
        refine x_aloadn (pc := 205) (i0 := 1) (j := 1) (dK D_Law_pages_2 21 rfl) rfl rfl ?_
        refine x_iloadn (pc := 206) (i0 := 3) (j := 3) (dK D_Law_pages_2 22 rfl) rfl rfl ?_
        refine gdE h ?_
        clear h
        intro hk71 h
        refine bnE h ?_
        clear h
        intro p70 e_p70 h
        refine x_callX (pc := 207) (As := [V a3]) (rest := []) (mc' := 0) (ms' := 0) (dK D_Law_pages_2 23 rfl) Q_Law_151 sx_LP_story (fitK rfl) (isK_at (Z := (e69.1, e69.2)) (ci := 12) hk71) rfl (leK rfl) (Nat.le_trans (bdk hb) hkt) (Nat.le_trans (bdn hb) hnt) (tg_LP_story ha3 e_p70) (kxI' (fun h_p70 => ?_))
        refine wx_if_ge (pc := 210) (t := 218) (dK D_Law_pages_2 24 rfl) rfl h_p70 (fun hc253 => ?_) (fun hc253 => ?_)
        · replace h := ifP h hc253
          refine gdE h ?_
          clear h
          intro hl72 h
          obtain ⟨y75, h9, e9⟩ := adE2 h
          clear h
          subst e9
          have h := h9
          clear h9
          refine nwE h ?_
          clear h
          intro r73 L74 e_r73 e_L74 h
          have hk1 := Nat.le_trans (bd1 hb) hkt
          have hn1 := Nat.le_trans (bd2 hb) hnt
          replace hb := bdA hb
          refine wn_new (Z := (e69.1, e69.2)) (pc := 218) (ci := 15) (N := 4) e_r73 e_L74 hl72 rfl (dK D_Law_pages_2 27 rfl) (ltK rfl) q_1275 q_1276 q_33 hk1 hn1 ?_
          refine x_dup (pc := 221) (dK D_Law_pages_2 28 rfl) rfl ?_
          refine bnE h ?_
          clear h
          intro p76 e_p76 h
          obtain ⟨yp76, h9, e9⟩ := adE2 h
          clear h
          subst e9
          have h := h9
          clear h9
          have hk1 := Nat.le_trans (bd1 hb) hkt
          have hn1 := Nat.le_trans (bd2 hb) hnt
          replace hb := bdA hb
          refine x_callI (pc := 222) (As := []) (rest := [.ref r73]) (mc' := p76.2.1) (ms' := p76.2.2) (dK D_Law_pages_2 29 rfl) Q_Law_165 (fitK rfl) rfl (leK rfl) hk1 hn1 (tg_SB_init  e_p76) (kxU ?_)
          refine x_ldcS (own := "FlatPlanLaw") (text := " s") (j := 9) rfl (dK D_Law_pages_2 30 rfl) (List.mem_of_getElem? (i := 9) rfl) ?_
          refine gdE h ?_
          clear h
          intro hk78 h
          refine bnE h ?_
          clear h
          intro p77 e_p77 h
          obtain ⟨yp77, h9, e9⟩ := adE2 h
          clear h
          subst e9
          have h := h9
          clear h9
          have hk1 := Nat.le_trans (bd1 hb) hkt
          have hn1 := Nat.le_trans (bd2 hb) hnt
          replace hb := bdA hb
          refine x_callX (pc := 227) (As := [.ref (XB + 9)]) (rest := []) (mc' := p77.2.1) (ms' := p77.2.2) (dK D_Law_pages_2 31 rfl) Q_Law_168 sx_SB_append (fitK rfl) (isK_at (Z := (p76.1.1, p76.1.2)) (ci := 15) hk78) rfl (leK rfl) hk1 hn1 (tg_SB_append  e_p77) (kxR (fun h_p77 => ?_))
          refine x_aloadn (pc := 230) (i0 := 1) (j := 1) (dK D_Law_pages_2 32 rfl) rfl rfl ?_
          refine x_iloadn (pc := 231) (i0 := 3) (j := 3) (dK D_Law_pages_2 33 rfl) rfl rfl ?_
          refine gdE h ?_
          clear h
          intro hk80 h
          refine bnE h ?_
          clear h
          intro p79 e_p79 h
          refine x_callX (pc := 232) (As := [V a3]) (rest := [p77.1.1]) (mc' := 0) (ms' := 0) (dK D_Law_pages_2 34 rfl) Q_Law_151 sx_LP_story (fitK rfl) (isK_at (Z := (p77.1.2.1, p77.1.2.2)) (ci := 12) hk80) rfl (by simp only [List.map_cons, List.map_nil, cato h_p77]; exact leK rfl) (Nat.le_trans (bdk hb) hkt) (Nat.le_trans (bdn hb) hnt) (tg_LP_story ha3 e_p79) (kxI' (fun h_p79 => ?_))
          refine rfE h ?_
          clear h
          intro r81 e_r81 h
          rw [e_r81]
          refine gdE h ?_
          clear h
          intro hk83 h
          refine bnE h ?_
          clear h
          intro p82 e_p82 h
          obtain ⟨yp82, h9, e9⟩ := adE2 h
          clear h
          subst e9
          have h := h9
          clear h9
          have hk1 := Nat.le_trans (bd1 hb) hkt
          have hn1 := Nat.le_trans (bd2 hb) hnt
          replace hb := bdA hb
          refine x_callX (pc := 235) (As := [V p79]) (rest := []) (mc' := p82.2.1) (ms' := p82.2.2) (dK D_Law_pages_2 35 rfl) Q_Law_172 sx_SB_append2 (fitK rfl) (isK_at (Z := (p77.1.2.1, p77.1.2.2)) (ci := 15) hk83) rfl (leK rfl) hk1 hn1 (tg_SB_append2 h_p79 e_p82) (kxR (fun h_p82 => ?_))
          refine rfE h ?_
          clear h
          intro r84 e_r84 h
          rw [e_r84]
          refine gdE h ?_
          clear h
          intro hk86 h
          refine bnE h ?_
          clear h
          intro p85 e_p85 h
          obtain ⟨yp85, h9, e9⟩ := adE2 h
          clear h
          subst e9
          have h := h9
          clear h9
          have hk1 := Nat.le_trans (bd1 hb) hkt
          have hn1 := Nat.le_trans (bd2 hb) hnt
          replace hb := bdA hb
          refine x_callX (pc := 238) (As := []) (rest := []) (mc' := p85.2.1) (ms' := p85.2.2) (dK D_Law_pages_2 36 rfl) Q_Law_175 sx_SB_toString (fitK rfl) (isK_at (Z := (p82.1.2.1, p82.1.2.2)) (ci := 15) hk86) rfl (leK rfl) hk1 hn1 (tg_SB_toString  e_p85) (kxR (fun h_p85 => ?_))
          refine x_astoreV (pc := 241) (ls2 := [(8, p85.1.1), (0, .ref 0), (1, .ref c1), (2, V v13), (3, V a3), (4, .ref r30), (5, .ref r37), (6, V p11)]) h_p85 (dK D_Law_pages_2 37 rfl) (ltK rfl) rfl ?_
          refine x_aload (pc := 243) (j := 5) (dK D_Law_pages_2 38 rfl) rfl ?_
          refine gdE h ?_
          clear h
          intro hk88 h
          refine bnE h ?_
          clear h
          intro p87 e_p87 h
          obtain ⟨yp87, h9, e9⟩ := adE2 h
          clear h
          subst e9
          have h := h9
          clear h9
          have hk1 := Nat.le_trans (bd1 hb) hkt
          have hn1 := Nat.le_trans (bd2 hb) hnt
          replace hb := bdA hb
          refine x_callX (pc := 245) (As := []) (rest := []) (mc' := p87.2.1) (ms' := p87.2.2) (dK D_Law_pages_2 39 rfl) Q_Law_179 sx_AL_iterator (fitK rfl) (isK_at (Z := (p85.1.2.1, p85.1.2.2)) (ci := 13) hk88) rfl (leK rfl) hk1 hn1 (tg_AL_iterator  e_p87) (kxR (fun h_p87 => ?_))
          refine x_astoreV (pc := 248) (ls2 := [(9, p87.1.1), (8, p85.1.1), (0, .ref 0), (1, .ref c1), (2, V v13), (3, V a3), (4, .ref r30), (5, .ref r37), (6, V p11)]) h_p87 (dK D_Law_pages_2 40 rfl) (ltK rfl) (by simp [stI, List.filter, cato h_p85]) ?_
          refine rfE h ?_
          clear h
          intro r89 e_r89 h
          rw [e_r89]
          refine bnE h ?_
          clear h
          intro p116 e_p116 h
          obtain ⟨yp116, h9, e9⟩ := adE2 h
          clear h
          subst e9
          have h := h9
          clear h9
          have hk1 := Nat.le_trans (bd1 hb) hkt
          have hn1 := Nat.le_trans (bd2 hb) hnt
          replace hb := bdA hb
          refine x_weak (ls' := [(0, .ref 0), (1, .ref c1), (2, V v13), (3, V a3), (5, .ref r37), (6, V p11), (8, p85.1.1), (9, .ref r89)]) (sbc 2 rfl (sbc 3 rfl (sbc 4 rfl (sbc 5 rfl (sbc 7 rfl (sbc 8 rfl (sbc 1 rfl (sbc 0 rfl sbn)))))))) ?_
          refine tl2_Law_pages_250 (Vn_in e_v13) ha3 h_p11 hk1 hn1 FU _ _ e_p116 _ _ ⟨Nat.le_refl _, Nat.le_refl _⟩ h_p85 (fun hx8_p116 => ?_)
          refine x_aload (pc := 305) (j := 4) (dK D_Law_pages_3 11 rfl) rfl ?_
          refine gdE h ?_
          clear h
          intro hk118 h
          refine bnE h ?_
          clear h
          intro p117 e_p117 h
          obtain ⟨yp117, h9, e9⟩ := adE2 h
          clear h
          subst e9
          have h := h9
          clear h9
          have hk1 := Nat.le_trans (bd1 hb) hkt
          have hn1 := Nat.le_trans (bd2 hb) hnt
          replace hb := bdA hb
          refine x_callX (pc := 307) (As := []) (rest := []) (mc' := p117.2.1) (ms' := p117.2.2) (dK D_Law_pages_3 12 rfl) Q_Law_179 sx_AL_iterator (fitK rfl) (isK_at (Z := (p116.1.2.1, p116.1.2.2)) (ci := 13) hk118) rfl (leK rfl) hk1 hn1 (tg_AL_iterator  e_p117) (kxR (fun h_p117 => ?_))
          refine x_astoreV (pc := 310) (ls2 := [(9, p117.1.1), (0, .ref 0), (1, .ref c1), (2, V v13), (3, V a3), (5, .ref r37), (6, V p11), (8, p116.1.1)]) h_p117 (dK D_Law_pages_3 13 rfl) (ltK rfl) (by simp [stI, List.filter, cato hx8_p116]) ?_
          refine rfE h ?_
          clear h
          intro r119 e_r119 h
          rw [e_r119]
          refine bnE h ?_
          clear h
          intro p146 e_p146 h
          obtain ⟨yp146, h9, e9⟩ := adE2 h
          clear h
          subst e9
          have h := h9
          clear h9
          have hk1 := Nat.le_trans (bd1 hb) hkt
          have hn1 := Nat.le_trans (bd2 hb) hnt
          replace hb := bdA hb
          refine x_weak (ls' := [(0, .ref 0), (1, .ref c1), (2, V v13), (3, V a3), (6, V p11), (8, p116.1.1), (9, .ref r119)]) (sbc 1 rfl (sbc 2 rfl (sbc 3 rfl (sbc 4 rfl (sbc 6 rfl (sbc 7 rfl (sbc 0 rfl sbn))))))) ?_
          refine tl2_Law_pages_312 (Vn_in e_v13) ha3 h_p11 hk1 hn1 FU _ _ e_p146 _ _ ⟨Nat.le_refl _, Nat.le_refl _⟩ hx8_p116 (fun hx8_p146 => ?_)
          refine gdE h ?_
          clear h
          intro hl147 h
          obtain ⟨y150, h9, e9⟩ := adE2 h
          clear h
          subst e9
          have h := h9
          clear h9
          refine nwE h ?_
          clear h
          intro r148 L149 e_r148 e_L149 h
          have hk1 := Nat.le_trans (bd1 hb) hkt
          have hn1 := Nat.le_trans (bd2 hb) hnt
          replace hb := bdA hb
          refine wn_new (Z := (p146.1.2.1, p146.1.2.2)) (pc := 367) (ci := 15) (N := 4) e_r148 e_L149 hl147 rfl (dK D_Law_pages_3 34 rfl) (ltK rfl) q_1275 q_1276 q_33 hk1 hn1 ?_
          refine x_dup (pc := 370) (dK D_Law_pages_3 35 rfl) rfl ?_
          refine bnE h ?_
          clear h
          intro p151 e_p151 h
          obtain ⟨yp151, h9, e9⟩ := adE2 h
          clear h
          subst e9
          have h := h9
          clear h9
          have hk1 := Nat.le_trans (bd1 hb) hkt
          have hn1 := Nat.le_trans (bd2 hb) hnt
          replace hb := bdA hb
          refine x_callI (pc := 371) (As := []) (rest := [.ref r148]) (mc' := p151.2.1) (ms' := p151.2.2) (dK D_Law_pages_3 36 rfl) Q_Law_165 (fitK rfl) rfl (leK rfl) hk1 hn1 (tg_SB_init  e_p151) (kxU ?_)
          refine x_aloadV (pc := 374) (j := 5) hx8_p146 (dK D_Law_pages_3 37 rfl) rfl ?_
          refine rfE h ?_
          clear h
          intro r152 e_r152 h
          rw [e_r152]
          refine gdE h ?_
          clear h
          intro hk154 h
          refine bnE h ?_
          clear h
          intro p153 e_p153 h
          obtain ⟨yp153, h9, e9⟩ := adE2 h
          clear h
          subst e9
          have h := h9
          clear h9
          have hk1 := Nat.le_trans (bd1 hb) hkt
          have hn1 := Nat.le_trans (bd2 hb) hnt
          replace hb := bdA hb
          refine x_callX (pc := 376) (As := [.ref r152]) (rest := []) (mc' := p153.2.1) (ms' := p153.2.2) (dK D_Law_pages_3 38 rfl) Q_Law_168 sx_SB_append (fitK rfl) (isK_at (Z := (p151.1.1, p151.1.2)) (ci := 15) hk154) rfl (leK rfl) hk1 hn1 (tg_SB_append  e_p153) (kxR (fun h_p153 => ?_))
          refine x_iload (pc := 379) (j := 4) (dK D_Law_pages_3 39 rfl) rfl ?_
          refine wx_if_le (pc := 381) (t := 407) (dK D_Law_pages_3 40 rfl) rfl h_p11 (fun hc222 => ?_) (fun hc222 => ?_)
          · replace h := ifP h hc222
            refine x_ldcS (own := "FlatPlanLaw") (text := "") (j := 8) rfl (dK D_Law_pages_4 0 rfl) (List.mem_of_getElem? (i := 8) rfl) ?_
            refine x_weak (ls' := [(0, .ref 0), (1, .ref c1), (2, V v13), (3, V a3), (6, V p11)]) (sbc 0 rfl (sbc 1 rfl (sbc 2 rfl (sbc 3 rfl (sbc 4 rfl sbn))))) ?_
            exact tj2_Law_pages_409_4 hkt hnt ih (Vn_in e_v13) ha3 h_p11 (.inr ⟨_, rfl⟩) h_p153 h hb hx hr
          · replace h := ifN h hc222
            refine gdE h ?_
            clear h
            intro hl209 h
            obtain ⟨y212, h9, e9⟩ := adE2 h
            clear h
            subst e9
            have h := h9
            clear h9
            refine nwE h ?_
            clear h
            intro r210 L211 e_r210 e_L211 h
            have hk1 := Nat.le_trans (bd1 hb) hkt
            have hn1 := Nat.le_trans (bd2 hb) hnt
            replace hb := bdA hb
            refine wn_new (Z := (p153.1.2.1, p153.1.2.2)) (pc := 384) (ci := 15) (N := 4) e_r210 e_L211 hl209 rfl (dK D_Law_pages_3 41 rfl) (ltK rfl) q_1275 q_1276 q_33 hk1 hn1 ?_
            refine x_dup (pc := 387) (dK D_Law_pages_3 42 rfl) rfl ?_
            refine bnE h ?_
            clear h
            intro p213 e_p213 h
            obtain ⟨yp213, h9, e9⟩ := adE2 h
            clear h
            subst e9
            have h := h9
            clear h9
            have hk1 := Nat.le_trans (bd1 hb) hkt
            have hn1 := Nat.le_trans (bd2 hb) hnt
            replace hb := bdA hb
            refine x_callI (pc := 388) (As := []) (rest := [.ref r210, p153.1.1]) (mc' := p213.2.1) (ms' := p213.2.2) (dK D_Law_pages_3 43 rfl) Q_Law_165 (fitK rfl) rfl (by simp only [List.map_cons, List.map_nil, cato h_p153]; exact leK rfl) hk1 hn1 (tg_SB_init  e_p213) (kxU ?_)
            refine x_ldcS (own := "FlatPlanLaw") (text := " +") (j := 12) rfl (dK D_Law_pages_3 44 rfl) (List.mem_of_getElem? (i := 12) rfl) ?_
            refine gdE h ?_
            clear h
            intro hk215 h
            refine bnE h ?_
            clear h
            intro p214 e_p214 h
            obtain ⟨yp214, h9, e9⟩ := adE2 h
            clear h
            subst e9
            have h := h9
            clear h9
            have hk1 := Nat.le_trans (bd1 hb) hkt
            have hn1 := Nat.le_trans (bd2 hb) hnt
            replace hb := bdA hb
            refine x_callX (pc := 393) (As := [.ref (XB + 12)]) (rest := [p153.1.1]) (mc' := p214.2.1) (ms' := p214.2.2) (dK D_Law_pages_3 45 rfl) Q_Law_168 sx_SB_append (fitK rfl) (isK_at (Z := (p213.1.1, p213.1.2)) (ci := 15) hk215) rfl (by simp only [List.map_cons, List.map_nil, cato h_p153]; exact leK rfl) hk1 hn1 (tg_SB_append  e_p214) (kxR (fun h_p214 => ?_))
            refine x_iload (pc := 396) (j := 4) (dK D_Law_pages_3 46 rfl) rfl ?_
            refine rfE h ?_
            clear h
            intro r216 e_r216 h
            rw [e_r216]
            refine gdE h ?_
            clear h
            intro hk218 h
            refine bnE h ?_
            clear h
            intro p217 e_p217 h
            obtain ⟨yp217, h9, e9⟩ := adE2 h
            clear h
            subst e9
            have h := h9
            clear h9
            have hk1 := Nat.le_trans (bd1 hb) hkt
            have hn1 := Nat.le_trans (bd2 hb) hnt
            replace hb := bdA hb
            refine x_callX (pc := 398) (As := [V p11]) (rest := [p153.1.1]) (mc' := p217.2.1) (ms' := p217.2.2) (dK D_Law_pages_3 47 rfl) Q_Law_172 sx_SB_append2 (fitK rfl) (isK_at (Z := (p214.1.2.1, p214.1.2.2)) (ci := 15) hk218) rfl (by simp only [List.map_cons, List.map_nil, cato h_p153]; exact leK rfl) hk1 hn1 (tg_SB_append2 h_p11 e_p217) (kxR (fun h_p217 => ?_))
            refine rfE h ?_
            clear h
            intro r219 e_r219 h
            rw [e_r219]
            refine gdE h ?_
            clear h
            intro hk221 h
            refine bnE h ?_
            clear h
            intro p220 e_p220 h
            obtain ⟨yp220, h9, e9⟩ := adE2 h
            clear h
            subst e9
            have h := h9
            clear h9
            have hk1 := Nat.le_trans (bd1 hb) hkt
            have hn1 := Nat.le_trans (bd2 hb) hnt
            replace hb := bdA hb
            refine x_callX (pc := 401) (As := []) (rest := [p153.1.1]) (mc' := p220.2.1) (ms' := p220.2.2) (dK D_Law_pages_3 48 rfl) Q_Law_175 sx_SB_toString (fitK rfl) (isK_at (Z := (p217.1.2.1, p217.1.2.2)) (ci := 15) hk221) rfl (by simp only [List.map_cons, List.map_nil, cato h_p153]; exact leK rfl) hk1 hn1 (tg_SB_toString  e_p220) (kxR (fun h_p220 => ?_))
            refine x_goto (pc := 404) (tgt := 409) (dK D_Law_pages_3 49 rfl) rfl ?_
            refine x_weak (ls' := [(0, .ref 0), (1, .ref c1), (2, V v13), (3, V a3), (6, V p11)]) (sbc 0 rfl (sbc 1 rfl (sbc 2 rfl (sbc 3 rfl (sbc 4 rfl sbn))))) ?_
            exact tj2_Law_pages_409_4 hkt hnt ih (Vn_in e_v13) ha3 h_p11 h_p220 h_p153 h hb hx hr
        · replace h := ifN h hc253
          refine x_ldcS (own := "FlatPlanLaw") (text := "") (j := 8) rfl (dK D_Law_pages_2 25 rfl) (List.mem_of_getElem? (i := 8) rfl) ?_
          refine x_goto (pc := 215) (tgt := 241) (dK D_Law_pages_2 26 rfl) rfl ?_
          refine x_astore (pc := 241) (ls2 := [(8, .ref (XB + 8)), (0, .ref 0), (1, .ref c1), (2, V v13), (3, V a3), (4, .ref r30), (5, .ref r37), (6, V p11)]) (dK D_Law_pages_2 37 rfl) (ltK rfl) rfl ?_
          refine x_aload (pc := 243) (j := 5) (dK D_Law_pages_2 38 rfl) rfl ?_
          refine gdE h ?_
          clear h
          intro hk224 h
          refine bnE h ?_
          clear h
          intro p223 e_p223 h
          obtain ⟨yp223, h9, e9⟩ := adE2 h
          clear h
          subst e9
          have h := h9
          clear h9
          have hk1 := Nat.le_trans (bd1 hb) hkt
          have hn1 := Nat.le_trans (bd2 hb) hnt
          replace hb := bdA hb
          refine x_callX (pc := 245) (As := []) (rest := []) (mc' := p223.2.1) (ms' := p223.2.2) (dK D_Law_pages_2 39 rfl) Q_Law_179 sx_AL_iterator (fitK rfl) (isK_at (Z := (e69.1, e69.2)) (ci := 13) hk224) rfl (leK rfl) hk1 hn1 (tg_AL_iterator  e_p223) (kxR (fun h_p223 => ?_))
          refine x_astoreV (pc := 248) (ls2 := [(9, p223.1.1), (8, .ref (XB + 8)), (0, .ref 0), (1, .ref c1), (2, V v13), (3, V a3), (4, .ref r30), (5, .ref r37), (6, V p11)]) h_p223 (dK D_Law_pages_2 40 rfl) (ltK rfl) rfl ?_
          refine rfE h ?_
          clear h
          intro r225 e_r225 h
          rw [e_r225]
          refine bnE h ?_
          clear h
          intro p226 e_p226 h
          obtain ⟨yp226, h9, e9⟩ := adE2 h
          clear h
          subst e9
          have h := h9
          clear h9
          have hk1 := Nat.le_trans (bd1 hb) hkt
          have hn1 := Nat.le_trans (bd2 hb) hnt
          replace hb := bdA hb
          refine x_weak (ls' := [(0, .ref 0), (1, .ref c1), (2, V v13), (3, V a3), (5, .ref r37), (6, V p11), (8, .ref (XB + 8)), (9, .ref r225)]) (sbc 2 rfl (sbc 3 rfl (sbc 4 rfl (sbc 5 rfl (sbc 7 rfl (sbc 8 rfl (sbc 1 rfl (sbc 0 rfl sbn)))))))) ?_
          refine tl2_Law_pages_250 (Vn_in e_v13) ha3 h_p11 hk1 hn1 FU _ _ e_p226 _ _ ⟨Nat.le_refl _, Nat.le_refl _⟩ (.inr ⟨_, rfl⟩) (fun hx8_p226 => ?_)
          refine x_aload (pc := 305) (j := 4) (dK D_Law_pages_3 11 rfl) rfl ?_
          refine gdE h ?_
          clear h
          intro hk228 h
          refine bnE h ?_
          clear h
          intro p227 e_p227 h
          obtain ⟨yp227, h9, e9⟩ := adE2 h
          clear h
          subst e9
          have h := h9
          clear h9
          have hk1 := Nat.le_trans (bd1 hb) hkt
          have hn1 := Nat.le_trans (bd2 hb) hnt
          replace hb := bdA hb
          refine x_callX (pc := 307) (As := []) (rest := []) (mc' := p227.2.1) (ms' := p227.2.2) (dK D_Law_pages_3 12 rfl) Q_Law_179 sx_AL_iterator (fitK rfl) (isK_at (Z := (p226.1.2.1, p226.1.2.2)) (ci := 13) hk228) rfl (leK rfl) hk1 hn1 (tg_AL_iterator  e_p227) (kxR (fun h_p227 => ?_))
          refine x_astoreV (pc := 310) (ls2 := [(9, p227.1.1), (0, .ref 0), (1, .ref c1), (2, V v13), (3, V a3), (5, .ref r37), (6, V p11), (8, p226.1.1)]) h_p227 (dK D_Law_pages_3 13 rfl) (ltK rfl) (by simp [stI, List.filter, cato hx8_p226]) ?_
          refine rfE h ?_
          clear h
          intro r229 e_r229 h
          rw [e_r229]
          refine bnE h ?_
          clear h
          intro p230 e_p230 h
          obtain ⟨yp230, h9, e9⟩ := adE2 h
          clear h
          subst e9
          have h := h9
          clear h9
          have hk1 := Nat.le_trans (bd1 hb) hkt
          have hn1 := Nat.le_trans (bd2 hb) hnt
          replace hb := bdA hb
          refine x_weak (ls' := [(0, .ref 0), (1, .ref c1), (2, V v13), (3, V a3), (6, V p11), (8, p226.1.1), (9, .ref r229)]) (sbc 1 rfl (sbc 2 rfl (sbc 3 rfl (sbc 4 rfl (sbc 6 rfl (sbc 7 rfl (sbc 0 rfl sbn))))))) ?_
          refine tl2_Law_pages_312 (Vn_in e_v13) ha3 h_p11 hk1 hn1 FU _ _ e_p230 _ _ ⟨Nat.le_refl _, Nat.le_refl _⟩ hx8_p226 (fun hx8_p230 => ?_)
          refine gdE h ?_
          clear h
          intro hl231 h
          obtain ⟨y234, h9, e9⟩ := adE2 h
          clear h
          subst e9
          have h := h9
          clear h9
          refine nwE h ?_
          clear h
          intro r232 L233 e_r232 e_L233 h
          have hk1 := Nat.le_trans (bd1 hb) hkt
          have hn1 := Nat.le_trans (bd2 hb) hnt
          replace hb := bdA hb
          refine wn_new (Z := (p230.1.2.1, p230.1.2.2)) (pc := 367) (ci := 15) (N := 4) e_r232 e_L233 hl231 rfl (dK D_Law_pages_3 34 rfl) (ltK rfl) q_1275 q_1276 q_33 hk1 hn1 ?_
          refine x_dup (pc := 370) (dK D_Law_pages_3 35 rfl) rfl ?_
          refine bnE h ?_
          clear h
          intro p235 e_p235 h
          obtain ⟨yp235, h9, e9⟩ := adE2 h
          clear h
          subst e9
          have h := h9
          clear h9
          have hk1 := Nat.le_trans (bd1 hb) hkt
          have hn1 := Nat.le_trans (bd2 hb) hnt
          replace hb := bdA hb
          refine x_callI (pc := 371) (As := []) (rest := [.ref r232]) (mc' := p235.2.1) (ms' := p235.2.2) (dK D_Law_pages_3 36 rfl) Q_Law_165 (fitK rfl) rfl (leK rfl) hk1 hn1 (tg_SB_init  e_p235) (kxU ?_)
          refine x_aloadV (pc := 374) (j := 5) hx8_p230 (dK D_Law_pages_3 37 rfl) rfl ?_
          refine rfE h ?_
          clear h
          intro r236 e_r236 h
          rw [e_r236]
          refine gdE h ?_
          clear h
          intro hk238 h
          refine bnE h ?_
          clear h
          intro p237 e_p237 h
          obtain ⟨yp237, h9, e9⟩ := adE2 h
          clear h
          subst e9
          have h := h9
          clear h9
          have hk1 := Nat.le_trans (bd1 hb) hkt
          have hn1 := Nat.le_trans (bd2 hb) hnt
          replace hb := bdA hb
          refine x_callX (pc := 376) (As := [.ref r236]) (rest := []) (mc' := p237.2.1) (ms' := p237.2.2) (dK D_Law_pages_3 38 rfl) Q_Law_168 sx_SB_append (fitK rfl) (isK_at (Z := (p235.1.1, p235.1.2)) (ci := 15) hk238) rfl (leK rfl) hk1 hn1 (tg_SB_append  e_p237) (kxR (fun h_p237 => ?_))
          refine x_iload (pc := 379) (j := 4) (dK D_Law_pages_3 39 rfl) rfl ?_
          refine wx_if_le (pc := 381) (t := 407) (dK D_Law_pages_3 40 rfl) rfl h_p11 (fun hc252 => ?_) (fun hc252 => ?_)
          · replace h := ifP h hc252
            refine x_ldcS (own := "FlatPlanLaw") (text := "") (j := 8) rfl (dK D_Law_pages_4 0 rfl) (List.mem_of_getElem? (i := 8) rfl) ?_
            refine x_weak (ls' := [(0, .ref 0), (1, .ref c1), (2, V v13), (3, V a3), (6, V p11)]) (sbc 0 rfl (sbc 1 rfl (sbc 2 rfl (sbc 3 rfl (sbc 4 rfl sbn))))) ?_
            exact tj2_Law_pages_409_4 hkt hnt ih (Vn_in e_v13) ha3 h_p11 (.inr ⟨_, rfl⟩) h_p237 h hb hx hr
          · replace h := ifN h hc252
            refine gdE h ?_
            clear h
            intro hl239 h
            obtain ⟨y242, h9, e9⟩ := adE2 h
            clear h
            subst e9
            have h := h9
            clear h9
            refine nwE h ?_
            clear h
            intro r240 L241 e_r240 e_L241 h
            have hk1 := Nat.le_trans (bd1 hb) hkt
            have hn1 := Nat.le_trans (bd2 hb) hnt
            replace hb := bdA hb
            refine wn_new (Z := (p237.1.2.1, p237.1.2.2)) (pc := 384) (ci := 15) (N := 4) e_r240 e_L241 hl239 rfl (dK D_Law_pages_3 41 rfl) (ltK rfl) q_1275 q_1276 q_33 hk1 hn1 ?_
            refine x_dup (pc := 387) (dK D_Law_pages_3 42 rfl) rfl ?_
            refine bnE h ?_
            clear h
            intro p243 e_p243 h
            obtain ⟨yp243, h9, e9⟩ := adE2 h
            clear h
            subst e9
            have h := h9
            clear h9
            have hk1 := Nat.le_trans (bd1 hb) hkt
            have hn1 := Nat.le_trans (bd2 hb) hnt
            replace hb := bdA hb
            refine x_callI (pc := 388) (As := []) (rest := [.ref r240, p237.1.1]) (mc' := p243.2.1) (ms' := p243.2.2) (dK D_Law_pages_3 43 rfl) Q_Law_165 (fitK rfl) rfl (by simp only [List.map_cons, List.map_nil, cato h_p237]; exact leK rfl) hk1 hn1 (tg_SB_init  e_p243) (kxU ?_)
            refine x_ldcS (own := "FlatPlanLaw") (text := " +") (j := 12) rfl (dK D_Law_pages_3 44 rfl) (List.mem_of_getElem? (i := 12) rfl) ?_
            refine gdE h ?_
            clear h
            intro hk245 h
            refine bnE h ?_
            clear h
            intro p244 e_p244 h
            obtain ⟨yp244, h9, e9⟩ := adE2 h
            clear h
            subst e9
            have h := h9
            clear h9
            have hk1 := Nat.le_trans (bd1 hb) hkt
            have hn1 := Nat.le_trans (bd2 hb) hnt
            replace hb := bdA hb
            refine x_callX (pc := 393) (As := [.ref (XB + 12)]) (rest := [p237.1.1]) (mc' := p244.2.1) (ms' := p244.2.2) (dK D_Law_pages_3 45 rfl) Q_Law_168 sx_SB_append (fitK rfl) (isK_at (Z := (p243.1.1, p243.1.2)) (ci := 15) hk245) rfl (by simp only [List.map_cons, List.map_nil, cato h_p237]; exact leK rfl) hk1 hn1 (tg_SB_append  e_p244) (kxR (fun h_p244 => ?_))
            refine x_iload (pc := 396) (j := 4) (dK D_Law_pages_3 46 rfl) rfl ?_
            refine rfE h ?_
            clear h
            intro r246 e_r246 h
            rw [e_r246]
            refine gdE h ?_
            clear h
            intro hk248 h
            refine bnE h ?_
            clear h
            intro p247 e_p247 h
            obtain ⟨yp247, h9, e9⟩ := adE2 h
            clear h
            subst e9
            have h := h9
            clear h9
            have hk1 := Nat.le_trans (bd1 hb) hkt
            have hn1 := Nat.le_trans (bd2 hb) hnt
            replace hb := bdA hb
            refine x_callX (pc := 398) (As := [V p11]) (rest := [p237.1.1]) (mc' := p247.2.1) (ms' := p247.2.2) (dK D_Law_pages_3 47 rfl) Q_Law_172 sx_SB_append2 (fitK rfl) (isK_at (Z := (p244.1.2.1, p244.1.2.2)) (ci := 15) hk248) rfl (by simp only [List.map_cons, List.map_nil, cato h_p237]; exact leK rfl) hk1 hn1 (tg_SB_append2 h_p11 e_p247) (kxR (fun h_p247 => ?_))
            refine rfE h ?_
            clear h
            intro r249 e_r249 h
            rw [e_r249]
            refine gdE h ?_
            clear h
            intro hk251 h
            refine bnE h ?_
            clear h
            intro p250 e_p250 h
            obtain ⟨yp250, h9, e9⟩ := adE2 h
            clear h
            subst e9
            have h := h9
            clear h9
            have hk1 := Nat.le_trans (bd1 hb) hkt
            have hn1 := Nat.le_trans (bd2 hb) hnt
            replace hb := bdA hb
            refine x_callX (pc := 401) (As := []) (rest := [p237.1.1]) (mc' := p250.2.1) (ms' := p250.2.2) (dK D_Law_pages_3 48 rfl) Q_Law_175 sx_SB_toString (fitK rfl) (isK_at (Z := (p247.1.2.1, p247.1.2.2)) (ci := 15) hk251) rfl (by simp only [List.map_cons, List.map_nil, cato h_p237]; exact leK rfl) hk1 hn1 (tg_SB_toString  e_p250) (kxR (fun h_p250 => ?_))
            refine x_goto (pc := 404) (tgt := 409) (dK D_Law_pages_3 49 rfl) rfl ?_
            refine x_weak (ls' := [(0, .ref 0), (1, .ref c1), (2, V v13), (3, V a3), (6, V p11)]) (sbc 0 rfl (sbc 1 rfl (sbc 2 rfl (sbc 3 rfl (sbc 4 rfl sbn))))) ?_
            exact tj2_Law_pages_409_4 hkt hnt ih (Vn_in e_v13) ha3 h_p11 h_p250 h_p237 h hb hx hr
def gn_Law_pages (c1 : Nat) (S : St) (L : List PC) : Option ((Bool × LZ) × Nat × Nat) := bnT (lo2_Law_pages_4 c1 FU (0, 1, (S, L))) (fun r256 => some ((r256.1, (r256.2.1, r256.2.2)), 0, 0)) fun e257 => if isK e257.2.2 c1 12 = true then (bnO (gn_LP_pages c1 e257.2.1 e257.2.2) fun p258 => bnO (fn_FP_emptiest 0 p258 e257.2.1) fun p260 => if p260 = (-1) then (bnO (fn_FP_fill 0 e257.2.1) fun p261 => if isK e257.2.2 c1 12 = true then (bnO (gn_LP_pages c1 e257.2.1 e257.2.2) fun p262 => nm (wr (4 * p262)) fun v264 => if ((FP.ddiv (i_d e257.1) (i_d v264)) &&& 0x7fffffffffffffff) ≤ 0x7ff0000000000000 then (if (i_dc p261 (FP.ddiv (i_d e257.1) (i_d v264))) = 0 then (bnO (gn_Law_runs c1 e257.2.1 e257.2.2) fun p266 => adC p266.2.1 p266.2.2 (if p266.1.1 = true then (some ((true, (p266.1.2.1, p266.1.2.2)), 0, 0)) else (some ((false, (p266.1.2.1, p266.1.2.2)), 0, 0)))) else (some ((false, (e257.2.1, e257.2.2)), 0, 0))) else none) else none) else (some ((false, (e257.2.1, e257.2.2)), 0, 0))) else none
theorem te_Law_pages {sc : SC} {c1 : Nat} {S : St} {L : List PC} {q : (Bool × LZ) × Nat × Nat} (h : gn_Law_pages c1 S L = some q) {mc ms k n : Nat} (hb : Bd k n mc ms q) : GX sc M_Law_pages mc ms 0 [(0, .ref 0), (1, .ref c1)] [] (wz (S, L)) k n (KXB q.1.1 q.1.2) := by
  unfold gn_Law_pages at h
  refine wx_iconst (pc := 0) (dK D_Law_pages_0 0 rfl) ?_
  refine x_istoren (pc := 1) (i0 := 2) (ls2 := [(2, V 0), (0, .ref 0), (1, .ref c1)]) (dK D_Law_pages_0 1 rfl) rfl (ltK rfl) rfl ?_
  refine wx_iconst (pc := 2) (dK D_Law_pages_0 2 rfl) ?_
  refine x_istoren (pc := 3) (i0 := 3) (ls2 := [(3, V 1), (2, V 0), (0, .ref 0), (1, .ref c1)]) (dK D_Law_pages_0 3 rfl) rfl (ltK rfl) rfl ?_
  refine bnTE h ?_ ?_
  · clear h
    intro p255 r256 yp255 e_p255 f_p255 h e9
    subst e9
    have hk1 := bd1 hb
    have hn1 := bd2 hb
    replace hb := bdA hb
    refine x_weak (ls' := [(0, .ref 0), (1, .ref c1), (2, V 0), (3, V 1)]) (sbc 2 rfl (sbc 3 rfl (sbc 1 rfl (sbc 0 rfl sbn)))) ?_
    refine tl2_Law_pages_4  hk1 hn1 FU _ _ e_p255 _ _ ⟨Nat.le_refl _, Nat.le_refl _⟩ (inRk rfl) (inRk rfl) (fun _ g_ => by rw [f_p255] at g_; exact nomatch g_) (fun r_ g_  => ?_)
    obtain rfl := Sum.inl.inj (f_p255.symm.trans g_)
    obtain rfl := Option.some.inj h
    exact ⟨rfl, rfl⟩
  · clear h
    intro p255 e257 yp255 e_p255 f_p255 h e9
    subst e9
    have hk1 := bd1 hb
    have hn1 := bd2 hb
    replace hb := bdA hb
    refine x_weak (ls' := [(0, .ref 0), (1, .ref c1), (2, V 0), (3, V 1)]) (sbc 2 rfl (sbc 3 rfl (sbc 1 rfl (sbc 0 rfl sbn)))) ?_
    refine tl2_Law_pages_4  hk1 hn1 FU _ _ e_p255 _ _ ⟨Nat.le_refl _, Nat.le_refl _⟩ (inRk rfl) (inRk rfl) (fun e_ g_ hx2_p255 => ?_) (fun _ g_ => by rw [f_p255] at g_; exact nomatch g_)
    obtain rfl := Sum.inr.inj (f_p255.symm.trans g_)
    refine x_aloadn (pc := 574) (i0 := 0) (j := 0) (dK D_Law_pages_5 34 rfl) rfl rfl ?_
    refine x_aloadn (pc := 575) (i0 := 1) (j := 1) (dK D_Law_pages_5 35 rfl) rfl rfl ?_
    refine gdE h ?_
    clear h
    intro hk259 h
    refine bnE h ?_
    clear h
    intro p258 e_p258 h
    refine x_callX (pc := 576) (As := []) (rest := [.ref 0]) (mc' := 0) (ms' := 0) (dK D_Law_pages_5 36 rfl) Q_Law_42 sx_LP_pages (fitK rfl) (isK_at (Z := (e257.2.1, e257.2.2)) (ci := 12) hk259) rfl (leK rfl) (bdk hb) (bdn hb) (tg_LP_pages  e_p258) (kxI' (fun h_p258 => ?_))
    refine bnE h ?_
    clear h
    intro p260 e_p260 h
    refine x_callX (pc := 579) (As := [V p258]) (rest := []) (mc' := 0) (ms' := 0) (dK D_Law_pages_5 37 rfl) Q_Law_205 sx_FP_emptiest (fitK rfl) (isK_at (Z := (e257.2.1, e257.2.2)) (ci := 10) isK0) rfl (leK rfl) (bdk hb) (bdn hb) (clI (fun E => tf_FP_emptiest (X := xz e257.2.2) xz_hc h_p258 e_p260)) (kxI' (fun h_p260 => ?_))
    refine wx_iconst (pc := 582) (dK D_Law_pages_5 38 rfl) ?_
    refine wx_icmp_ne (pc := 583) (t := 616) (dK D_Law_pages_5 39 rfl) rfl h_p260 (inRk rfl) (fun hc269 => ?_) (fun hc269 => ?_)
    · replace h := ifN h hc269
      refine wx_iconst (pc := 616) (dK D_Law_pages_6 8 rfl) ?_
      obtain rfl := Option.some.inj h
      exact wk_iretB (pc := 617) (b := false) (dK D_Law_pages_6 9 rfl) rfl (bdk hb) (bdn hb) ⟨rfl, rfl⟩
    · replace h := ifP h hc269
      refine x_aloadn (pc := 586) (i0 := 0) (j := 0) (dK D_Law_pages_5 40 rfl) rfl rfl ?_
      refine bnE h ?_
      clear h
      intro p261 e_p261 h
      refine x_callX (pc := 587) (As := []) (rest := []) (mc' := 0) (ms' := 0) (dK D_Law_pages_5 41 rfl) Q_Law_208 sx_FP_fill (fitK rfl) (isK_at (Z := (e257.2.1, e257.2.2)) (ci := 10) isK0) rfl (leK rfl) (bdk hb) (bdn hb) (clD (fun E => tf_FP_fill (X := xz e257.2.2) xz_hc  e_p261)) (kxD' ?_)
      refine x_iloadn (pc := 590) (i0 := 2) (j := 2) (dK D_Law_pages_5 42 rfl) rfl rfl ?_
      refine wx_i2d (pc := 591) (dK D_Law_pages_5 43 rfl) ?_
      refine wx_iconst (pc := 592) (dK D_Law_pages_5 44 rfl) ?_
      refine x_aloadn (pc := 593) (i0 := 1) (j := 1) (dK D_Law_pages_5 45 rfl) rfl rfl ?_
      refine gdE h ?_
      clear h
      intro hk263 h
      refine bnE h ?_
      clear h
      intro p262 e_p262 h
      refine x_callX (pc := 594) (As := []) (rest := [V 4, .double (i_d e257.1), .double p261]) (mc' := 0) (ms' := 0) (dK D_Law_pages_5 46 rfl) Q_Law_42 sx_LP_pages (fitK rfl) (isK_at (Z := (e257.2.1, e257.2.2)) (ci := 12) hk263) rfl (leK rfl) (bdk hb) (bdn hb) (tg_LP_pages  e_p262) (kxI' (fun h_p262 => ?_))
      refine wx_imul (pc := 597) (dK D_Law_pages_5 47 rfl) ?_
      refine nmE h ?_
      clear h
      intro v264 e_v264 h
      refine wtop e_v264 ?_
      refine wx_i2d (pc := 598) (dK D_Law_pages_5 48 rfl) ?_
      refine gdE h ?_
      clear h
      intro hd265 h
      refine x_ddiv (pc := 599) (dK D_Law_pages_5 49 rfl) hd265 ?_
      refine wx_dcmpl (pc := 600) (dK D_Law_pages_6 0 rfl) ?_
      refine wx_if_ne (pc := 601) (t := 616) (dK D_Law_pages_6 1 rfl) rfl (toInt_in _) (fun hc268 => ?_) (fun hc268 => ?_)
      · replace h := ifN h hc268
        refine wx_iconst (pc := 616) (dK D_Law_pages_6 8 rfl) ?_
        obtain rfl := Option.some.inj h
        exact wk_iretB (pc := 617) (b := false) (dK D_Law_pages_6 9 rfl) rfl (bdk hb) (bdn hb) ⟨rfl, rfl⟩
      · replace h := ifP h hc268
        refine x_aloadn (pc := 604) (i0 := 0) (j := 0) (dK D_Law_pages_6 2 rfl) rfl rfl ?_
        refine x_aloadn (pc := 605) (i0 := 1) (j := 1) (dK D_Law_pages_6 3 rfl) rfl rfl ?_
        refine bnE h ?_
        clear h
        intro p266 e_p266 h
        obtain ⟨yp266, h9, e9⟩ := adE2 h
        clear h
        subst e9
        have h := h9
        clear h9
        have hk1 := bd1 hb
        have hn1 := bd2 hb
        replace hb := bdA hb
        refine x_callS (pc := 606) (As := [.ref 0, .ref c1]) (rest := []) (mc' := p266.2.1) (ms' := p266.2.2) (dK D_Law_pages_6 4 rfl) Q_Law_211 (fitK rfl) rfl (leK rfl) hk1 hn1 (tg_Law_runs  e_p266) (kxB' ?_)
        refine wx_ifB_eq (pc := 609) (b := p266.1.1) (t := 616) (dK D_Law_pages_6 5 rfl) rfl (fun hc267 => ?_) (fun hc267 => ?_)
        · replace h := ifP h hc267
          refine wx_iconst (pc := 612) (dK D_Law_pages_6 6 rfl) ?_
          refine x_goto (pc := 613) (tgt := 617) (dK D_Law_pages_6 7 rfl) rfl ?_
          obtain rfl := Option.some.inj h
          exact wk_iretB (pc := 617) (b := true) (dK D_Law_pages_6 9 rfl) rfl (bdk hb) (bdn hb) ⟨rfl, rfl⟩
        · replace h := ifN h hc267
          refine wx_iconst (pc := 616) (dK D_Law_pages_6 8 rfl) ?_
          obtain rfl := Option.some.inj h
          exact wk_iretB (pc := 617) (b := false) (dK D_Law_pages_6 9 rfl) rfl (bdk hb) (bdn hb) ⟨rfl, rfl⟩
theorem tg_Law_pages {sc : SC} {c1 : Nat} {S : St} {L : List PC} {q : (Bool × LZ) × Nat × Nat} (h : gn_Law_pages c1 S L = some q) : EvX sc M_Law_pages [.ref 0, .ref c1] (wz (S, L)) q.2.1 q.2.2 (KXB q.1.1 q.1.2) := EvX.of pn2_Law rfl (leK rfl) (te_Law_pages  h ⟨Nat.le_of_eq (Nat.zero_add _), Nat.le_of_eq (Nat.zero_add _)⟩)
def lb2_LP_touches_5 (c0 : Nat) (c1 : Nat) (a2 : Int) (S : St) (L : List PC) (go : Int → Option ((Bool) ⊕ (Unit))) (a3 : Int) : Option ((Bool) ⊕ (Unit)) := bnO (gfI L c1 11 5) fun v2 => if v2 ≤ 0 then (some (.inr ())) else (bnO (gfI L c1 11 5) fun v3 => bnO (gfI L c1 11 0) fun v4 => nm (wr (v3 + v4)) fun v5 => if v5 ≤ a3 then (some (.inr ())) else (if isK L c0 12 = true then (bnO (gn_LP_form c0 a3 S L) fun p6 => if p6 = a2 then (some (.inl true)) else (nm (wr (a3 + 1)) fun v8 => go v8)) else none))
def lo2_LP_touches_5 (c0 : Nat) (c1 : Nat) (a2 : Int) (S : St) (L : List PC) : Nat → Int → Option ((Bool) ⊕ (Unit)) := lp fun go p => lb2_LP_touches_5 c0 c1 a2 S L go p
theorem tl2_LP_touches_5 {sc : SC} {c0 : Nat} {c1 : Nat} {a2 : Int} (ha2 : inR a2) {K : Option Value → List PC → Prop} {S : St} {L : List PC} {mc ms k n : Nat} (hk0 : k ≤ mc) (hn0 : n ≤ ms) : ∀ (N : Nat) (a : Int) (q : (Bool) ⊕ (Unit)), lo2_LP_touches_5 c0 c1 a2 S L N a = some q → inR a → (∀ e, q = .inr e → GX sc M_LP_touches mc ms 42 [] [] (wz (S, L)) k n K) → (∀ r, q = .inl r → K (some (V (bi r))) (wz (S, L))) → GX sc M_LP_touches mc ms 5 [(0, .ref c0), (1, .ref c1), (2, V a2), (3, V a)] [] (wz (S, L)) k n K := by
  refine lp_ind2 (P := fun (a : Int) (q : (Bool) ⊕ (Unit)) => inR a → (∀ e, q = .inr e → GX sc M_LP_touches mc ms 42 [] [] (wz (S, L)) k n K) → (∀ r, q = .inl r → K (some (V (bi r))) (wz (S, L))) → GX sc M_LP_touches mc ms 5 [(0, .ref c0), (1, .ref c1), (2, V a2), (3, V a)] [] (wz (S, L)) k n K) (fun go ih a q h => ?_)
  revert h; generalize a = a3; intro h
  intro ha3 hx hr
  show GX sc M_LP_touches mc ms 5 [(0, .ref c0), (1, .ref c1), (2, V a2), (3, V a3)] [] (wz (S, L)) k n K
  replace h : lb2_LP_touches_5 c0 c1 a2 S L go a3 = some q := h
  unfold lb2_LP_touches_5 at h
  refine x_aloadn (pc := 5) (i0 := 1) (j := 1) (dK D_LP_touches 3 rfl) rfl rfl ?_
  refine bnE h ?_
  clear h
  intro v2 e_v2 h
  refine wx_getI (pc := 6) (ci := 11) (f := 5) e_v2 (dK D_LP_touches 4 rfl) q_888 (ltK rfl) (ltK rfl) ?_
  refine wx_if_le (pc := 9) (t := 42) (dK D_LP_touches 5 rfl) rfl (vI_at e_v2).2 (fun hc11 => ?_) (fun hc11 => ?_)
  · replace h := ifP h hc11
    obtain rfl := Option.some.inj h
    refine x_weak (ls' := []) sbn ?_
    exact hx () rfl
  · replace h := ifN h hc11
    refine x_iloadn (pc := 12) (i0 := 3) (j := 3) (dK D_LP_touches 6 rfl) rfl rfl ?_
    refine x_aloadn (pc := 13) (i0 := 1) (j := 1) (dK D_LP_touches 7 rfl) rfl rfl ?_
    refine bnE h ?_
    clear h
    intro v3 e_v3 h
    refine wx_getI (pc := 14) (ci := 11) (f := 5) e_v3 (dK D_LP_touches 8 rfl) q_888 (ltK rfl) (ltK rfl) ?_
    refine x_aloadn (pc := 17) (i0 := 1) (j := 1) (dK D_LP_touches 9 rfl) rfl rfl ?_
    refine bnE h ?_
    clear h
    intro v4 e_v4 h
    refine wx_getI (pc := 18) (ci := 11) (f := 0) e_v4 (dK D_LP_touches 10 rfl) q_873 (ltK rfl) (ltK rfl) ?_
    refine wx_iadd (pc := 21) (dK D_LP_touches 11 rfl) ?_
    refine nmE h ?_
    clear h
    intro v5 e_v5 h
    refine wtop e_v5 ?_
    refine wx_icmp_ge (pc := 22) (t := 42) (dK D_LP_touches 12 rfl) rfl ha3 (Vn_in e_v5) (fun hc10 => ?_) (fun hc10 => ?_)
    · replace h := ifP h hc10
      obtain rfl := Option.some.inj h
      refine x_weak (ls' := []) sbn ?_
      exact hx () rfl
    · replace h := ifN h hc10
      refine x_aloadn (pc := 25) (i0 := 0) (j := 0) (dK D_LP_touches 13 rfl) rfl rfl ?_
      refine x_iloadn (pc := 26) (i0 := 3) (j := 3) (dK D_LP_touches 14 rfl) rfl rfl ?_
      refine gdE h ?_
      clear h
      intro hk7 h
      refine bnE h ?_
      clear h
      intro p6 e_p6 h
      refine x_callX (pc := 27) (As := [V a3]) (rest := []) (mc' := 0) (ms' := 0) (dK D_LP_touches 15 rfl) Q_LP_79 sx_LP_form (fitK rfl) (isK_at (Z := (S, L)) (ci := 12) hk7) rfl (leK rfl) hk0 hn0 (tg_LP_form ha3 e_p6) (kxI' (fun h_p6 => ?_))
      refine x_iloadn (pc := 30) (i0 := 2) (j := 2) (dK D_LP_touches 16 rfl) rfl rfl ?_
      refine wx_icmp_ne (pc := 31) (t := 36) (dK D_LP_touches 17 rfl) rfl h_p6 ha2 (fun hc9 => ?_) (fun hc9 => ?_)
      · replace h := ifN h hc9
        refine nmE h ?_
        clear h
        intro v8 e_v8 h
        refine wx_iinc (pc := 36) (j := 3) (a := a3) (z := 1) (ls2 := [(3, V v8), (0, .ref c0), (1, .ref c1), (2, V a2)]) (dK D_LP_touches 20 rfl) rfl e_v8 (ltK rfl) rfl ?_
        refine x_goto (pc := 39) (tgt := 5) (dK D_LP_touches 21 rfl) rfl ?_
        refine x_weak (ls' := [(0, .ref c0), (1, .ref c1), (2, V a2), (3, V v8)]) (sbc 1 rfl (sbc 2 rfl (sbc 3 rfl (sbc 0 rfl sbn)))) ?_
        replace h := ih _ _ h
        exact h (Vn_in e_v8) hx hr
      · replace h := ifP h hc9
        refine wx_iconst (pc := 34) (dK D_LP_touches 18 rfl) ?_
        obtain rfl := Option.some.inj h
        exact wk_iretB (pc := 35) (b := true) (dK D_LP_touches 19 rfl) rfl hk0 hn0 (hr true rfl)
def gn_LP_touches (c0 : Nat) (c1 : Nat) (a2 : Int) (S : St) (L : List PC) : Option (Bool) := bnO (gfI L c1 11 5) fun v1 => bnS (lo2_LP_touches_5 c0 c1 a2 S L FU v1) (fun r13 => some r13) fun e14 => some false
theorem te_LP_touches {sc : SC} {c0 : Nat} {c1 : Nat} {a2 : Int} (ha2 : inR a2) {S : St} {L : List PC} {q : Bool} (h : gn_LP_touches c0 c1 a2 S L = some q) {mc ms k n : Nat} (hk0 : k ≤ mc) (hn0 : n ≤ ms) : GX sc M_LP_touches mc ms 0 [(0, .ref c0), (1, .ref c1), (2, V a2)] [] (wz (S, L)) k n (KXB q (S, L)) := by
  unfold gn_LP_touches at h
  refine x_aloadn (pc := 0) (i0 := 1) (j := 1) (dK D_LP_touches 0 rfl) rfl rfl ?_
  refine bnE h ?_
  clear h
  intro v1 e_v1 h
  refine wx_getI (pc := 1) (ci := 11) (f := 5) e_v1 (dK D_LP_touches 1 rfl) q_888 (ltK rfl) (ltK rfl) ?_
  refine x_istoren (pc := 4) (i0 := 3) (ls2 := [(3, V v1), (0, .ref c0), (1, .ref c1), (2, V a2)]) (dK D_LP_touches 2 rfl) rfl (ltK rfl) rfl ?_
  refine bnSE h ?_ ?_
  · clear h
    intro r13 e_p12 h
    refine x_weak (ls' := [(0, .ref c0), (1, .ref c1), (2, V a2), (3, V v1)]) (sbc 1 rfl (sbc 2 rfl (sbc 3 rfl (sbc 0 rfl sbn)))) ?_
    refine tl2_LP_touches_5 ha2 hk0 hn0 FU _ _ e_p12 (vI_at e_v1).2 (fun _ g_ => nomatch g_) (fun r_ g_  => ?_)
    obtain rfl := Sum.inl.inj g_
    obtain rfl := Option.some.inj h
    exact ⟨rfl, rfl⟩
  · clear h
    intro e14 e_p12 h
    refine x_weak (ls' := [(0, .ref c0), (1, .ref c1), (2, V a2), (3, V v1)]) (sbc 1 rfl (sbc 2 rfl (sbc 3 rfl (sbc 0 rfl sbn)))) ?_
    refine tl2_LP_touches_5 ha2 hk0 hn0 FU _ _ e_p12 (vI_at e_v1).2 (fun e_ g_  => ?_) (fun _ g_ => nomatch g_)
    obtain rfl := Sum.inr.inj g_
    refine wx_iconst (pc := 42) (dK D_LP_touches 22 rfl) ?_
    obtain rfl := Option.some.inj h
    exact wk_iretB (pc := 43) (b := false) (dK D_LP_touches 23 rfl) rfl hk0 hn0 ⟨rfl, rfl⟩
theorem tg_LP_touches {sc : SC} {c0 : Nat} {c1 : Nat} {a2 : Int} (ha2 : inR a2) {S : St} {L : List PC} {q : Bool} (h : gn_LP_touches c0 c1 a2 S L = some q) : EvX sc M_LP_touches [.ref c0, .ref c1, V a2] (wz (S, L)) 0 0 (KXB q (S, L)) := EvX.of pn2_LP rfl (leK rfl) (te_LP_touches ha2 h (Nat.le_refl _) (Nat.le_refl _))
