def lb2_Law_same_314 (c1 : Nat) (a2 : Int) (c3 : Nat) (a4 : Int) (a5 : Int) (a6 : Int) (a7 : Int) (c9 : Nat) (go : Int × LZ → Option (((Bool × LZ) ⊕ (LZ)) × Nat × Nat)) (a10 : Int) (S : St) (L : List PC) : Option (((Bool × LZ) ⊕ (LZ)) × Nat × Nat) := if 9 ≤ a10 then (some (.inr (S, L), 0, 0)) else (bnO (fn_FP_ad 0 a7 a10 S) fun p81 => if p81.1 = 0 then (adC 1 6 (bnO (ald L 0 c9 a10) fun v82 => if p81.2 = v82 then (nm (wr (a10 + 1)) fun v83 => go (v83, (S, L))) else (some (.inl (false, (S, L)), 0, 0)))) else none)
def lo2_Law_same_314 (c1 : Nat) (a2 : Int) (c3 : Nat) (a4 : Int) (a5 : Int) (a6 : Int) (a7 : Int) (c9 : Nat) : Nat → Int × LZ → Option (((Bool × LZ) ⊕ (LZ)) × Nat × Nat) := lp fun go p => lb2_Law_same_314 c1 a2 c3 a4 a5 a6 a7 c9 go p.1 p.2.1 p.2.2
theorem tl2_Law_same_314 {sc : SC} {c1 : Nat} {a2 : Int} (ha2 : inR a2) {c3 : Nat} {a4 : Int} (ha4 : inR a4) {a5 : Int} (ha5 : inR a5) {a6 : Int} (ha6 : inR a6) {a7 : Int} (ha7 : inR a7) {c9 : Nat} {K : Option Value → List PC → Prop} {mc ms kt nt : Nat} (hkt : kt ≤ mc) (hnt : nt ≤ ms) : ∀ (N : Nat) (a : Int × LZ) (q : ((Bool × LZ) ⊕ (LZ)) × Nat × Nat), lo2_Law_same_314 c1 a2 c3 a4 a5 a6 a7 c9 N a = some q → ∀ k n, Bd k n kt nt q → inR a.1 → (∀ e, q.1 = .inr e → GX sc M_Law_same mc ms 345 [(0, .ref 0), (1, .ref c1), (2, V a2), (3, .ref c3), (4, V a4), (5, V a5), (6, V a6), (7, V a7)] [] (wz e) kt nt K) → (∀ r, q.1 = .inl r → K (some (V (bi r.1))) (wz r.2)) → GX sc M_Law_same mc ms 314 [(0, .ref 0), (1, .ref c1), (2, V a2), (3, .ref c3), (4, V a4), (5, V a5), (6, V a6), (7, V a7), (9, .ref c9), (10, V a.1)] [] (wz a.2) k n K := by
  refine lp_ind2 (P := fun (a : Int × LZ) (q : ((Bool × LZ) ⊕ (LZ)) × Nat × Nat) => ∀ k n, Bd k n kt nt q → inR a.1 → (∀ e, q.1 = .inr e → GX sc M_Law_same mc ms 345 [(0, .ref 0), (1, .ref c1), (2, V a2), (3, .ref c3), (4, V a4), (5, V a5), (6, V a6), (7, V a7)] [] (wz e) kt nt K) → (∀ r, q.1 = .inl r → K (some (V (bi r.1))) (wz r.2)) → GX sc M_Law_same mc ms 314 [(0, .ref 0), (1, .ref c1), (2, V a2), (3, .ref c3), (4, V a4), (5, V a5), (6, V a6), (7, V a7), (9, .ref c9), (10, V a.1)] [] (wz a.2) k n K) (fun go ih a q h => ?_)
  obtain ⟨a10, ⟨S, L⟩⟩ := a
  intro k n hb ha10 hx hr
  show GX sc M_Law_same mc ms 314 [(0, .ref 0), (1, .ref c1), (2, V a2), (3, .ref c3), (4, V a4), (5, V a5), (6, V a6), (7, V a7), (9, .ref c9), (10, V a10)] [] (wz (S, L)) k n K
  replace h : lb2_Law_same_314 c1 a2 c3 a4 a5 a6 a7 c9 go a10 S L = some q := h
  unfold lb2_Law_same_314 at h
  refine x_iload (pc := 314) (j := 9) (dK D_Law_same_3 35 rfl) rfl ?_
  refine wx_bipush (pc := 316) (dK D_Law_same_3 36 rfl) rfl ?_
  refine wx_icmp_ge (pc := 318) (t := 345) (dK D_Law_same_3 37 rfl) rfl ha10 (inRk rfl) (fun hc85 => ?_) (fun hc85 => ?_)
  · replace h := ifP h hc85
    obtain rfl := Option.some.inj h
    refine x_weak (ls' := [(0, .ref 0), (1, .ref c1), (2, V a2), (3, .ref c3), (4, V a4), (5, V a5), (6, V a6), (7, V a7)]) (sbc 0 rfl (sbc 1 rfl (sbc 2 rfl (sbc 3 rfl (sbc 4 rfl (sbc 5 rfl (sbc 6 rfl (sbc 7 rfl sbn)))))))) ?_
    refine x_room (bdk hb) (bdn hb) ?_
    exact hx (S, L) rfl
  · replace h := ifN h hc85
    refine x_aloadn (pc := 321) (i0 := 0) (j := 0) (dK D_Law_same_3 38 rfl) rfl rfl ?_
    refine x_iload (pc := 322) (j := 7) (dK D_Law_same_3 39 rfl) rfl ?_
    refine x_iload (pc := 324) (j := 9) (dK D_Law_same_3 40 rfl) rfl ?_
    refine bnE h ?_
    clear h
    intro p81 e_p81 h
    refine gdE h ?_
    clear h
    intro hz_p81 h
    obtain ⟨yp81, h9, e9⟩ := adE2 h
    clear h
    subst e9
    have h := h9
    clear h9
    have hk1 := Nat.le_trans (bd1 hb) hkt
    have hn1 := Nat.le_trans (bd2 hb) hnt
    replace hb := bdA hb
    refine x_callX (pc := 326) (As := [V a7, V a10]) (rest := []) (mc' := 1) (ms' := 6) (dK D_Law_same_3 41 rfl) Q_Law_98 sx_FP_ad (fitK rfl) (isK_at (Z := (S, L)) (ci := 10) isK0) rfl (leK rfl) hk1 hn1 (clTI hz_p81 (fun E => tf_FP_ad (X := xz L) rfl xz_hc ha7 ha10 e_p81)) (kxI' (fun h_p81 => ?_))
    refine x_aload (pc := 329) (j := 8) (dK D_Law_same_3 42 rfl) rfl ?_
    refine x_iload (pc := 331) (j := 9) (dK D_Law_same_3 43 rfl) rfl ?_
    refine bnE h ?_
    clear h
    intro v82 e_v82 h
    refine wx_iald (pc := 333) e_v82 ha10 (dK D_Law_same_3 44 rfl) ?_
    refine wx_icmp_eq (pc := 334) (t := 339) (dK D_Law_same_3 45 rfl) rfl h_p81 (vI_at e_v82).2 (fun hc84 => ?_) (fun hc84 => ?_)
    · replace h := ifP h hc84
      refine nmE h ?_
      clear h
      intro v83 e_v83 h
      refine wx_iinc (pc := 339) (j := 9) (a := a10) (z := 1) (ls2 := [(10, V v83), (0, .ref 0), (1, .ref c1), (2, V a2), (3, .ref c3), (4, V a4), (5, V a5), (6, V a6), (7, V a7), (9, .ref c9)]) (dK D_Law_same_3 48 rfl) rfl e_v83 (ltK rfl) rfl ?_
      refine x_goto (pc := 342) (tgt := 314) (dK D_Law_same_3 49 rfl) rfl ?_
      refine x_weak (ls' := [(0, .ref 0), (1, .ref c1), (2, V a2), (3, .ref c3), (4, V a4), (5, V a5), (6, V a6), (7, V a7), (9, .ref c9), (10, V v83)]) (sbc 1 rfl (sbc 2 rfl (sbc 3 rfl (sbc 4 rfl (sbc 5 rfl (sbc 6 rfl (sbc 7 rfl (sbc 8 rfl (sbc 9 rfl (sbc 0 rfl sbn)))))))))) ?_
      replace h := ih _ _ h
      exact h _ _ hb (Vn_in e_v83) hx hr
    · replace h := ifN h hc84
      refine wx_iconst (pc := 337) (dK D_Law_same_3 46 rfl) ?_
      obtain rfl := Option.some.inj h
      exact wk_iretB (pc := 338) (b := false) (dK D_Law_same_3 47 rfl) rfl (Nat.le_trans (bdk hb) hkt) (Nat.le_trans (bdn hb) hnt) (hr (false, (S, L)) rfl)
def jf2_Law_same_246_108 (c1 : Nat) (a2 : Int) (c3 : Nat) (go : Int × Int × Int × Int × LZ → Option (((Bool × LZ) ⊕ (Int × Int × Int × LZ)) × Nat × Nat)) (a4 : Int) (a5 : Int) (a6 : Int) (a7 : Int) (c8 : Nat) (st0 : Int) (st1 : Int) (ct2 : Nat) (ct3 : Nat) (S : St) (L : List PC) : Option (((Bool × LZ) ⊕ (Int × Int × Int × LZ)) × Nat × Nat) := bnO (ast L 100 ct2 st1 (V st0)) fun L67 => bnO (gfI L67 c8 11 2) fun v68 => bnO (ast L67 100 ct3 3 (V v68)) fun L69 => bnO (gfI L69 c8 11 3) fun v70 => bnO (ast L69 100 ct3 4 (V v70)) fun L71 => bnO (gfI L71 c8 11 4) fun v72 => bnO (ast L71 100 ct3 5 (V v72)) fun L73 => bnO (gfI L73 c8 11 5) fun v74 => bnO (gn_Law_told v74 S L73) fun p75 => bnO (ast L73 100 ct3 6 (V p75)) fun L76 => bnO (gfI L76 c8 11 4) fun v77 => bnO (gfI L76 c1 12 2) fun v78 => if v77 ≤ v78 then (bnO (ast L76 100 ct3 7 (V 0)) fun L79 => bnO (ast L79 100 ct3 8 (V (-1))) fun L80 => bnT (lo2_Law_same_314 c1 a2 c3 a4 a5 a6 a7 ct3 FU (0, (S, L80))) (fun r87 => some (.inl (r87.1, (r87.2.1, r87.2.2)), 0, 0)) fun e88 => nm (wr (a7 + 1)) fun v89 => go (a4, a5, a6, v89, (e88.1, e88.2))) else (bnO (ast L76 100 ct3 7 (V 1)) fun L90 => bnO (ast L90 100 ct3 8 (V (-1))) fun L91 => bnT (lo2_Law_same_314 c1 a2 c3 a4 a5 a6 a7 ct3 FU (0, (S, L91))) (fun r93 => some (.inl (r93.1, (r93.2.1, r93.2.2)), 0, 0)) fun e94 => nm (wr (a7 + 1)) fun v95 => go (a4, a5, a6, v95, (e94.1, e94.2)))
theorem tj2_Law_same_246_108 {sc : SC} {c1 : Nat} {a2 : Int} (ha2 : inR a2) {c3 : Nat} {K : Option Value → List PC → Prop} {mc ms kt nt : Nat} (hkt : kt ≤ mc) (hnt : nt ≤ ms) {go : Int × Int × Int × Int × LZ → Option (((Bool × LZ) ⊕ (Int × Int × Int × LZ)) × Nat × Nat)} (ih : ∀ (a : Int × Int × Int × Int × LZ) (q : ((Bool × LZ) ⊕ (Int × Int × Int × LZ)) × Nat × Nat), go a = some q → ∀ k n, Bd k n kt nt q → inR a.1 → inR a.2.1 → inR a.2.2.1 → inR a.2.2.2.1 → (∀ e, q.1 = .inr e → inR e.1 → inR e.2.1 → inR e.2.2.1 → GX sc M_Law_same mc ms 351 [(0, .ref 0), (1, .ref c1), (2, V a2), (3, .ref c3), (4, V e.1), (5, V e.2.1), (6, V e.2.2.1)] [] (wz e.2.2.2) kt nt K) → (∀ r, q.1 = .inl r → K (some (V (bi r.1))) (wz r.2)) → GX sc M_Law_same mc ms 108 [(0, .ref 0), (1, .ref c1), (2, V a2), (3, .ref c3), (4, V a.1), (5, V a.2.1), (6, V a.2.2.1), (7, V a.2.2.2.1)] [] (wz a.2.2.2.2) k n K) {a4 : Int} (ha4 : inR a4) {a5 : Int} (ha5 : inR a5) {a6 : Int} (ha6 : inR a6) {a7 : Int} (ha7 : inR a7) {c8 : Nat} {st0 : Int} (hst0 : inR st0) {st1 : Int} (hst1 : inR st1) {ct2 : Nat} {ct3 : Nat} {S : St} {L : List PC} {q : ((Bool × LZ) ⊕ (Int × Int × Int × LZ)) × Nat × Nat} (h : jf2_Law_same_246_108 c1 a2 c3 go a4 a5 a6 a7 c8 st0 st1 ct2 ct3 S L = some q) {k n : Nat} (hb : Bd k n kt nt q) (hx : (∀ e, q.1 = .inr e → inR e.1 → inR e.2.1 → inR e.2.2.1 → GX sc M_Law_same mc ms 351 [(0, .ref 0), (1, .ref c1), (2, V a2), (3, .ref c3), (4, V e.1), (5, V e.2.1), (6, V e.2.2.1)] [] (wz e.2.2.2) kt nt K)) (hr : (∀ r, q.1 = .inl r → K (some (V (bi r.1))) (wz r.2))) : GX sc M_Law_same mc ms 246 [(0, .ref 0), (1, .ref c1), (2, V a2), (3, .ref c3), (4, V a4), (5, V a5), (6, V a6), (7, V a7), (8, .ref c8)] [V st0, V st1, .ref ct2, .ref ct3] (wz (S, L)) k n K := by
  unfold jf2_Law_same_246_108 at h
  refine bnE h ?_
  clear h
  intro L67 e_L67 h
  refine wx_iast (Z := (S, L)) (pc := 246) (z := st0) e_L67 hst1 (dK D_Law_same_2 45 rfl) ?_
  refine x_dup (pc := 247) (dK D_Law_same_2 46 rfl) rfl ?_
  refine wx_iconst (pc := 248) (dK D_Law_same_2 47 rfl) ?_
  refine x_aload (pc := 249) (j := 8) (dK D_Law_same_2 48 rfl) rfl ?_
  refine bnE h ?_
  clear h
  intro v68 e_v68 h
  refine wx_getI (pc := 251) (ci := 11) (f := 2) e_v68 (dK D_Law_same_2 49 rfl) q_879 (ltK rfl) (ltK rfl) ?_
  refine bnE h ?_
  clear h
  intro L69 e_L69 h
  refine wx_iast (Z := (S, L67)) (pc := 254) (z := v68) e_L69 (inRk rfl) (dK D_Law_same_3 0 rfl) ?_
  refine x_dup (pc := 255) (dK D_Law_same_3 1 rfl) rfl ?_
  refine wx_iconst (pc := 256) (dK D_Law_same_3 2 rfl) ?_
  refine x_aload (pc := 257) (j := 8) (dK D_Law_same_3 3 rfl) rfl ?_
  refine bnE h ?_
  clear h
  intro v70 e_v70 h
  refine wx_getI (pc := 259) (ci := 11) (f := 3) e_v70 (dK D_Law_same_3 4 rfl) q_882 (ltK rfl) (ltK rfl) ?_
  refine bnE h ?_
  clear h
  intro L71 e_L71 h
  refine wx_iast (Z := (S, L69)) (pc := 262) (z := v70) e_L71 (inRk rfl) (dK D_Law_same_3 5 rfl) ?_
  refine x_dup (pc := 263) (dK D_Law_same_3 6 rfl) rfl ?_
  refine wx_iconst (pc := 264) (dK D_Law_same_3 7 rfl) ?_
  refine x_aload (pc := 265) (j := 8) (dK D_Law_same_3 8 rfl) rfl ?_
  refine bnE h ?_
  clear h
  intro v72 e_v72 h
  refine wx_getI (pc := 267) (ci := 11) (f := 4) e_v72 (dK D_Law_same_3 9 rfl) q_885 (ltK rfl) (ltK rfl) ?_
  refine bnE h ?_
  clear h
  intro L73 e_L73 h
  refine wx_iast (Z := (S, L71)) (pc := 270) (z := v72) e_L73 (inRk rfl) (dK D_Law_same_3 10 rfl) ?_
  refine x_dup (pc := 271) (dK D_Law_same_3 11 rfl) rfl ?_
  refine wx_bipush (pc := 272) (dK D_Law_same_3 12 rfl) rfl ?_
  refine x_aload (pc := 274) (j := 8) (dK D_Law_same_3 13 rfl) rfl ?_
  refine bnE h ?_
  clear h
  intro v74 e_v74 h
  refine wx_getI (pc := 276) (ci := 11) (f := 5) e_v74 (dK D_Law_same_3 14 rfl) q_889 (ltK rfl) (ltK rfl) ?_
  refine bnE h ?_
  clear h
  intro p75 e_p75 h
  refine x_callS (pc := 279) (As := [V v74]) (rest := [V 6, .ref ct3, .ref ct3]) (mc' := 0) (ms' := 0) (dK D_Law_same_3 15 rfl) Q_Law_95 (fitK rfl) rfl (leK rfl) (Nat.le_trans (bdk hb) hkt) (Nat.le_trans (bdn hb) hnt) (tg_Law_told (vI_at e_v74).2 e_p75) (kxI' (fun h_p75 => ?_))
  refine bnE h ?_
  clear h
  intro L76 e_L76 h
  refine wx_iast (Z := (S, L73)) (pc := 282) (z := p75) e_L76 (inRk rfl) (dK D_Law_same_3 16 rfl) ?_
  refine x_dup (pc := 283) (dK D_Law_same_3 17 rfl) rfl ?_
  refine wx_bipush (pc := 284) (dK D_Law_same_3 18 rfl) rfl ?_
  refine x_aload (pc := 286) (j := 8) (dK D_Law_same_3 19 rfl) rfl ?_
  refine bnE h ?_
  clear h
  intro v77 e_v77 h
  refine wx_getI (pc := 288) (ci := 11) (f := 4) e_v77 (dK D_Law_same_3 20 rfl) q_885 (ltK rfl) (ltK rfl) ?_
  refine x_aloadn (pc := 291) (i0 := 1) (j := 1) (dK D_Law_same_3 21 rfl) rfl rfl ?_
  refine bnE h ?_
  clear h
  intro v78 e_v78 h
  refine wx_getI (pc := 292) (ci := 12) (f := 2) e_v78 (dK D_Law_same_3 22 rfl) q_772 (ltK rfl) (ltK rfl) ?_
  refine wx_icmp_le (pc := 295) (t := 302) (dK D_Law_same_3 23 rfl) rfl (vI_at e_v77).2 (vI_at e_v78).2 (fun hc96 => ?_) (fun hc96 => ?_)
  · replace h := ifP h hc96
    refine wx_iconst (pc := 302) (dK D_Law_same_3 26 rfl) ?_
    refine bnE h ?_
    clear h
    intro L79 e_L79 h
    refine wx_iast (Z := (S, L76)) (pc := 303) (z := 0) e_L79 (inRk rfl) (dK D_Law_same_3 27 rfl) ?_
    refine x_dup (pc := 304) (dK D_Law_same_3 28 rfl) rfl ?_
    refine wx_bipush (pc := 305) (dK D_Law_same_3 29 rfl) rfl ?_
    refine wx_iconst (pc := 307) (dK D_Law_same_3 30 rfl) ?_
    refine bnE h ?_
    clear h
    intro L80 e_L80 h
    refine wx_iast (Z := (S, L79)) (pc := 308) (z := (-1)) e_L80 (inRk rfl) (dK D_Law_same_3 31 rfl) ?_
    refine x_astore (pc := 309) (ls2 := [(9, .ref ct3), (0, .ref 0), (1, .ref c1), (2, V a2), (3, .ref c3), (4, V a4), (5, V a5), (6, V a6), (7, V a7), (8, .ref c8)]) (dK D_Law_same_3 32 rfl) (ltK rfl) rfl ?_
    refine wx_iconst (pc := 311) (dK D_Law_same_3 33 rfl) ?_
    refine x_istore (pc := 312) (ls2 := [(10, V 0), (9, .ref ct3), (0, .ref 0), (1, .ref c1), (2, V a2), (3, .ref c3), (4, V a4), (5, V a5), (6, V a6), (7, V a7), (8, .ref c8)]) (dK D_Law_same_3 34 rfl) (ltK rfl) rfl ?_
    refine bnTE h ?_ ?_
    · clear h
      intro p86 r87 yp86 e_p86 f_p86 h e9
      subst e9
      have hk1 := Nat.le_trans (bd1 hb) hkt
      have hn1 := Nat.le_trans (bd2 hb) hnt
      replace hb := bdA hb
      refine x_weak (ls' := [(0, .ref 0), (1, .ref c1), (2, V a2), (3, .ref c3), (4, V a4), (5, V a5), (6, V a6), (7, V a7), (9, .ref ct3), (10, V 0)]) (sbc 2 rfl (sbc 3 rfl (sbc 4 rfl (sbc 5 rfl (sbc 6 rfl (sbc 7 rfl (sbc 8 rfl (sbc 9 rfl (sbc 1 rfl (sbc 0 rfl sbn)))))))))) ?_
      refine tl2_Law_same_314 ha2 ha4 ha5 ha6 ha7 hk1 hn1 FU _ _ e_p86 _ _ ⟨Nat.le_refl _, Nat.le_refl _⟩ (inRk rfl) (fun _ g_ => by rw [f_p86] at g_; exact nomatch g_) (fun r_ g_  => ?_)
      obtain rfl := Sum.inl.inj (f_p86.symm.trans g_)
      obtain rfl := Option.some.inj h
      exact hr (r87.1, (r87.2.1, r87.2.2)) rfl
    · clear h
      intro p86 e88 yp86 e_p86 f_p86 h e9
      subst e9
      have hk1 := Nat.le_trans (bd1 hb) hkt
      have hn1 := Nat.le_trans (bd2 hb) hnt
      replace hb := bdA hb
      refine x_weak (ls' := [(0, .ref 0), (1, .ref c1), (2, V a2), (3, .ref c3), (4, V a4), (5, V a5), (6, V a6), (7, V a7), (9, .ref ct3), (10, V 0)]) (sbc 2 rfl (sbc 3 rfl (sbc 4 rfl (sbc 5 rfl (sbc 6 rfl (sbc 7 rfl (sbc 8 rfl (sbc 9 rfl (sbc 1 rfl (sbc 0 rfl sbn)))))))))) ?_
      refine tl2_Law_same_314 ha2 ha4 ha5 ha6 ha7 hk1 hn1 FU _ _ e_p86 _ _ ⟨Nat.le_refl _, Nat.le_refl _⟩ (inRk rfl) (fun e_ g_  => ?_) (fun _ g_ => by rw [f_p86] at g_; exact nomatch g_)
      obtain rfl := Sum.inr.inj (f_p86.symm.trans g_)
      refine nmE h ?_
      clear h
      intro v89 e_v89 h
      refine wx_iinc (pc := 345) (j := 7) (a := a7) (z := 1) (ls2 := [(7, V v89), (0, .ref 0), (1, .ref c1), (2, V a2), (3, .ref c3), (4, V a4), (5, V a5), (6, V a6)]) (dK D_Law_same_4 0 rfl) rfl e_v89 (ltK rfl) rfl ?_
      refine x_goto (pc := 348) (tgt := 108) (dK D_Law_same_4 1 rfl) rfl ?_
      refine x_weak (ls' := [(0, .ref 0), (1, .ref c1), (2, V a2), (3, .ref c3), (4, V a4), (5, V a5), (6, V a6), (7, V v89)]) (sbc 1 rfl (sbc 2 rfl (sbc 3 rfl (sbc 4 rfl (sbc 5 rfl (sbc 6 rfl (sbc 7 rfl (sbc 0 rfl sbn)))))))) ?_
      replace h := ih _ _ h
      exact h _ _ hb ha4 ha5 ha6 (Vn_in e_v89) hx hr
  · replace h := ifN h hc96
    refine wx_iconst (pc := 298) (dK D_Law_same_3 24 rfl) ?_
    refine x_goto (pc := 299) (tgt := 303) (dK D_Law_same_3 25 rfl) rfl ?_
    refine bnE h ?_
    clear h
    intro L90 e_L90 h
    refine wx_iast (Z := (S, L76)) (pc := 303) (z := 1) e_L90 (inRk rfl) (dK D_Law_same_3 27 rfl) ?_
    refine x_dup (pc := 304) (dK D_Law_same_3 28 rfl) rfl ?_
    refine wx_bipush (pc := 305) (dK D_Law_same_3 29 rfl) rfl ?_
    refine wx_iconst (pc := 307) (dK D_Law_same_3 30 rfl) ?_
    refine bnE h ?_
    clear h
    intro L91 e_L91 h
    refine wx_iast (Z := (S, L90)) (pc := 308) (z := (-1)) e_L91 (inRk rfl) (dK D_Law_same_3 31 rfl) ?_
    refine x_astore (pc := 309) (ls2 := [(9, .ref ct3), (0, .ref 0), (1, .ref c1), (2, V a2), (3, .ref c3), (4, V a4), (5, V a5), (6, V a6), (7, V a7), (8, .ref c8)]) (dK D_Law_same_3 32 rfl) (ltK rfl) rfl ?_
    refine wx_iconst (pc := 311) (dK D_Law_same_3 33 rfl) ?_
    refine x_istore (pc := 312) (ls2 := [(10, V 0), (9, .ref ct3), (0, .ref 0), (1, .ref c1), (2, V a2), (3, .ref c3), (4, V a4), (5, V a5), (6, V a6), (7, V a7), (8, .ref c8)]) (dK D_Law_same_3 34 rfl) (ltK rfl) rfl ?_
    refine bnTE h ?_ ?_
    · clear h
      intro p92 r93 yp92 e_p92 f_p92 h e9
      subst e9
      have hk1 := Nat.le_trans (bd1 hb) hkt
      have hn1 := Nat.le_trans (bd2 hb) hnt
      replace hb := bdA hb
      refine x_weak (ls' := [(0, .ref 0), (1, .ref c1), (2, V a2), (3, .ref c3), (4, V a4), (5, V a5), (6, V a6), (7, V a7), (9, .ref ct3), (10, V 0)]) (sbc 2 rfl (sbc 3 rfl (sbc 4 rfl (sbc 5 rfl (sbc 6 rfl (sbc 7 rfl (sbc 8 rfl (sbc 9 rfl (sbc 1 rfl (sbc 0 rfl sbn)))))))))) ?_
      refine tl2_Law_same_314 ha2 ha4 ha5 ha6 ha7 hk1 hn1 FU _ _ e_p92 _ _ ⟨Nat.le_refl _, Nat.le_refl _⟩ (inRk rfl) (fun _ g_ => by rw [f_p92] at g_; exact nomatch g_) (fun r_ g_  => ?_)
      obtain rfl := Sum.inl.inj (f_p92.symm.trans g_)
      obtain rfl := Option.some.inj h
      exact hr (r93.1, (r93.2.1, r93.2.2)) rfl
    · clear h
      intro p92 e94 yp92 e_p92 f_p92 h e9
      subst e9
      have hk1 := Nat.le_trans (bd1 hb) hkt
      have hn1 := Nat.le_trans (bd2 hb) hnt
      replace hb := bdA hb
      refine x_weak (ls' := [(0, .ref 0), (1, .ref c1), (2, V a2), (3, .ref c3), (4, V a4), (5, V a5), (6, V a6), (7, V a7), (9, .ref ct3), (10, V 0)]) (sbc 2 rfl (sbc 3 rfl (sbc 4 rfl (sbc 5 rfl (sbc 6 rfl (sbc 7 rfl (sbc 8 rfl (sbc 9 rfl (sbc 1 rfl (sbc 0 rfl sbn)))))))))) ?_
      refine tl2_Law_same_314 ha2 ha4 ha5 ha6 ha7 hk1 hn1 FU _ _ e_p92 _ _ ⟨Nat.le_refl _, Nat.le_refl _⟩ (inRk rfl) (fun e_ g_  => ?_) (fun _ g_ => by rw [f_p92] at g_; exact nomatch g_)
      obtain rfl := Sum.inr.inj (f_p92.symm.trans g_)
      refine nmE h ?_
      clear h
      intro v95 e_v95 h
      refine wx_iinc (pc := 345) (j := 7) (a := a7) (z := 1) (ls2 := [(7, V v95), (0, .ref 0), (1, .ref c1), (2, V a2), (3, .ref c3), (4, V a4), (5, V a5), (6, V a6)]) (dK D_Law_same_4 0 rfl) rfl e_v95 (ltK rfl) rfl ?_
      refine x_goto (pc := 348) (tgt := 108) (dK D_Law_same_4 1 rfl) rfl ?_
      refine x_weak (ls' := [(0, .ref 0), (1, .ref c1), (2, V a2), (3, .ref c3), (4, V a4), (5, V a5), (6, V a6), (7, V v95)]) (sbc 1 rfl (sbc 2 rfl (sbc 3 rfl (sbc 4 rfl (sbc 5 rfl (sbc 6 rfl (sbc 7 rfl (sbc 0 rfl sbn)))))))) ?_
      replace h := ih _ _ h
      exact h _ _ hb ha4 ha5 ha6 (Vn_in e_v95) hx hr
def jf2_Law_same_186_108 (c1 : Nat) (a2 : Int) (c3 : Nat) (go : Int × Int × Int × Int × LZ → Option (((Bool × LZ) ⊕ (Int × Int × Int × LZ)) × Nat × Nat)) (a4 : Int) (a6 : Int) (a7 : Int) (c8 : Nat) (st0 : Int) (st1 : Int) (S : St) (L : List PC) : Option (((Bool × LZ) ⊕ (Int × Int × Int × LZ)) × Nat × Nat) := nm (wr (st1 + st0)) fun v54 => bnO (gfI L c8 11 5) fun v55 => if v55 ≤ 0 then (nm (wr (a6 + 0)) fun v56 => if (0 : Int) ≤ 9 ∧ (9 : Int) ≤ 16384 then (if L.length < 900000000 then adC 1 (9 : Int).toNat (nw L (100, List.replicate (9 : Int).toNat (.int 0)) fun r60 L61 => bnO (gfI L61 c8 11 0) fun v62 => bnO (ast L61 100 r60 0 (V v62)) fun L63 => bnO (gfI L63 c8 11 1) fun v64 => bnO (ast L63 100 r60 1 (V v64)) fun L65 => bnO (gfI L65 c8 11 6) fun v66 => if v66 = 0 then (jf2_Law_same_246_108 c1 a2 c3 go a4 v54 v56 a7 c8 0 2 r60 r60 S L65) else (jf2_Law_same_246_108 c1 a2 c3 go a4 v54 v56 a7 c8 1 2 r60 r60 S L65)) else none) else none) else (bnO (gfI L c8 11 0) fun v98 => nm (wr (a6 + v98)) fun v99 => if (0 : Int) ≤ 9 ∧ (9 : Int) ≤ 16384 then (if L.length < 900000000 then adC 1 (9 : Int).toNat (nw L (100, List.replicate (9 : Int).toNat (.int 0)) fun r103 L104 => bnO (gfI L104 c8 11 0) fun v105 => bnO (ast L104 100 r103 0 (V v105)) fun L106 => bnO (gfI L106 c8 11 1) fun v107 => bnO (ast L106 100 r103 1 (V v107)) fun L108 => bnO (gfI L108 c8 11 6) fun v109 => if v109 = 0 then (jf2_Law_same_246_108 c1 a2 c3 go a4 v54 v99 a7 c8 0 2 r103 r103 S L108) else (jf2_Law_same_246_108 c1 a2 c3 go a4 v54 v99 a7 c8 1 2 r103 r103 S L108)) else none) else none)
theorem tj2_Law_same_186_108 {sc : SC} {c1 : Nat} {a2 : Int} (ha2 : inR a2) {c3 : Nat} {K : Option Value → List PC → Prop} {mc ms kt nt : Nat} (hkt : kt ≤ mc) (hnt : nt ≤ ms) {go : Int × Int × Int × Int × LZ → Option (((Bool × LZ) ⊕ (Int × Int × Int × LZ)) × Nat × Nat)} (ih : ∀ (a : Int × Int × Int × Int × LZ) (q : ((Bool × LZ) ⊕ (Int × Int × Int × LZ)) × Nat × Nat), go a = some q → ∀ k n, Bd k n kt nt q → inR a.1 → inR a.2.1 → inR a.2.2.1 → inR a.2.2.2.1 → (∀ e, q.1 = .inr e → inR e.1 → inR e.2.1 → inR e.2.2.1 → GX sc M_Law_same mc ms 351 [(0, .ref 0), (1, .ref c1), (2, V a2), (3, .ref c3), (4, V e.1), (5, V e.2.1), (6, V e.2.2.1)] [] (wz e.2.2.2) kt nt K) → (∀ r, q.1 = .inl r → K (some (V (bi r.1))) (wz r.2)) → GX sc M_Law_same mc ms 108 [(0, .ref 0), (1, .ref c1), (2, V a2), (3, .ref c3), (4, V a.1), (5, V a.2.1), (6, V a.2.2.1), (7, V a.2.2.2.1)] [] (wz a.2.2.2.2) k n K) {a4 : Int} (ha4 : inR a4) {a6 : Int} (ha6 : inR a6) {a7 : Int} (ha7 : inR a7) {c8 : Nat} {st0 : Int} (hst0 : inR st0) {st1 : Int} (hst1 : inR st1) {S : St} {L : List PC} {q : ((Bool × LZ) ⊕ (Int × Int × Int × LZ)) × Nat × Nat} (h : jf2_Law_same_186_108 c1 a2 c3 go a4 a6 a7 c8 st0 st1 S L = some q) {k n : Nat} (hb : Bd k n kt nt q) (hx : (∀ e, q.1 = .inr e → inR e.1 → inR e.2.1 → inR e.2.2.1 → GX sc M_Law_same mc ms 351 [(0, .ref 0), (1, .ref c1), (2, V a2), (3, .ref c3), (4, V e.1), (5, V e.2.1), (6, V e.2.2.1)] [] (wz e.2.2.2) kt nt K)) (hr : (∀ r, q.1 = .inl r → K (some (V (bi r.1))) (wz r.2))) : GX sc M_Law_same mc ms 186 [(0, .ref 0), (1, .ref c1), (2, V a2), (3, .ref c3), (4, V a4), (6, V a6), (7, V a7), (8, .ref c8)] [V st0, V st1] (wz (S, L)) k n K := by
  unfold jf2_Law_same_186_108 at h
  refine wx_iadd (pc := 186) (dK D_Law_same_2 13 rfl) ?_
  refine nmE h ?_
  clear h
  intro v54 e_v54 h
  refine wtop e_v54 ?_
  refine x_istore (pc := 187) (ls2 := [(5, V v54), (0, .ref 0), (1, .ref c1), (2, V a2), (3, .ref c3), (4, V a4), (6, V a6), (7, V a7), (8, .ref c8)]) (dK D_Law_same_2 14 rfl) (ltK rfl) rfl ?_
  refine x_iload (pc := 189) (j := 6) (dK D_Law_same_2 15 rfl) rfl ?_
  refine x_aload (pc := 191) (j := 8) (dK D_Law_same_2 16 rfl) rfl ?_
  refine bnE h ?_
  clear h
  intro v55 e_v55 h
  refine wx_getI (pc := 193) (ci := 11) (f := 5) e_v55 (dK D_Law_same_2 17 rfl) q_889 (ltK rfl) (ltK rfl) ?_
  refine wx_if_le (pc := 196) (t := 207) (dK D_Law_same_2 18 rfl) rfl (vI_at e_v55).2 (fun hc111 => ?_) (fun hc111 => ?_)
  · replace h := ifP h hc111
    refine wx_iconst (pc := 207) (dK D_Law_same_2 22 rfl) ?_
    refine wx_iadd (pc := 208) (dK D_Law_same_2 23 rfl) ?_
    refine nmE h ?_
    clear h
    intro v56 e_v56 h
    refine wtop e_v56 ?_
    refine x_istore (pc := 209) (ls2 := [(6, V v56), (5, V v54), (0, .ref 0), (1, .ref c1), (2, V a2), (3, .ref c3), (4, V a4), (7, V a7), (8, .ref c8)]) (dK D_Law_same_2 24 rfl) (ltK rfl) rfl ?_
    refine wx_bipush (pc := 211) (dK D_Law_same_2 25 rfl) rfl ?_
    refine gdE h ?_
    clear h
    intro hz57 h
    refine gdE h ?_
    clear h
    intro hl58 h
    obtain ⟨y59, h9, e9⟩ := adE2 h
    clear h
    subst e9
    have h := h9
    clear h9
    refine nwE h ?_
    clear h
    intro r60 L61 e_r60 e_L61 h
    have hk1 := Nat.le_trans (bd1 hb) hkt
    have hn1 := Nat.le_trans (bd2 hb) hnt
    replace hb := bdA hb
    refine wn_newa_int (Z := (S, L)) (pc := 213) e_r60 e_L61 hl58 (inRk rfl) hz57 (dK D_Law_same_2 26 rfl) q_68 hk1 hn1 ?_
    refine x_dup (pc := 215) (dK D_Law_same_2 27 rfl) rfl ?_
    refine wx_iconst (pc := 216) (dK D_Law_same_2 28 rfl) ?_
    refine x_aload (pc := 217) (j := 8) (dK D_Law_same_2 29 rfl) rfl ?_
    refine bnE h ?_
    clear h
    intro v62 e_v62 h
    refine wx_getI (pc := 219) (ci := 11) (f := 0) e_v62 (dK D_Law_same_2 30 rfl) q_874 (ltK rfl) (ltK rfl) ?_
    refine bnE h ?_
    clear h
    intro L63 e_L63 h
    refine wx_iast (Z := (S, L61)) (pc := 222) (z := v62) e_L63 (inRk rfl) (dK D_Law_same_2 31 rfl) ?_
    refine x_dup (pc := 223) (dK D_Law_same_2 32 rfl) rfl ?_
    refine wx_iconst (pc := 224) (dK D_Law_same_2 33 rfl) ?_
    refine x_aload (pc := 225) (j := 8) (dK D_Law_same_2 34 rfl) rfl ?_
    refine bnE h ?_
    clear h
    intro v64 e_v64 h
    refine wx_getI (pc := 227) (ci := 11) (f := 1) e_v64 (dK D_Law_same_2 35 rfl) q_876 (ltK rfl) (ltK rfl) ?_
    refine bnE h ?_
    clear h
    intro L65 e_L65 h
    refine wx_iast (Z := (S, L63)) (pc := 230) (z := v64) e_L65 (inRk rfl) (dK D_Law_same_2 36 rfl) ?_
    refine x_dup (pc := 231) (dK D_Law_same_2 37 rfl) rfl ?_
    refine wx_iconst (pc := 232) (dK D_Law_same_2 38 rfl) ?_
    refine x_aload (pc := 233) (j := 8) (dK D_Law_same_2 39 rfl) rfl ?_
    refine bnE h ?_
    clear h
    intro v66 e_v66 h
    refine wx_getI (pc := 235) (ci := 11) (f := 6) e_v66 (dK D_Law_same_2 40 rfl) q_891 (ltK rfl) (ltK rfl) ?_
    refine wx_if_eq (pc := 238) (t := 245) (dK D_Law_same_2 41 rfl) rfl (vI_at e_v66).2 (fun hc97 => ?_) (fun hc97 => ?_)
    · replace h := ifP h hc97
      refine wx_iconst (pc := 245) (dK D_Law_same_2 44 rfl) ?_
      refine x_weak (ls' := [(0, .ref 0), (1, .ref c1), (2, V a2), (3, .ref c3), (4, V a4), (5, V v54), (6, V v56), (7, V a7), (8, .ref c8)]) (sbc 2 rfl (sbc 3 rfl (sbc 4 rfl (sbc 5 rfl (sbc 6 rfl (sbc 1 rfl (sbc 0 rfl (sbc 7 rfl (sbc 8 rfl sbn))))))))) ?_
      exact tj2_Law_same_246_108 ha2 hkt hnt ih ha4 (Vn_in e_v54) (Vn_in e_v56) ha7 (inRk rfl) (inRk rfl) h hb hx hr
    · replace h := ifN h hc97
      refine wx_iconst (pc := 241) (dK D_Law_same_2 42 rfl) ?_
      refine x_goto (pc := 242) (tgt := 246) (dK D_Law_same_2 43 rfl) rfl ?_
      refine x_weak (ls' := [(0, .ref 0), (1, .ref c1), (2, V a2), (3, .ref c3), (4, V a4), (5, V v54), (6, V v56), (7, V a7), (8, .ref c8)]) (sbc 2 rfl (sbc 3 rfl (sbc 4 rfl (sbc 5 rfl (sbc 6 rfl (sbc 1 rfl (sbc 0 rfl (sbc 7 rfl (sbc 8 rfl sbn))))))))) ?_
      exact tj2_Law_same_246_108 ha2 hkt hnt ih ha4 (Vn_in e_v54) (Vn_in e_v56) ha7 (inRk rfl) (inRk rfl) h hb hx hr
  · replace h := ifN h hc111
    refine x_aload (pc := 199) (j := 8) (dK D_Law_same_2 19 rfl) rfl ?_
    refine bnE h ?_
    clear h
    intro v98 e_v98 h
    refine wx_getI (pc := 201) (ci := 11) (f := 0) e_v98 (dK D_Law_same_2 20 rfl) q_874 (ltK rfl) (ltK rfl) ?_
    refine x_goto (pc := 204) (tgt := 208) (dK D_Law_same_2 21 rfl) rfl ?_
    refine wx_iadd (pc := 208) (dK D_Law_same_2 23 rfl) ?_
    refine nmE h ?_
    clear h
    intro v99 e_v99 h
    refine wtop e_v99 ?_
    refine x_istore (pc := 209) (ls2 := [(6, V v99), (5, V v54), (0, .ref 0), (1, .ref c1), (2, V a2), (3, .ref c3), (4, V a4), (7, V a7), (8, .ref c8)]) (dK D_Law_same_2 24 rfl) (ltK rfl) rfl ?_
    refine wx_bipush (pc := 211) (dK D_Law_same_2 25 rfl) rfl ?_
    refine gdE h ?_
    clear h
    intro hz100 h
    refine gdE h ?_
    clear h
    intro hl101 h
    obtain ⟨y102, h9, e9⟩ := adE2 h
    clear h
    subst e9
    have h := h9
    clear h9
    refine nwE h ?_
    clear h
    intro r103 L104 e_r103 e_L104 h
    have hk1 := Nat.le_trans (bd1 hb) hkt
    have hn1 := Nat.le_trans (bd2 hb) hnt
    replace hb := bdA hb
    refine wn_newa_int (Z := (S, L)) (pc := 213) e_r103 e_L104 hl101 (inRk rfl) hz100 (dK D_Law_same_2 26 rfl) q_68 hk1 hn1 ?_
    refine x_dup (pc := 215) (dK D_Law_same_2 27 rfl) rfl ?_
    refine wx_iconst (pc := 216) (dK D_Law_same_2 28 rfl) ?_
    refine x_aload (pc := 217) (j := 8) (dK D_Law_same_2 29 rfl) rfl ?_
    refine bnE h ?_
    clear h
    intro v105 e_v105 h
    refine wx_getI (pc := 219) (ci := 11) (f := 0) e_v105 (dK D_Law_same_2 30 rfl) q_874 (ltK rfl) (ltK rfl) ?_
    refine bnE h ?_
    clear h
    intro L106 e_L106 h
    refine wx_iast (Z := (S, L104)) (pc := 222) (z := v105) e_L106 (inRk rfl) (dK D_Law_same_2 31 rfl) ?_
    refine x_dup (pc := 223) (dK D_Law_same_2 32 rfl) rfl ?_
    refine wx_iconst (pc := 224) (dK D_Law_same_2 33 rfl) ?_
    refine x_aload (pc := 225) (j := 8) (dK D_Law_same_2 34 rfl) rfl ?_
    refine bnE h ?_
    clear h
    intro v107 e_v107 h
    refine wx_getI (pc := 227) (ci := 11) (f := 1) e_v107 (dK D_Law_same_2 35 rfl) q_876 (ltK rfl) (ltK rfl) ?_
    refine bnE h ?_
    clear h
    intro L108 e_L108 h
    refine wx_iast (Z := (S, L106)) (pc := 230) (z := v107) e_L108 (inRk rfl) (dK D_Law_same_2 36 rfl) ?_
    refine x_dup (pc := 231) (dK D_Law_same_2 37 rfl) rfl ?_
    refine wx_iconst (pc := 232) (dK D_Law_same_2 38 rfl) ?_
    refine x_aload (pc := 233) (j := 8) (dK D_Law_same_2 39 rfl) rfl ?_
    refine bnE h ?_
    clear h
    intro v109 e_v109 h
    refine wx_getI (pc := 235) (ci := 11) (f := 6) e_v109 (dK D_Law_same_2 40 rfl) q_891 (ltK rfl) (ltK rfl) ?_
    refine wx_if_eq (pc := 238) (t := 245) (dK D_Law_same_2 41 rfl) rfl (vI_at e_v109).2 (fun hc110 => ?_) (fun hc110 => ?_)
    · replace h := ifP h hc110
      refine wx_iconst (pc := 245) (dK D_Law_same_2 44 rfl) ?_
      refine x_weak (ls' := [(0, .ref 0), (1, .ref c1), (2, V a2), (3, .ref c3), (4, V a4), (5, V v54), (6, V v99), (7, V a7), (8, .ref c8)]) (sbc 2 rfl (sbc 3 rfl (sbc 4 rfl (sbc 5 rfl (sbc 6 rfl (sbc 1 rfl (sbc 0 rfl (sbc 7 rfl (sbc 8 rfl sbn))))))))) ?_
      exact tj2_Law_same_246_108 ha2 hkt hnt ih ha4 (Vn_in e_v54) (Vn_in e_v99) ha7 (inRk rfl) (inRk rfl) h hb hx hr
    · replace h := ifN h hc110
      refine wx_iconst (pc := 241) (dK D_Law_same_2 42 rfl) ?_
      refine x_goto (pc := 242) (tgt := 246) (dK D_Law_same_2 43 rfl) rfl ?_
      refine x_weak (ls' := [(0, .ref 0), (1, .ref c1), (2, V a2), (3, .ref c3), (4, V a4), (5, V v54), (6, V v99), (7, V a7), (8, .ref c8)]) (sbc 2 rfl (sbc 3 rfl (sbc 4 rfl (sbc 5 rfl (sbc 6 rfl (sbc 1 rfl (sbc 0 rfl (sbc 7 rfl (sbc 8 rfl sbn))))))))) ?_
      exact tj2_Law_same_246_108 ha2 hkt hnt ih ha4 (Vn_in e_v54) (Vn_in e_v99) ha7 (inRk rfl) (inRk rfl) h hb hx hr
def lb2_Law_same_108 (c1 : Nat) (a2 : Int) (c3 : Nat) (go : Int × Int × Int × Int × LZ → Option (((Bool × LZ) ⊕ (Int × Int × Int × LZ)) × Nat × Nat)) (a4 : Int) (a5 : Int) (a6 : Int) (a7 : Int) (S : St) (L : List PC) : Option (((Bool × LZ) ⊕ (Int × Int × Int × LZ)) × Nat × Nat) := bnO (gfV L c1 12 4) fun v37 => rfB v37 fun r38 => if isK L r38 13 = true then (bnO (gn_AL_size r38 S L) fun p39 => if p39 ≤ a7 then (some (.inr (a4, a5, a6, (S, L)), 0, 0)) else (bnO (gfV L c1 12 4) fun v41 => rfB v41 fun r42 => if isK L r42 13 = true then (bnO (gn_AL_get r42 a7 S L) fun p43 => rfB p43 fun r45 => if isK L r45 11 = true then (bnO (ald L 0 c3 7) fun v47 => bnO (gfI L r45 11 5) fun v48 => if v48 ≤ 0 then (nm (wr (v47 + 0)) fun v49 => bnO (ast L 100 c3 7 (V v49)) fun L50 => bnO (gfI L50 r45 11 5) fun v51 => nm (wr ((31 * a4) + v51)) fun v52 => bnO (gfI L50 r45 11 5) fun v53 => if v53 ≤ 0 then (jf2_Law_same_186_108 c1 a2 c3 go v52 a6 a7 r45 0 a5 S L50) else (bnO (gfI L50 r45 11 3) fun v112 => jf2_Law_same_186_108 c1 a2 c3 go v52 a6 a7 r45 v112 a5 S L50)) else (nm (wr (v47 + 1)) fun v114 => bnO (ast L 100 c3 7 (V v114)) fun L115 => bnO (gfI L115 r45 11 5) fun v116 => nm (wr ((31 * a4) + v116)) fun v117 => bnO (gfI L115 r45 11 5) fun v118 => if v118 ≤ 0 then (jf2_Law_same_186_108 c1 a2 c3 go v117 a6 a7 r45 0 a5 S L115) else (bnO (gfI L115 r45 11 3) fun v119 => jf2_Law_same_186_108 c1 a2 c3 go v117 a6 a7 r45 v119 a5 S L115))) else none) else none)) else none
def lo2_Law_same_108 (c1 : Nat) (a2 : Int) (c3 : Nat) : Nat → Int × Int × Int × Int × LZ → Option (((Bool × LZ) ⊕ (Int × Int × Int × LZ)) × Nat × Nat) := lp fun go p => lb2_Law_same_108 c1 a2 c3 go p.1 p.2.1 p.2.2.1 p.2.2.2.1 p.2.2.2.2.1 p.2.2.2.2.2
theorem tl2_Law_same_108 {sc : SC} {c1 : Nat} {a2 : Int} (ha2 : inR a2) {c3 : Nat} {K : Option Value → List PC → Prop} {mc ms kt nt : Nat} (hkt : kt ≤ mc) (hnt : nt ≤ ms) : ∀ (N : Nat) (a : Int × Int × Int × Int × LZ) (q : ((Bool × LZ) ⊕ (Int × Int × Int × LZ)) × Nat × Nat), lo2_Law_same_108 c1 a2 c3 N a = some q → ∀ k n, Bd k n kt nt q → inR a.1 → inR a.2.1 → inR a.2.2.1 → inR a.2.2.2.1 → (∀ e, q.1 = .inr e → inR e.1 → inR e.2.1 → inR e.2.2.1 → GX sc M_Law_same mc ms 351 [(0, .ref 0), (1, .ref c1), (2, V a2), (3, .ref c3), (4, V e.1), (5, V e.2.1), (6, V e.2.2.1)] [] (wz e.2.2.2) kt nt K) → (∀ r, q.1 = .inl r → K (some (V (bi r.1))) (wz r.2)) → GX sc M_Law_same mc ms 108 [(0, .ref 0), (1, .ref c1), (2, V a2), (3, .ref c3), (4, V a.1), (5, V a.2.1), (6, V a.2.2.1), (7, V a.2.2.2.1)] [] (wz a.2.2.2.2) k n K := by
  refine lp_ind2 (P := fun (a : Int × Int × Int × Int × LZ) (q : ((Bool × LZ) ⊕ (Int × Int × Int × LZ)) × Nat × Nat) => ∀ k n, Bd k n kt nt q → inR a.1 → inR a.2.1 → inR a.2.2.1 → inR a.2.2.2.1 → (∀ e, q.1 = .inr e → inR e.1 → inR e.2.1 → inR e.2.2.1 → GX sc M_Law_same mc ms 351 [(0, .ref 0), (1, .ref c1), (2, V a2), (3, .ref c3), (4, V e.1), (5, V e.2.1), (6, V e.2.2.1)] [] (wz e.2.2.2) kt nt K) → (∀ r, q.1 = .inl r → K (some (V (bi r.1))) (wz r.2)) → GX sc M_Law_same mc ms 108 [(0, .ref 0), (1, .ref c1), (2, V a2), (3, .ref c3), (4, V a.1), (5, V a.2.1), (6, V a.2.2.1), (7, V a.2.2.2.1)] [] (wz a.2.2.2.2) k n K) (fun go ih a q h => ?_)
  obtain ⟨a4, a5, a6, a7, ⟨S, L⟩⟩ := a
  intro k n hb ha4 ha5 ha6 ha7 hx hr
  show GX sc M_Law_same mc ms 108 [(0, .ref 0), (1, .ref c1), (2, V a2), (3, .ref c3), (4, V a4), (5, V a5), (6, V a6), (7, V a7)] [] (wz (S, L)) k n K
  replace h : lb2_Law_same_108 c1 a2 c3 go a4 a5 a6 a7 S L = some q := h
  unfold lb2_Law_same_108 at h
  refine x_iload (pc := 108) (j := 7) (dK D_Law_same_1 25 rfl) rfl ?_
  refine x_aloadn (pc := 110) (i0 := 1) (j := 1) (dK D_Law_same_1 26 rfl) rfl rfl ?_
  refine bnE h ?_
  clear h
  intro v37 e_v37 h
  refine wx_getV (pc := 111) (ci := 12) (f := 4) e_v37 (dK D_Law_same_1 27 rfl) q_776 (ltK rfl) (ltK rfl) (fun hv37 => ?_)
  refine rfE h ?_
  clear h
  intro r38 e_r38 h
  rw [e_r38]
  refine gdE h ?_
  clear h
  intro hk40 h
  refine bnE h ?_
  clear h
  intro p39 e_p39 h
  refine x_callX (pc := 114) (As := []) (rest := [V a7]) (mc' := 0) (ms' := 0) (dK D_Law_same_1 28 rfl) Q_Law_55 sx_AL_size (fitK rfl) (isK_at (Z := (S, L)) (ci := 13) hk40) rfl (leK rfl) (Nat.le_trans (bdk hb) hkt) (Nat.le_trans (bdn hb) hnt) (tg_AL_size  e_p39) (kxI' (fun h_p39 => ?_))
  refine wx_icmp_ge (pc := 117) (t := 351) (dK D_Law_same_1 29 rfl) rfl ha7 h_p39 (fun hc122 => ?_) (fun hc122 => ?_)
  · replace h := ifP h hc122
    obtain rfl := Option.some.inj h
    refine x_weak (ls' := [(0, .ref 0), (1, .ref c1), (2, V a2), (3, .ref c3), (4, V a4), (5, V a5), (6, V a6)]) (sbc 0 rfl (sbc 1 rfl (sbc 2 rfl (sbc 3 rfl (sbc 4 rfl (sbc 5 rfl (sbc 6 rfl sbn))))))) ?_
    refine x_room (bdk hb) (bdn hb) ?_
    exact hx (a4, a5, a6, (S, L)) rfl ha4 ha5 ha6
  · replace h := ifN h hc122
    refine x_aloadn (pc := 120) (i0 := 1) (j := 1) (dK D_Law_same_1 30 rfl) rfl rfl ?_
    refine bnE h ?_
    clear h
    intro v41 e_v41 h
    refine wx_getV (pc := 121) (ci := 12) (f := 4) e_v41 (dK D_Law_same_1 31 rfl) q_776 (ltK rfl) (ltK rfl) (fun hv41 => ?_)
    refine x_iload (pc := 124) (j := 7) (dK D_Law_same_1 32 rfl) rfl ?_
    refine rfE h ?_
    clear h
    intro r42 e_r42 h
    rw [e_r42]
    refine gdE h ?_
    clear h
    intro hk44 h
    refine bnE h ?_
    clear h
    intro p43 e_p43 h
    refine x_callX (pc := 126) (As := [V a7]) (rest := []) (mc' := 0) (ms' := 0) (dK D_Law_same_1 33 rfl) Q_Law_69 sx_AL_get (fitK rfl) (isK_at (Z := (S, L)) (ci := 13) hk44) rfl (leK rfl) (Nat.le_trans (bdk hb) hkt) (Nat.le_trans (bdn hb) hnt) (tg_AL_get ha7 e_p43) (kxR (fun h_p43 => ?_))
    refine rfE h ?_
    clear h
    intro r45 e_r45 h
    rw [e_r45]
    refine gdE h ?_
    clear h
    intro hk46 h
    refine x_cast (pc := 129) (dK D_Law_same_1 34 rfl) q_1033 (isK_at (Z := (S, L)) (ci := 11) hk46) ?_
    refine x_astore (pc := 132) (ls2 := [(8, .ref r45), (0, .ref 0), (1, .ref c1), (2, V a2), (3, .ref c3), (4, V a4), (5, V a5), (6, V a6), (7, V a7)]) (dK D_Law_same_1 35 rfl) (ltK rfl) rfl ?_
    refine x_aloadn (pc := 134) (i0 := 3) (j := 4) (dK D_Law_same_1 36 rfl) rfl rfl ?_
    refine wx_bipush (pc := 135) (dK D_Law_same_1 37 rfl) rfl ?_
    refine x_dup2 (pc := 137) (dK D_Law_same_1 38 rfl) rfl rfl ?_
    refine bnE h ?_
    clear h
    intro v47 e_v47 h
    refine wx_iald (pc := 138) e_v47 (inRk rfl) (dK D_Law_same_1 39 rfl) ?_
    refine x_aload (pc := 139) (j := 0) (dK D_Law_same_1 40 rfl) rfl ?_
    refine bnE h ?_
    clear h
    intro v48 e_v48 h
    refine wx_getI (pc := 141) (ci := 11) (f := 5) e_v48 (dK D_Law_same_1 41 rfl) q_889 (ltK rfl) (ltK rfl) ?_
    refine wx_if_le (pc := 144) (t := 151) (dK D_Law_same_1 42 rfl) rfl (vI_at e_v48).2 (fun hc121 => ?_) (fun hc121 => ?_)
    · replace h := ifP h hc121
      refine wx_iconst (pc := 151) (dK D_Law_same_1 45 rfl) ?_
      refine wx_iadd (pc := 152) (dK D_Law_same_1 46 rfl) ?_
      refine nmE h ?_
      clear h
      intro v49 e_v49 h
      refine wtop e_v49 ?_
      refine bnE h ?_
      clear h
      intro L50 e_L50 h
      refine wx_iast (Z := (S, L)) (pc := 153) (z := v49) e_L50 (inRk rfl) (dK D_Law_same_1 47 rfl) ?_
      refine wx_bipush (pc := 154) (dK D_Law_same_1 48 rfl) rfl ?_
      refine x_iload (pc := 156) (j := 5) (dK D_Law_same_1 49 rfl) rfl ?_
      refine wx_imul (pc := 158) (dK D_Law_same_2 0 rfl) ?_
      refine x_aload (pc := 159) (j := 0) (dK D_Law_same_2 1 rfl) rfl ?_
      refine bnE h ?_
      clear h
      intro v51 e_v51 h
      refine wx_getI (pc := 161) (ci := 11) (f := 5) e_v51 (dK D_Law_same_2 2 rfl) q_889 (ltK rfl) (ltK rfl) ?_
      refine wx_iadd (pc := 164) (dK D_Law_same_2 3 rfl) ?_
      refine nmE h ?_
      clear h
      intro v52 e_v52 h
      refine wtop e_v52 ?_
      refine x_istore (pc := 165) (ls2 := [(4, V v52), (8, .ref r45), (0, .ref 0), (1, .ref c1), (2, V a2), (3, .ref c3), (5, V a5), (6, V a6), (7, V a7)]) (dK D_Law_same_2 4 rfl) (ltK rfl) rfl ?_
      refine x_iload (pc := 167) (j := 6) (dK D_Law_same_2 5 rfl) rfl ?_
      refine x_aload (pc := 169) (j := 1) (dK D_Law_same_2 6 rfl) rfl ?_
      refine bnE h ?_
      clear h
      intro v53 e_v53 h
      refine wx_getI (pc := 171) (ci := 11) (f := 5) e_v53 (dK D_Law_same_2 7 rfl) q_889 (ltK rfl) (ltK rfl) ?_
      refine wx_if_le (pc := 174) (t := 185) (dK D_Law_same_2 8 rfl) rfl (vI_at e_v53).2 (fun hc113 => ?_) (fun hc113 => ?_)
      · replace h := ifP h hc113
        refine wx_iconst (pc := 185) (dK D_Law_same_2 12 rfl) ?_
        refine x_weak (ls' := [(0, .ref 0), (1, .ref c1), (2, V a2), (3, .ref c3), (4, V v52), (6, V a6), (7, V a7), (8, .ref r45)]) (sbc 2 rfl (sbc 3 rfl (sbc 4 rfl (sbc 5 rfl (sbc 0 rfl (sbc 7 rfl (sbc 8 rfl (sbc 1 rfl sbn)))))))) ?_
        exact tj2_Law_same_186_108 ha2 hkt hnt ih (Vn_in e_v52) ha6 ha7 (inRk rfl) ha5 h hb hx hr
      · replace h := ifN h hc113
        refine x_aload (pc := 177) (j := 1) (dK D_Law_same_2 9 rfl) rfl ?_
        refine bnE h ?_
        clear h
        intro v112 e_v112 h
        refine wx_getI (pc := 179) (ci := 11) (f := 3) e_v112 (dK D_Law_same_2 10 rfl) q_882 (ltK rfl) (ltK rfl) ?_
        refine x_goto (pc := 182) (tgt := 186) (dK D_Law_same_2 11 rfl) rfl ?_
        refine x_weak (ls' := [(0, .ref 0), (1, .ref c1), (2, V a2), (3, .ref c3), (4, V v52), (6, V a6), (7, V a7), (8, .ref r45)]) (sbc 2 rfl (sbc 3 rfl (sbc 4 rfl (sbc 5 rfl (sbc 0 rfl (sbc 7 rfl (sbc 8 rfl (sbc 1 rfl sbn)))))))) ?_
        exact tj2_Law_same_186_108 ha2 hkt hnt ih (Vn_in e_v52) ha6 ha7 (vI_at e_v112).2 ha5 h hb hx hr
    · replace h := ifN h hc121
      refine wx_iconst (pc := 147) (dK D_Law_same_1 43 rfl) ?_
      refine x_goto (pc := 148) (tgt := 152) (dK D_Law_same_1 44 rfl) rfl ?_
      refine wx_iadd (pc := 152) (dK D_Law_same_1 46 rfl) ?_
      refine nmE h ?_
      clear h
      intro v114 e_v114 h
      refine wtop e_v114 ?_
      refine bnE h ?_
      clear h
      intro L115 e_L115 h
      refine wx_iast (Z := (S, L)) (pc := 153) (z := v114) e_L115 (inRk rfl) (dK D_Law_same_1 47 rfl) ?_
      refine wx_bipush (pc := 154) (dK D_Law_same_1 48 rfl) rfl ?_
      refine x_iload (pc := 156) (j := 5) (dK D_Law_same_1 49 rfl) rfl ?_
      refine wx_imul (pc := 158) (dK D_Law_same_2 0 rfl) ?_
      refine x_aload (pc := 159) (j := 0) (dK D_Law_same_2 1 rfl) rfl ?_
      refine bnE h ?_
      clear h
      intro v116 e_v116 h
      refine wx_getI (pc := 161) (ci := 11) (f := 5) e_v116 (dK D_Law_same_2 2 rfl) q_889 (ltK rfl) (ltK rfl) ?_
      refine wx_iadd (pc := 164) (dK D_Law_same_2 3 rfl) ?_
      refine nmE h ?_
      clear h
      intro v117 e_v117 h
      refine wtop e_v117 ?_
      refine x_istore (pc := 165) (ls2 := [(4, V v117), (8, .ref r45), (0, .ref 0), (1, .ref c1), (2, V a2), (3, .ref c3), (5, V a5), (6, V a6), (7, V a7)]) (dK D_Law_same_2 4 rfl) (ltK rfl) rfl ?_
      refine x_iload (pc := 167) (j := 6) (dK D_Law_same_2 5 rfl) rfl ?_
      refine x_aload (pc := 169) (j := 1) (dK D_Law_same_2 6 rfl) rfl ?_
      refine bnE h ?_
      clear h
      intro v118 e_v118 h
      refine wx_getI (pc := 171) (ci := 11) (f := 5) e_v118 (dK D_Law_same_2 7 rfl) q_889 (ltK rfl) (ltK rfl) ?_
      refine wx_if_le (pc := 174) (t := 185) (dK D_Law_same_2 8 rfl) rfl (vI_at e_v118).2 (fun hc120 => ?_) (fun hc120 => ?_)
      · replace h := ifP h hc120
        refine wx_iconst (pc := 185) (dK D_Law_same_2 12 rfl) ?_
        refine x_weak (ls' := [(0, .ref 0), (1, .ref c1), (2, V a2), (3, .ref c3), (4, V v117), (6, V a6), (7, V a7), (8, .ref r45)]) (sbc 2 rfl (sbc 3 rfl (sbc 4 rfl (sbc 5 rfl (sbc 0 rfl (sbc 7 rfl (sbc 8 rfl (sbc 1 rfl sbn)))))))) ?_
        exact tj2_Law_same_186_108 ha2 hkt hnt ih (Vn_in e_v117) ha6 ha7 (inRk rfl) ha5 h hb hx hr
      · replace h := ifN h hc120
        refine x_aload (pc := 177) (j := 1) (dK D_Law_same_2 9 rfl) rfl ?_
        refine bnE h ?_
        clear h
        intro v119 e_v119 h
        refine wx_getI (pc := 179) (ci := 11) (f := 3) e_v119 (dK D_Law_same_2 10 rfl) q_882 (ltK rfl) (ltK rfl) ?_
        refine x_goto (pc := 182) (tgt := 186) (dK D_Law_same_2 11 rfl) rfl ?_
        refine x_weak (ls' := [(0, .ref 0), (1, .ref c1), (2, V a2), (3, .ref c3), (4, V v117), (6, V a6), (7, V a7), (8, .ref r45)]) (sbc 2 rfl (sbc 3 rfl (sbc 4 rfl (sbc 5 rfl (sbc 0 rfl (sbc 7 rfl (sbc 8 rfl (sbc 1 rfl sbn)))))))) ?_
        exact tj2_Law_same_186_108 ha2 hkt hnt ih (Vn_in e_v117) ha6 ha7 (vI_at e_v119).2 ha5 h hb hx hr
def lb2_Law_same_498 (c1 : Nat) (a2 : Int) (c3 : Nat) (a4 : Int) (a5 : Int) (a6 : Int) (a7 : Int) (c9 : Nat) (go : Int × LZ → Option (((Bool × LZ) ⊕ (LZ)) × Nat × Nat)) (a10 : Int) (S : St) (L : List PC) : Option (((Bool × LZ) ⊕ (LZ)) × Nat × Nat) := if 7 ≤ a10 then (some (.inr (S, L), 0, 0)) else (bnO (fn_FP_story 0 a7 a10 S) fun p162 => if p162.1 = 0 then (adC 1 6 (bnO (ald L 0 c9 a10) fun v163 => if p162.2 = v163 then (nm (wr (a10 + 1)) fun v164 => go (v164, (S, L))) else (some (.inl (false, (S, L)), 0, 0)))) else none)
def lo2_Law_same_498 (c1 : Nat) (a2 : Int) (c3 : Nat) (a4 : Int) (a5 : Int) (a6 : Int) (a7 : Int) (c9 : Nat) : Nat → Int × LZ → Option (((Bool × LZ) ⊕ (LZ)) × Nat × Nat) := lp fun go p => lb2_Law_same_498 c1 a2 c3 a4 a5 a6 a7 c9 go p.1 p.2.1 p.2.2
theorem tl2_Law_same_498 {sc : SC} {c1 : Nat} {a2 : Int} (ha2 : inR a2) {c3 : Nat} {a4 : Int} (ha4 : inR a4) {a5 : Int} (ha5 : inR a5) {a6 : Int} (ha6 : inR a6) {a7 : Int} (ha7 : inR a7) {c9 : Nat} {K : Option Value → List PC → Prop} {mc ms kt nt : Nat} (hkt : kt ≤ mc) (hnt : nt ≤ ms) : ∀ (N : Nat) (a : Int × LZ) (q : ((Bool × LZ) ⊕ (LZ)) × Nat × Nat), lo2_Law_same_498 c1 a2 c3 a4 a5 a6 a7 c9 N a = some q → ∀ k n, Bd k n kt nt q → inR a.1 → (∀ e, q.1 = .inr e → GX sc M_Law_same mc ms 529 [(0, .ref 0), (1, .ref c1), (2, V a2), (3, .ref c3), (4, V a4), (5, V a5), (6, V a6), (7, V a7)] [] (wz e) kt nt K) → (∀ r, q.1 = .inl r → K (some (V (bi r.1))) (wz r.2)) → GX sc M_Law_same mc ms 498 [(0, .ref 0), (1, .ref c1), (2, V a2), (3, .ref c3), (4, V a4), (5, V a5), (6, V a6), (7, V a7), (9, .ref c9), (10, V a.1)] [] (wz a.2) k n K := by
  refine lp_ind2 (P := fun (a : Int × LZ) (q : ((Bool × LZ) ⊕ (LZ)) × Nat × Nat) => ∀ k n, Bd k n kt nt q → inR a.1 → (∀ e, q.1 = .inr e → GX sc M_Law_same mc ms 529 [(0, .ref 0), (1, .ref c1), (2, V a2), (3, .ref c3), (4, V a4), (5, V a5), (6, V a6), (7, V a7)] [] (wz e) kt nt K) → (∀ r, q.1 = .inl r → K (some (V (bi r.1))) (wz r.2)) → GX sc M_Law_same mc ms 498 [(0, .ref 0), (1, .ref c1), (2, V a2), (3, .ref c3), (4, V a4), (5, V a5), (6, V a6), (7, V a7), (9, .ref c9), (10, V a.1)] [] (wz a.2) k n K) (fun go ih a q h => ?_)
  obtain ⟨a10, ⟨S, L⟩⟩ := a
  intro k n hb ha10 hx hr
  show GX sc M_Law_same mc ms 498 [(0, .ref 0), (1, .ref c1), (2, V a2), (3, .ref c3), (4, V a4), (5, V a5), (6, V a6), (7, V a7), (9, .ref c9), (10, V a10)] [] (wz (S, L)) k n K
  replace h : lb2_Law_same_498 c1 a2 c3 a4 a5 a6 a7 c9 go a10 S L = some q := h
  unfold lb2_Law_same_498 at h
  refine x_iload (pc := 498) (j := 9) (dK D_Law_same_5 34 rfl) rfl ?_
  refine wx_bipush (pc := 500) (dK D_Law_same_5 35 rfl) rfl ?_
  refine wx_icmp_ge (pc := 502) (t := 529) (dK D_Law_same_5 36 rfl) rfl ha10 (inRk rfl) (fun hc166 => ?_) (fun hc166 => ?_)
  · replace h := ifP h hc166
    obtain rfl := Option.some.inj h
    refine x_weak (ls' := [(0, .ref 0), (1, .ref c1), (2, V a2), (3, .ref c3), (4, V a4), (5, V a5), (6, V a6), (7, V a7)]) (sbc 0 rfl (sbc 1 rfl (sbc 2 rfl (sbc 3 rfl (sbc 4 rfl (sbc 5 rfl (sbc 6 rfl (sbc 7 rfl sbn)))))))) ?_
    refine x_room (bdk hb) (bdn hb) ?_
    exact hx (S, L) rfl
  · replace h := ifN h hc166
    refine x_aloadn (pc := 505) (i0 := 0) (j := 0) (dK D_Law_same_5 37 rfl) rfl rfl ?_
    refine x_iload (pc := 506) (j := 7) (dK D_Law_same_5 38 rfl) rfl ?_
    refine x_iload (pc := 508) (j := 9) (dK D_Law_same_5 39 rfl) rfl ?_
    refine bnE h ?_
    clear h
    intro p162 e_p162 h
    refine gdE h ?_
    clear h
    intro hz_p162 h
    obtain ⟨yp162, h9, e9⟩ := adE2 h
    clear h
    subst e9
    have h := h9
    clear h9
    have hk1 := Nat.le_trans (bd1 hb) hkt
    have hn1 := Nat.le_trans (bd2 hb) hnt
    replace hb := bdA hb
    refine x_callX (pc := 510) (As := [V a7, V a10]) (rest := []) (mc' := 1) (ms' := 6) (dK D_Law_same_5 40 rfl) Q_Law_101 sx_FP_story (fitK rfl) (isK_at (Z := (S, L)) (ci := 10) isK0) rfl (leK rfl) hk1 hn1 (clTI hz_p162 (fun E => tf_FP_story (X := xz L) rfl xz_hc ha7 ha10 e_p162)) (kxI' (fun h_p162 => ?_))
    refine x_aload (pc := 513) (j := 8) (dK D_Law_same_5 41 rfl) rfl ?_
    refine x_iload (pc := 515) (j := 9) (dK D_Law_same_5 42 rfl) rfl ?_
    refine bnE h ?_
    clear h
    intro v163 e_v163 h
    refine wx_iald (pc := 517) e_v163 ha10 (dK D_Law_same_5 43 rfl) ?_
    refine wx_icmp_eq (pc := 518) (t := 523) (dK D_Law_same_5 44 rfl) rfl h_p162 (vI_at e_v163).2 (fun hc165 => ?_) (fun hc165 => ?_)
    · replace h := ifP h hc165
      refine nmE h ?_
      clear h
      intro v164 e_v164 h
      refine wx_iinc (pc := 523) (j := 9) (a := a10) (z := 1) (ls2 := [(10, V v164), (0, .ref 0), (1, .ref c1), (2, V a2), (3, .ref c3), (4, V a4), (5, V a5), (6, V a6), (7, V a7), (9, .ref c9)]) (dK D_Law_same_5 47 rfl) rfl e_v164 (ltK rfl) rfl ?_
      refine x_goto (pc := 526) (tgt := 498) (dK D_Law_same_5 48 rfl) rfl ?_
      refine x_weak (ls' := [(0, .ref 0), (1, .ref c1), (2, V a2), (3, .ref c3), (4, V a4), (5, V a5), (6, V a6), (7, V a7), (9, .ref c9), (10, V v164)]) (sbc 1 rfl (sbc 2 rfl (sbc 3 rfl (sbc 4 rfl (sbc 5 rfl (sbc 6 rfl (sbc 7 rfl (sbc 8 rfl (sbc 9 rfl (sbc 0 rfl sbn)))))))))) ?_
      replace h := ih _ _ h
      exact h _ _ hb (Vn_in e_v164) hx hr
    · replace h := ifN h hc165
      refine wx_iconst (pc := 521) (dK D_Law_same_5 45 rfl) ?_
      obtain rfl := Option.some.inj h
      exact wk_iretB (pc := 522) (b := false) (dK D_Law_same_5 46 rfl) rfl (Nat.le_trans (bdk hb) hkt) (Nat.le_trans (bdn hb) hnt) (hr (false, (S, L)) rfl)
def jf2_Law_same_440_354 (c1 : Nat) (a2 : Int) (c3 : Nat) (a5 : Int) (a6 : Int) (go : Int × Int × LZ → Option (((Bool × LZ) ⊕ (Int × LZ)) × Nat × Nat)) (a4 : Int) (a7 : Int) (c8 : Nat) (st0 : Int) (st1 : Int) (ct2 : Nat) (ct3 : Nat) (S : St) (L : List PC) : Option (((Bool × LZ) ⊕ (Int × LZ)) × Nat × Nat) := bnO (ast L 100 ct2 st1 (V st0)) fun L150 => bnO (gfI L150 c8 11 2) fun v151 => bnO (ast L150 100 ct3 2 (V v151)) fun L152 => bnO (gfI L152 c8 11 4) fun v153 => bnO (ast L152 100 ct3 3 (V v153)) fun L154 => bnO (gfI L154 c8 11 5) fun v155 => bnO (gn_Law_told v155 S L154) fun p156 => bnO (ast L154 100 ct3 4 (V p156)) fun L157 => bnO (gfI L157 c8 11 4) fun v158 => bnO (gfI L157 c1 12 2) fun v159 => if v158 ≤ v159 then (bnO (ast L157 100 ct3 5 (V 0)) fun L160 => bnO (ast L160 100 ct3 6 (V (-1))) fun L161 => bnT (lo2_Law_same_498 c1 a2 c3 a4 a5 a6 a7 ct3 FU (0, (S, L161))) (fun r168 => some (.inl (r168.1, (r168.2.1, r168.2.2)), 0, 0)) fun e169 => nm (wr (a7 + 1)) fun v170 => go (a4, v170, (e169.1, e169.2))) else (bnO (ast L157 100 ct3 5 (V 1)) fun L171 => bnO (ast L171 100 ct3 6 (V (-1))) fun L172 => bnT (lo2_Law_same_498 c1 a2 c3 a4 a5 a6 a7 ct3 FU (0, (S, L172))) (fun r174 => some (.inl (r174.1, (r174.2.1, r174.2.2)), 0, 0)) fun e175 => nm (wr (a7 + 1)) fun v176 => go (a4, v176, (e175.1, e175.2)))
theorem tj2_Law_same_440_354 {sc : SC} {c1 : Nat} {a2 : Int} (ha2 : inR a2) {c3 : Nat} {a5 : Int} (ha5 : inR a5) {a6 : Int} (ha6 : inR a6) {K : Option Value → List PC → Prop} {mc ms kt nt : Nat} (hkt : kt ≤ mc) (hnt : nt ≤ ms) {go : Int × Int × LZ → Option (((Bool × LZ) ⊕ (Int × LZ)) × Nat × Nat)} (ih : ∀ (a : Int × Int × LZ) (q : ((Bool × LZ) ⊕ (Int × LZ)) × Nat × Nat), go a = some q → ∀ k n, Bd k n kt nt q → inR a.1 → inR a.2.1 → (∀ e, q.1 = .inr e → inR e.1 → GX sc M_Law_same mc ms 535 [(0, .ref 0), (1, .ref c1), (2, V a2), (3, .ref c3), (4, V e.1), (5, V a5), (6, V a6)] [] (wz e.2) kt nt K) → (∀ r, q.1 = .inl r → K (some (V (bi r.1))) (wz r.2)) → GX sc M_Law_same mc ms 354 [(0, .ref 0), (1, .ref c1), (2, V a2), (3, .ref c3), (4, V a.1), (5, V a5), (6, V a6), (7, V a.2.1)] [] (wz a.2.2) k n K) {a4 : Int} (ha4 : inR a4) {a7 : Int} (ha7 : inR a7) {c8 : Nat} {st0 : Int} (hst0 : inR st0) {st1 : Int} (hst1 : inR st1) {ct2 : Nat} {ct3 : Nat} {S : St} {L : List PC} {q : ((Bool × LZ) ⊕ (Int × LZ)) × Nat × Nat} (h : jf2_Law_same_440_354 c1 a2 c3 a5 a6 go a4 a7 c8 st0 st1 ct2 ct3 S L = some q) {k n : Nat} (hb : Bd k n kt nt q) (hx : (∀ e, q.1 = .inr e → inR e.1 → GX sc M_Law_same mc ms 535 [(0, .ref 0), (1, .ref c1), (2, V a2), (3, .ref c3), (4, V e.1), (5, V a5), (6, V a6)] [] (wz e.2) kt nt K)) (hr : (∀ r, q.1 = .inl r → K (some (V (bi r.1))) (wz r.2))) : GX sc M_Law_same mc ms 440 [(0, .ref 0), (1, .ref c1), (2, V a2), (3, .ref c3), (4, V a4), (5, V a5), (6, V a6), (7, V a7), (8, .ref c8)] [V st0, V st1, .ref ct2, .ref ct3] (wz (S, L)) k n K := by
  unfold jf2_Law_same_440_354 at h
  refine bnE h ?_
  clear h
  intro L150 e_L150 h
  refine wx_iast (Z := (S, L)) (pc := 440) (z := st0) e_L150 hst1 (dK D_Law_same_4 49 rfl) ?_
  refine x_dup (pc := 441) (dK D_Law_same_5 0 rfl) rfl ?_
  refine wx_iconst (pc := 442) (dK D_Law_same_5 1 rfl) ?_
  refine x_aload (pc := 443) (j := 8) (dK D_Law_same_5 2 rfl) rfl ?_
  refine bnE h ?_
  clear h
  intro v151 e_v151 h
  refine wx_getI (pc := 445) (ci := 11) (f := 2) e_v151 (dK D_Law_same_5 3 rfl) q_879 (ltK rfl) (ltK rfl) ?_
  refine bnE h ?_
  clear h
  intro L152 e_L152 h
  refine wx_iast (Z := (S, L150)) (pc := 448) (z := v151) e_L152 (inRk rfl) (dK D_Law_same_5 4 rfl) ?_
  refine x_dup (pc := 449) (dK D_Law_same_5 5 rfl) rfl ?_
  refine wx_iconst (pc := 450) (dK D_Law_same_5 6 rfl) ?_
  refine x_aload (pc := 451) (j := 8) (dK D_Law_same_5 7 rfl) rfl ?_
  refine bnE h ?_
  clear h
  intro v153 e_v153 h
  refine wx_getI (pc := 453) (ci := 11) (f := 4) e_v153 (dK D_Law_same_5 8 rfl) q_885 (ltK rfl) (ltK rfl) ?_
  refine bnE h ?_
  clear h
  intro L154 e_L154 h
  refine wx_iast (Z := (S, L152)) (pc := 456) (z := v153) e_L154 (inRk rfl) (dK D_Law_same_5 9 rfl) ?_
  refine x_dup (pc := 457) (dK D_Law_same_5 10 rfl) rfl ?_
  refine wx_iconst (pc := 458) (dK D_Law_same_5 11 rfl) ?_
  refine x_aload (pc := 459) (j := 8) (dK D_Law_same_5 12 rfl) rfl ?_
  refine bnE h ?_
  clear h
  intro v155 e_v155 h
  refine wx_getI (pc := 461) (ci := 11) (f := 5) e_v155 (dK D_Law_same_5 13 rfl) q_889 (ltK rfl) (ltK rfl) ?_
  refine bnE h ?_
  clear h
  intro p156 e_p156 h
  refine x_callS (pc := 464) (As := [V v155]) (rest := [V 4, .ref ct3, .ref ct3]) (mc' := 0) (ms' := 0) (dK D_Law_same_5 14 rfl) Q_Law_95 (fitK rfl) rfl (leK rfl) (Nat.le_trans (bdk hb) hkt) (Nat.le_trans (bdn hb) hnt) (tg_Law_told (vI_at e_v155).2 e_p156) (kxI' (fun h_p156 => ?_))
  refine bnE h ?_
  clear h
  intro L157 e_L157 h
  refine wx_iast (Z := (S, L154)) (pc := 467) (z := p156) e_L157 (inRk rfl) (dK D_Law_same_5 15 rfl) ?_
  refine x_dup (pc := 468) (dK D_Law_same_5 16 rfl) rfl ?_
  refine wx_iconst (pc := 469) (dK D_Law_same_5 17 rfl) ?_
  refine x_aload (pc := 470) (j := 8) (dK D_Law_same_5 18 rfl) rfl ?_
  refine bnE h ?_
  clear h
  intro v158 e_v158 h
  refine wx_getI (pc := 472) (ci := 11) (f := 4) e_v158 (dK D_Law_same_5 19 rfl) q_885 (ltK rfl) (ltK rfl) ?_
  refine x_aloadn (pc := 475) (i0 := 1) (j := 1) (dK D_Law_same_5 20 rfl) rfl rfl ?_
  refine bnE h ?_
  clear h
  intro v159 e_v159 h
  refine wx_getI (pc := 476) (ci := 12) (f := 2) e_v159 (dK D_Law_same_5 21 rfl) q_772 (ltK rfl) (ltK rfl) ?_
  refine wx_icmp_le (pc := 479) (t := 486) (dK D_Law_same_5 22 rfl) rfl (vI_at e_v158).2 (vI_at e_v159).2 (fun hc177 => ?_) (fun hc177 => ?_)
  · replace h := ifP h hc177
    refine wx_iconst (pc := 486) (dK D_Law_same_5 25 rfl) ?_
    refine bnE h ?_
    clear h
    intro L160 e_L160 h
    refine wx_iast (Z := (S, L157)) (pc := 487) (z := 0) e_L160 (inRk rfl) (dK D_Law_same_5 26 rfl) ?_
    refine x_dup (pc := 488) (dK D_Law_same_5 27 rfl) rfl ?_
    refine wx_bipush (pc := 489) (dK D_Law_same_5 28 rfl) rfl ?_
    refine wx_iconst (pc := 491) (dK D_Law_same_5 29 rfl) ?_
    refine bnE h ?_
    clear h
    intro L161 e_L161 h
    refine wx_iast (Z := (S, L160)) (pc := 492) (z := (-1)) e_L161 (inRk rfl) (dK D_Law_same_5 30 rfl) ?_
    refine x_astore (pc := 493) (ls2 := [(9, .ref ct3), (0, .ref 0), (1, .ref c1), (2, V a2), (3, .ref c3), (4, V a4), (5, V a5), (6, V a6), (7, V a7), (8, .ref c8)]) (dK D_Law_same_5 31 rfl) (ltK rfl) rfl ?_
    refine wx_iconst (pc := 495) (dK D_Law_same_5 32 rfl) ?_
    refine x_istore (pc := 496) (ls2 := [(10, V 0), (9, .ref ct3), (0, .ref 0), (1, .ref c1), (2, V a2), (3, .ref c3), (4, V a4), (5, V a5), (6, V a6), (7, V a7), (8, .ref c8)]) (dK D_Law_same_5 33 rfl) (ltK rfl) rfl ?_
    refine bnTE h ?_ ?_
    · clear h
      intro p167 r168 yp167 e_p167 f_p167 h e9
      subst e9
      have hk1 := Nat.le_trans (bd1 hb) hkt
      have hn1 := Nat.le_trans (bd2 hb) hnt
      replace hb := bdA hb
      refine x_weak (ls' := [(0, .ref 0), (1, .ref c1), (2, V a2), (3, .ref c3), (4, V a4), (5, V a5), (6, V a6), (7, V a7), (9, .ref ct3), (10, V 0)]) (sbc 2 rfl (sbc 3 rfl (sbc 4 rfl (sbc 5 rfl (sbc 6 rfl (sbc 7 rfl (sbc 8 rfl (sbc 9 rfl (sbc 1 rfl (sbc 0 rfl sbn)))))))))) ?_
      refine tl2_Law_same_498 ha2 ha4 ha5 ha6 ha7 hk1 hn1 FU _ _ e_p167 _ _ ⟨Nat.le_refl _, Nat.le_refl _⟩ (inRk rfl) (fun _ g_ => by rw [f_p167] at g_; exact nomatch g_) (fun r_ g_  => ?_)
      obtain rfl := Sum.inl.inj (f_p167.symm.trans g_)
      obtain rfl := Option.some.inj h
      exact hr (r168.1, (r168.2.1, r168.2.2)) rfl
    · clear h
      intro p167 e169 yp167 e_p167 f_p167 h e9
      subst e9
      have hk1 := Nat.le_trans (bd1 hb) hkt
      have hn1 := Nat.le_trans (bd2 hb) hnt
      replace hb := bdA hb
      refine x_weak (ls' := [(0, .ref 0), (1, .ref c1), (2, V a2), (3, .ref c3), (4, V a4), (5, V a5), (6, V a6), (7, V a7), (9, .ref ct3), (10, V 0)]) (sbc 2 rfl (sbc 3 rfl (sbc 4 rfl (sbc 5 rfl (sbc 6 rfl (sbc 7 rfl (sbc 8 rfl (sbc 9 rfl (sbc 1 rfl (sbc 0 rfl sbn)))))))))) ?_
      refine tl2_Law_same_498 ha2 ha4 ha5 ha6 ha7 hk1 hn1 FU _ _ e_p167 _ _ ⟨Nat.le_refl _, Nat.le_refl _⟩ (inRk rfl) (fun e_ g_  => ?_) (fun _ g_ => by rw [f_p167] at g_; exact nomatch g_)
      obtain rfl := Sum.inr.inj (f_p167.symm.trans g_)
      refine nmE h ?_
      clear h
      intro v170 e_v170 h
      refine wx_iinc (pc := 529) (j := 7) (a := a7) (z := 1) (ls2 := [(7, V v170), (0, .ref 0), (1, .ref c1), (2, V a2), (3, .ref c3), (4, V a4), (5, V a5), (6, V a6)]) (dK D_Law_same_5 49 rfl) rfl e_v170 (ltK rfl) rfl ?_
      refine x_goto (pc := 532) (tgt := 354) (dK D_Law_same_6 0 rfl) rfl ?_
      refine x_weak (ls' := [(0, .ref 0), (1, .ref c1), (2, V a2), (3, .ref c3), (4, V a4), (5, V a5), (6, V a6), (7, V v170)]) (sbc 1 rfl (sbc 2 rfl (sbc 3 rfl (sbc 4 rfl (sbc 5 rfl (sbc 6 rfl (sbc 7 rfl (sbc 0 rfl sbn)))))))) ?_
      replace h := ih _ _ h
      exact h _ _ hb ha4 (Vn_in e_v170) hx hr
  · replace h := ifN h hc177
    refine wx_iconst (pc := 482) (dK D_Law_same_5 23 rfl) ?_
    refine x_goto (pc := 483) (tgt := 487) (dK D_Law_same_5 24 rfl) rfl ?_
    refine bnE h ?_
    clear h
    intro L171 e_L171 h
    refine wx_iast (Z := (S, L157)) (pc := 487) (z := 1) e_L171 (inRk rfl) (dK D_Law_same_5 26 rfl) ?_
    refine x_dup (pc := 488) (dK D_Law_same_5 27 rfl) rfl ?_
    refine wx_bipush (pc := 489) (dK D_Law_same_5 28 rfl) rfl ?_
    refine wx_iconst (pc := 491) (dK D_Law_same_5 29 rfl) ?_
    refine bnE h ?_
    clear h
    intro L172 e_L172 h
    refine wx_iast (Z := (S, L171)) (pc := 492) (z := (-1)) e_L172 (inRk rfl) (dK D_Law_same_5 30 rfl) ?_
    refine x_astore (pc := 493) (ls2 := [(9, .ref ct3), (0, .ref 0), (1, .ref c1), (2, V a2), (3, .ref c3), (4, V a4), (5, V a5), (6, V a6), (7, V a7), (8, .ref c8)]) (dK D_Law_same_5 31 rfl) (ltK rfl) rfl ?_
    refine wx_iconst (pc := 495) (dK D_Law_same_5 32 rfl) ?_
    refine x_istore (pc := 496) (ls2 := [(10, V 0), (9, .ref ct3), (0, .ref 0), (1, .ref c1), (2, V a2), (3, .ref c3), (4, V a4), (5, V a5), (6, V a6), (7, V a7), (8, .ref c8)]) (dK D_Law_same_5 33 rfl) (ltK rfl) rfl ?_
    refine bnTE h ?_ ?_
    · clear h
      intro p173 r174 yp173 e_p173 f_p173 h e9
      subst e9
      have hk1 := Nat.le_trans (bd1 hb) hkt
      have hn1 := Nat.le_trans (bd2 hb) hnt
      replace hb := bdA hb
      refine x_weak (ls' := [(0, .ref 0), (1, .ref c1), (2, V a2), (3, .ref c3), (4, V a4), (5, V a5), (6, V a6), (7, V a7), (9, .ref ct3), (10, V 0)]) (sbc 2 rfl (sbc 3 rfl (sbc 4 rfl (sbc 5 rfl (sbc 6 rfl (sbc 7 rfl (sbc 8 rfl (sbc 9 rfl (sbc 1 rfl (sbc 0 rfl sbn)))))))))) ?_
      refine tl2_Law_same_498 ha2 ha4 ha5 ha6 ha7 hk1 hn1 FU _ _ e_p173 _ _ ⟨Nat.le_refl _, Nat.le_refl _⟩ (inRk rfl) (fun _ g_ => by rw [f_p173] at g_; exact nomatch g_) (fun r_ g_  => ?_)
      obtain rfl := Sum.inl.inj (f_p173.symm.trans g_)
      obtain rfl := Option.some.inj h
      exact hr (r174.1, (r174.2.1, r174.2.2)) rfl
    · clear h
      intro p173 e175 yp173 e_p173 f_p173 h e9
      subst e9
      have hk1 := Nat.le_trans (bd1 hb) hkt
      have hn1 := Nat.le_trans (bd2 hb) hnt
      replace hb := bdA hb
      refine x_weak (ls' := [(0, .ref 0), (1, .ref c1), (2, V a2), (3, .ref c3), (4, V a4), (5, V a5), (6, V a6), (7, V a7), (9, .ref ct3), (10, V 0)]) (sbc 2 rfl (sbc 3 rfl (sbc 4 rfl (sbc 5 rfl (sbc 6 rfl (sbc 7 rfl (sbc 8 rfl (sbc 9 rfl (sbc 1 rfl (sbc 0 rfl sbn)))))))))) ?_
      refine tl2_Law_same_498 ha2 ha4 ha5 ha6 ha7 hk1 hn1 FU _ _ e_p173 _ _ ⟨Nat.le_refl _, Nat.le_refl _⟩ (inRk rfl) (fun e_ g_  => ?_) (fun _ g_ => by rw [f_p173] at g_; exact nomatch g_)
      obtain rfl := Sum.inr.inj (f_p173.symm.trans g_)
      refine nmE h ?_
      clear h
      intro v176 e_v176 h
      refine wx_iinc (pc := 529) (j := 7) (a := a7) (z := 1) (ls2 := [(7, V v176), (0, .ref 0), (1, .ref c1), (2, V a2), (3, .ref c3), (4, V a4), (5, V a5), (6, V a6)]) (dK D_Law_same_5 49 rfl) rfl e_v176 (ltK rfl) rfl ?_
      refine x_goto (pc := 532) (tgt := 354) (dK D_Law_same_6 0 rfl) rfl ?_
      refine x_weak (ls' := [(0, .ref 0), (1, .ref c1), (2, V a2), (3, .ref c3), (4, V a4), (5, V a5), (6, V a6), (7, V v176)]) (sbc 1 rfl (sbc 2 rfl (sbc 3 rfl (sbc 4 rfl (sbc 5 rfl (sbc 6 rfl (sbc 7 rfl (sbc 0 rfl sbn)))))))) ?_
      replace h := ih _ _ h
      exact h _ _ hb ha4 (Vn_in e_v176) hx hr
def lb2_Law_same_354 (c1 : Nat) (a2 : Int) (c3 : Nat) (a5 : Int) (a6 : Int) (go : Int × Int × LZ → Option (((Bool × LZ) ⊕ (Int × LZ)) × Nat × Nat)) (a4 : Int) (a7 : Int) (S : St) (L : List PC) : Option (((Bool × LZ) ⊕ (Int × LZ)) × Nat × Nat) := bnO (gfV L c1 12 5) fun v126 => rfB v126 fun r127 => if isK L r127 13 = true then (bnO (gn_AL_size r127 S L) fun p128 => if p128 ≤ a7 then (some (.inr (a4, (S, L)), 0, 0)) else (bnO (gfV L c1 12 5) fun v130 => rfB v130 fun r131 => if isK L r131 13 = true then (bnO (gn_AL_get r131 a7 S L) fun p132 => rfB p132 fun r134 => if isK L r134 11 = true then (bnO (ald L 0 c3 8) fun v136 => bnO (gfI L r134 11 5) fun v137 => if v137 ≤ 0 then (nm (wr (v136 + 0)) fun v138 => bnO (ast L 100 c3 8 (V v138)) fun L139 => bnO (gfI L139 r134 11 5) fun v140 => nm (wr ((31 * a4) + v140)) fun v141 => if (0 : Int) ≤ 7 ∧ (7 : Int) ≤ 16384 then (if L139.length < 900000000 then adC 1 (7 : Int).toNat (nw L139 (100, List.replicate (7 : Int).toNat (.int 0)) fun r145 L146 => bnO (gfI L146 r134 11 0) fun v147 => bnO (ast L146 100 r145 0 (V v147)) fun L148 => bnO (gfI L148 r134 11 6) fun v149 => if v149 = 0 then (jf2_Law_same_440_354 c1 a2 c3 a5 a6 go v141 a7 r134 0 1 r145 r145 S L148) else (jf2_Law_same_440_354 c1 a2 c3 a5 a6 go v141 a7 r134 1 1 r145 r145 S L148)) else none) else none) else (nm (wr (v136 + 1)) fun v179 => bnO (ast L 100 c3 8 (V v179)) fun L180 => bnO (gfI L180 r134 11 5) fun v181 => nm (wr ((31 * a4) + v181)) fun v182 => if (0 : Int) ≤ 7 ∧ (7 : Int) ≤ 16384 then (if L180.length < 900000000 then adC 1 (7 : Int).toNat (nw L180 (100, List.replicate (7 : Int).toNat (.int 0)) fun r186 L187 => bnO (gfI L187 r134 11 0) fun v188 => bnO (ast L187 100 r186 0 (V v188)) fun L189 => bnO (gfI L189 r134 11 6) fun v190 => if v190 = 0 then (jf2_Law_same_440_354 c1 a2 c3 a5 a6 go v182 a7 r134 0 1 r186 r186 S L189) else (jf2_Law_same_440_354 c1 a2 c3 a5 a6 go v182 a7 r134 1 1 r186 r186 S L189)) else none) else none)) else none) else none)) else none
def lo2_Law_same_354 (c1 : Nat) (a2 : Int) (c3 : Nat) (a5 : Int) (a6 : Int) : Nat → Int × Int × LZ → Option (((Bool × LZ) ⊕ (Int × LZ)) × Nat × Nat) := lp fun go p => lb2_Law_same_354 c1 a2 c3 a5 a6 go p.1 p.2.1 p.2.2.1 p.2.2.2
theorem tl2_Law_same_354 {sc : SC} {c1 : Nat} {a2 : Int} (ha2 : inR a2) {c3 : Nat} {a5 : Int} (ha5 : inR a5) {a6 : Int} (ha6 : inR a6) {K : Option Value → List PC → Prop} {mc ms kt nt : Nat} (hkt : kt ≤ mc) (hnt : nt ≤ ms) : ∀ (N : Nat) (a : Int × Int × LZ) (q : ((Bool × LZ) ⊕ (Int × LZ)) × Nat × Nat), lo2_Law_same_354 c1 a2 c3 a5 a6 N a = some q → ∀ k n, Bd k n kt nt q → inR a.1 → inR a.2.1 → (∀ e, q.1 = .inr e → inR e.1 → GX sc M_Law_same mc ms 535 [(0, .ref 0), (1, .ref c1), (2, V a2), (3, .ref c3), (4, V e.1), (5, V a5), (6, V a6)] [] (wz e.2) kt nt K) → (∀ r, q.1 = .inl r → K (some (V (bi r.1))) (wz r.2)) → GX sc M_Law_same mc ms 354 [(0, .ref 0), (1, .ref c1), (2, V a2), (3, .ref c3), (4, V a.1), (5, V a5), (6, V a6), (7, V a.2.1)] [] (wz a.2.2) k n K := by
  refine lp_ind2 (P := fun (a : Int × Int × LZ) (q : ((Bool × LZ) ⊕ (Int × LZ)) × Nat × Nat) => ∀ k n, Bd k n kt nt q → inR a.1 → inR a.2.1 → (∀ e, q.1 = .inr e → inR e.1 → GX sc M_Law_same mc ms 535 [(0, .ref 0), (1, .ref c1), (2, V a2), (3, .ref c3), (4, V e.1), (5, V a5), (6, V a6)] [] (wz e.2) kt nt K) → (∀ r, q.1 = .inl r → K (some (V (bi r.1))) (wz r.2)) → GX sc M_Law_same mc ms 354 [(0, .ref 0), (1, .ref c1), (2, V a2), (3, .ref c3), (4, V a.1), (5, V a5), (6, V a6), (7, V a.2.1)] [] (wz a.2.2) k n K) (fun go ih a q h => ?_)
  obtain ⟨a4, a7, ⟨S, L⟩⟩ := a
  intro k n hb ha4 ha7 hx hr
  show GX sc M_Law_same mc ms 354 [(0, .ref 0), (1, .ref c1), (2, V a2), (3, .ref c3), (4, V a4), (5, V a5), (6, V a6), (7, V a7)] [] (wz (S, L)) k n K
  replace h : lb2_Law_same_354 c1 a2 c3 a5 a6 go a4 a7 S L = some q := h
  unfold lb2_Law_same_354 at h
  refine x_iload (pc := 354) (j := 7) (dK D_Law_same_4 4 rfl) rfl ?_
  refine x_aloadn (pc := 356) (i0 := 1) (j := 1) (dK D_Law_same_4 5 rfl) rfl rfl ?_
  refine bnE h ?_
  clear h
  intro v126 e_v126 h
  refine wx_getV (pc := 357) (ci := 12) (f := 5) e_v126 (dK D_Law_same_4 6 rfl) q_778 (ltK rfl) (ltK rfl) (fun hv126 => ?_)
  refine rfE h ?_
  clear h
  intro r127 e_r127 h
  rw [e_r127]
  refine gdE h ?_
  clear h
  intro hk129 h
  refine bnE h ?_
  clear h
  intro p128 e_p128 h
  refine x_callX (pc := 360) (As := []) (rest := [V a7]) (mc' := 0) (ms' := 0) (dK D_Law_same_4 7 rfl) Q_Law_55 sx_AL_size (fitK rfl) (isK_at (Z := (S, L)) (ci := 13) hk129) rfl (leK rfl) (Nat.le_trans (bdk hb) hkt) (Nat.le_trans (bdn hb) hnt) (tg_AL_size  e_p128) (kxI' (fun h_p128 => ?_))
  refine wx_icmp_ge (pc := 363) (t := 535) (dK D_Law_same_4 8 rfl) rfl ha7 h_p128 (fun hc193 => ?_) (fun hc193 => ?_)
  · replace h := ifP h hc193
    obtain rfl := Option.some.inj h
    refine x_weak (ls' := [(0, .ref 0), (1, .ref c1), (2, V a2), (3, .ref c3), (4, V a4), (5, V a5), (6, V a6)]) (sbc 0 rfl (sbc 1 rfl (sbc 2 rfl (sbc 3 rfl (sbc 4 rfl (sbc 5 rfl (sbc 6 rfl sbn))))))) ?_
    refine x_room (bdk hb) (bdn hb) ?_
    exact hx (a4, (S, L)) rfl ha4
  · replace h := ifN h hc193
    refine x_aloadn (pc := 366) (i0 := 1) (j := 1) (dK D_Law_same_4 9 rfl) rfl rfl ?_
    refine bnE h ?_
    clear h
    intro v130 e_v130 h
    refine wx_getV (pc := 367) (ci := 12) (f := 5) e_v130 (dK D_Law_same_4 10 rfl) q_778 (ltK rfl) (ltK rfl) (fun hv130 => ?_)
    refine x_iload (pc := 370) (j := 7) (dK D_Law_same_4 11 rfl) rfl ?_
    refine rfE h ?_
    clear h
    intro r131 e_r131 h
    rw [e_r131]
    refine gdE h ?_
    clear h
    intro hk133 h
    refine bnE h ?_
    clear h
    intro p132 e_p132 h
    refine x_callX (pc := 372) (As := [V a7]) (rest := []) (mc' := 0) (ms' := 0) (dK D_Law_same_4 12 rfl) Q_Law_69 sx_AL_get (fitK rfl) (isK_at (Z := (S, L)) (ci := 13) hk133) rfl (leK rfl) (Nat.le_trans (bdk hb) hkt) (Nat.le_trans (bdn hb) hnt) (tg_AL_get ha7 e_p132) (kxR (fun h_p132 => ?_))
    refine rfE h ?_
    clear h
    intro r134 e_r134 h
    rw [e_r134]
    refine gdE h ?_
    clear h
    intro hk135 h
    refine x_cast (pc := 375) (dK D_Law_same_4 13 rfl) q_1033 (isK_at (Z := (S, L)) (ci := 11) hk135) ?_
    refine x_astore (pc := 378) (ls2 := [(8, .ref r134), (0, .ref 0), (1, .ref c1), (2, V a2), (3, .ref c3), (4, V a4), (5, V a5), (6, V a6), (7, V a7)]) (dK D_Law_same_4 14 rfl) (ltK rfl) rfl ?_
    refine x_aloadn (pc := 380) (i0 := 3) (j := 4) (dK D_Law_same_4 15 rfl) rfl rfl ?_
    refine wx_bipush (pc := 381) (dK D_Law_same_4 16 rfl) rfl ?_
    refine x_dup2 (pc := 383) (dK D_Law_same_4 17 rfl) rfl rfl ?_
    refine bnE h ?_
    clear h
    intro v136 e_v136 h
    refine wx_iald (pc := 384) e_v136 (inRk rfl) (dK D_Law_same_4 18 rfl) ?_
    refine x_aload (pc := 385) (j := 0) (dK D_Law_same_4 19 rfl) rfl ?_
    refine bnE h ?_
    clear h
    intro v137 e_v137 h
    refine wx_getI (pc := 387) (ci := 11) (f := 5) e_v137 (dK D_Law_same_4 20 rfl) q_889 (ltK rfl) (ltK rfl) ?_
    refine wx_if_le (pc := 390) (t := 397) (dK D_Law_same_4 21 rfl) rfl (vI_at e_v137).2 (fun hc192 => ?_) (fun hc192 => ?_)
    · replace h := ifP h hc192
      refine wx_iconst (pc := 397) (dK D_Law_same_4 24 rfl) ?_
      refine wx_iadd (pc := 398) (dK D_Law_same_4 25 rfl) ?_
      refine nmE h ?_
      clear h
      intro v138 e_v138 h
      refine wtop e_v138 ?_
      refine bnE h ?_
      clear h
      intro L139 e_L139 h
      refine wx_iast (Z := (S, L)) (pc := 399) (z := v138) e_L139 (inRk rfl) (dK D_Law_same_4 26 rfl) ?_
      refine wx_bipush (pc := 400) (dK D_Law_same_4 27 rfl) rfl ?_
      refine x_iload (pc := 402) (j := 5) (dK D_Law_same_4 28 rfl) rfl ?_
      refine wx_imul (pc := 404) (dK D_Law_same_4 29 rfl) ?_
      refine x_aload (pc := 405) (j := 0) (dK D_Law_same_4 30 rfl) rfl ?_
      refine bnE h ?_
      clear h
      intro v140 e_v140 h
      refine wx_getI (pc := 407) (ci := 11) (f := 5) e_v140 (dK D_Law_same_4 31 rfl) q_889 (ltK rfl) (ltK rfl) ?_
      refine wx_iadd (pc := 410) (dK D_Law_same_4 32 rfl) ?_
      refine nmE h ?_
      clear h
      intro v141 e_v141 h
      refine wtop e_v141 ?_
      refine x_istore (pc := 411) (ls2 := [(4, V v141), (8, .ref r134), (0, .ref 0), (1, .ref c1), (2, V a2), (3, .ref c3), (5, V a5), (6, V a6), (7, V a7)]) (dK D_Law_same_4 33 rfl) (ltK rfl) rfl ?_
      refine wx_bipush (pc := 413) (dK D_Law_same_4 34 rfl) rfl ?_
      refine gdE h ?_
      clear h
      intro hz142 h
      refine gdE h ?_
      clear h
      intro hl143 h
      obtain ⟨y144, h9, e9⟩ := adE2 h
      clear h
      subst e9
      have h := h9
      clear h9
      refine nwE h ?_
      clear h
      intro r145 L146 e_r145 e_L146 h
      have hk1 := Nat.le_trans (bd1 hb) hkt
      have hn1 := Nat.le_trans (bd2 hb) hnt
      replace hb := bdA hb
      refine wn_newa_int (Z := (S, L139)) (pc := 415) e_r145 e_L146 hl143 (inRk rfl) hz142 (dK D_Law_same_4 35 rfl) q_68 hk1 hn1 ?_
      refine x_dup (pc := 417) (dK D_Law_same_4 36 rfl) rfl ?_
      refine wx_iconst (pc := 418) (dK D_Law_same_4 37 rfl) ?_
      refine x_aload (pc := 419) (j := 1) (dK D_Law_same_4 38 rfl) rfl ?_
      refine bnE h ?_
      clear h
      intro v147 e_v147 h
      refine wx_getI (pc := 421) (ci := 11) (f := 0) e_v147 (dK D_Law_same_4 39 rfl) q_874 (ltK rfl) (ltK rfl) ?_
      refine bnE h ?_
      clear h
      intro L148 e_L148 h
      refine wx_iast (Z := (S, L146)) (pc := 424) (z := v147) e_L148 (inRk rfl) (dK D_Law_same_4 40 rfl) ?_
      refine x_dup (pc := 425) (dK D_Law_same_4 41 rfl) rfl ?_
      refine wx_iconst (pc := 426) (dK D_Law_same_4 42 rfl) ?_
      refine x_aload (pc := 427) (j := 1) (dK D_Law_same_4 43 rfl) rfl ?_
      refine bnE h ?_
      clear h
      intro v149 e_v149 h
      refine wx_getI (pc := 429) (ci := 11) (f := 6) e_v149 (dK D_Law_same_4 44 rfl) q_891 (ltK rfl) (ltK rfl) ?_
      refine wx_if_eq (pc := 432) (t := 439) (dK D_Law_same_4 45 rfl) rfl (vI_at e_v149).2 (fun hc178 => ?_) (fun hc178 => ?_)
      · replace h := ifP h hc178
        refine wx_iconst (pc := 439) (dK D_Law_same_4 48 rfl) ?_
        refine x_weak (ls' := [(0, .ref 0), (1, .ref c1), (2, V a2), (3, .ref c3), (4, V v141), (5, V a5), (6, V a6), (7, V a7), (8, .ref r134)]) (sbc 2 rfl (sbc 3 rfl (sbc 4 rfl (sbc 5 rfl (sbc 0 rfl (sbc 6 rfl (sbc 7 rfl (sbc 8 rfl (sbc 1 rfl sbn))))))))) ?_
        exact tj2_Law_same_440_354 ha2 ha5 ha6 hkt hnt ih (Vn_in e_v141) ha7 (inRk rfl) (inRk rfl) h hb hx hr
      · replace h := ifN h hc178
        refine wx_iconst (pc := 435) (dK D_Law_same_4 46 rfl) ?_
        refine x_goto (pc := 436) (tgt := 440) (dK D_Law_same_4 47 rfl) rfl ?_
        refine x_weak (ls' := [(0, .ref 0), (1, .ref c1), (2, V a2), (3, .ref c3), (4, V v141), (5, V a5), (6, V a6), (7, V a7), (8, .ref r134)]) (sbc 2 rfl (sbc 3 rfl (sbc 4 rfl (sbc 5 rfl (sbc 0 rfl (sbc 6 rfl (sbc 7 rfl (sbc 8 rfl (sbc 1 rfl sbn))))))))) ?_
        exact tj2_Law_same_440_354 ha2 ha5 ha6 hkt hnt ih (Vn_in e_v141) ha7 (inRk rfl) (inRk rfl) h hb hx hr
    · replace h := ifN h hc192
      refine wx_iconst (pc := 393) (dK D_Law_same_4 22 rfl) ?_
      refine x_goto (pc := 394) (tgt := 398) (dK D_Law_same_4 23 rfl) rfl ?_
      refine wx_iadd (pc := 398) (dK D_Law_same_4 25 rfl) ?_
      refine nmE h ?_
      clear h
      intro v179 e_v179 h
      refine wtop e_v179 ?_
      refine bnE h ?_
      clear h
      intro L180 e_L180 h
      refine wx_iast (Z := (S, L)) (pc := 399) (z := v179) e_L180 (inRk rfl) (dK D_Law_same_4 26 rfl) ?_
      refine wx_bipush (pc := 400) (dK D_Law_same_4 27 rfl) rfl ?_
      refine x_iload (pc := 402) (j := 5) (dK D_Law_same_4 28 rfl) rfl ?_
      refine wx_imul (pc := 404) (dK D_Law_same_4 29 rfl) ?_
      refine x_aload (pc := 405) (j := 0) (dK D_Law_same_4 30 rfl) rfl ?_
      refine bnE h ?_
      clear h
      intro v181 e_v181 h
      refine wx_getI (pc := 407) (ci := 11) (f := 5) e_v181 (dK D_Law_same_4 31 rfl) q_889 (ltK rfl) (ltK rfl) ?_
      refine wx_iadd (pc := 410) (dK D_Law_same_4 32 rfl) ?_
      refine nmE h ?_
      clear h
      intro v182 e_v182 h
      refine wtop e_v182 ?_
      refine x_istore (pc := 411) (ls2 := [(4, V v182), (8, .ref r134), (0, .ref 0), (1, .ref c1), (2, V a2), (3, .ref c3), (5, V a5), (6, V a6), (7, V a7)]) (dK D_Law_same_4 33 rfl) (ltK rfl) rfl ?_
      refine wx_bipush (pc := 413) (dK D_Law_same_4 34 rfl) rfl ?_
      refine gdE h ?_
      clear h
      intro hz183 h
      refine gdE h ?_
      clear h
      intro hl184 h
      obtain ⟨y185, h9, e9⟩ := adE2 h
      clear h
      subst e9
      have h := h9
      clear h9
      refine nwE h ?_
      clear h
      intro r186 L187 e_r186 e_L187 h
      have hk1 := Nat.le_trans (bd1 hb) hkt
      have hn1 := Nat.le_trans (bd2 hb) hnt
      replace hb := bdA hb
      refine wn_newa_int (Z := (S, L180)) (pc := 415) e_r186 e_L187 hl184 (inRk rfl) hz183 (dK D_Law_same_4 35 rfl) q_68 hk1 hn1 ?_
      refine x_dup (pc := 417) (dK D_Law_same_4 36 rfl) rfl ?_
      refine wx_iconst (pc := 418) (dK D_Law_same_4 37 rfl) ?_
      refine x_aload (pc := 419) (j := 1) (dK D_Law_same_4 38 rfl) rfl ?_
      refine bnE h ?_
      clear h
      intro v188 e_v188 h
      refine wx_getI (pc := 421) (ci := 11) (f := 0) e_v188 (dK D_Law_same_4 39 rfl) q_874 (ltK rfl) (ltK rfl) ?_
      refine bnE h ?_
      clear h
      intro L189 e_L189 h
      refine wx_iast (Z := (S, L187)) (pc := 424) (z := v188) e_L189 (inRk rfl) (dK D_Law_same_4 40 rfl) ?_
      refine x_dup (pc := 425) (dK D_Law_same_4 41 rfl) rfl ?_
      refine wx_iconst (pc := 426) (dK D_Law_same_4 42 rfl) ?_
      refine x_aload (pc := 427) (j := 1) (dK D_Law_same_4 43 rfl) rfl ?_
      refine bnE h ?_
      clear h
      intro v190 e_v190 h
      refine wx_getI (pc := 429) (ci := 11) (f := 6) e_v190 (dK D_Law_same_4 44 rfl) q_891 (ltK rfl) (ltK rfl) ?_
      refine wx_if_eq (pc := 432) (t := 439) (dK D_Law_same_4 45 rfl) rfl (vI_at e_v190).2 (fun hc191 => ?_) (fun hc191 => ?_)
      · replace h := ifP h hc191
        refine wx_iconst (pc := 439) (dK D_Law_same_4 48 rfl) ?_
        refine x_weak (ls' := [(0, .ref 0), (1, .ref c1), (2, V a2), (3, .ref c3), (4, V v182), (5, V a5), (6, V a6), (7, V a7), (8, .ref r134)]) (sbc 2 rfl (sbc 3 rfl (sbc 4 rfl (sbc 5 rfl (sbc 0 rfl (sbc 6 rfl (sbc 7 rfl (sbc 8 rfl (sbc 1 rfl sbn))))))))) ?_
        exact tj2_Law_same_440_354 ha2 ha5 ha6 hkt hnt ih (Vn_in e_v182) ha7 (inRk rfl) (inRk rfl) h hb hx hr
      · replace h := ifN h hc191
        refine wx_iconst (pc := 435) (dK D_Law_same_4 46 rfl) ?_
        refine x_goto (pc := 436) (tgt := 440) (dK D_Law_same_4 47 rfl) rfl ?_
        refine x_weak (ls' := [(0, .ref 0), (1, .ref c1), (2, V a2), (3, .ref c3), (4, V v182), (5, V a5), (6, V a6), (7, V a7), (8, .ref r134)]) (sbc 2 rfl (sbc 3 rfl (sbc 4 rfl (sbc 5 rfl (sbc 0 rfl (sbc 6 rfl (sbc 7 rfl (sbc 8 rfl (sbc 1 rfl sbn))))))))) ?_
        exact tj2_Law_same_440_354 ha2 ha5 ha6 hkt hnt ih (Vn_in e_v182) ha7 (inRk rfl) (inRk rfl) h hb hx hr
def jf2_Law_same_582_538 (c1 : Nat) (a2 : Int) (c3 : Nat) (a5 : Int) (a6 : Int) (go : Int × Int × LZ → Option (((Bool × LZ) ⊕ (Int × LZ)) × Nat × Nat)) (a4 : Int) (a7 : Int) (c8 : Nat) (st0 : Int) (st1 : Int) (st2 : Int) (ct3 : Nat) (S : St) (L : List PC) : Option (((Bool × LZ) ⊕ (Int × LZ)) × Nat × Nat) := nm (wr (st1 + st0)) fun v209 => bnO (ast L 100 ct3 st2 (V v209)) fun L210 => bnO (gfI L210 c8 11 5) fun v211 => nm (wr ((31 * a4) + v211)) fun v212 => bnO (fn_FP_standby 0 a7 0 S) fun p213 => if p213.1 = 0 then (adC 1 6 (bnO (gfI L210 c8 11 0) fun v214 => if p213.2 = v214 then (bnO (fn_FP_standby 0 a7 1 S) fun p215 => if p215.1 = 0 then (adC 1 6 (bnO (gfI L210 c8 11 5) fun v216 => bnO (gn_Law_told v216 S L210) fun p217 => if p215.2 = p217 then (bnO (fn_FP_standby 0 a7 2 S) fun p218 => if p218.1 = 0 then (adC 1 6 (if p218.2 = (-1) then (nm (wr (a7 + 1)) fun v219 => go (v212, v219, (S, L210))) else (some (.inl (false, (S, L210)), 0, 0)))) else none) else (some (.inl (false, (S, L210)), 0, 0)))) else none) else (some (.inl (false, (S, L210)), 0, 0)))) else none
theorem tj2_Law_same_582_538 {sc : SC} {c1 : Nat} {a2 : Int} (ha2 : inR a2) {c3 : Nat} {a5 : Int} (ha5 : inR a5) {a6 : Int} (ha6 : inR a6) {K : Option Value → List PC → Prop} {mc ms kt nt : Nat} (hkt : kt ≤ mc) (hnt : nt ≤ ms) {go : Int × Int × LZ → Option (((Bool × LZ) ⊕ (Int × LZ)) × Nat × Nat)} (ih : ∀ (a : Int × Int × LZ) (q : ((Bool × LZ) ⊕ (Int × LZ)) × Nat × Nat), go a = some q → ∀ k n, Bd k n kt nt q → inR a.1 → inR a.2.1 → (∀ e, q.1 = .inr e → inR e.1 → GX sc M_Law_same mc ms 649 [(0, .ref 0), (1, .ref c1), (2, V a2), (3, .ref c3), (4, V e.1), (5, V a5), (6, V a6)] [] (wz e.2) kt nt K) → (∀ r, q.1 = .inl r → K (some (V (bi r.1))) (wz r.2)) → GX sc M_Law_same mc ms 538 [(0, .ref 0), (1, .ref c1), (2, V a2), (3, .ref c3), (4, V a.1), (5, V a5), (6, V a6), (7, V a.2.1)] [] (wz a.2.2) k n K) {a4 : Int} (ha4 : inR a4) {a7 : Int} (ha7 : inR a7) {c8 : Nat} {st0 : Int} (hst0 : inR st0) {st1 : Int} (hst1 : inR st1) {st2 : Int} (hst2 : inR st2) {ct3 : Nat} {S : St} {L : List PC} {q : ((Bool × LZ) ⊕ (Int × LZ)) × Nat × Nat} (h : jf2_Law_same_582_538 c1 a2 c3 a5 a6 go a4 a7 c8 st0 st1 st2 ct3 S L = some q) {k n : Nat} (hb : Bd k n kt nt q) (hx : (∀ e, q.1 = .inr e → inR e.1 → GX sc M_Law_same mc ms 649 [(0, .ref 0), (1, .ref c1), (2, V a2), (3, .ref c3), (4, V e.1), (5, V a5), (6, V a6)] [] (wz e.2) kt nt K)) (hr : (∀ r, q.1 = .inl r → K (some (V (bi r.1))) (wz r.2))) : GX sc M_Law_same mc ms 582 [(0, .ref 0), (1, .ref c1), (2, V a2), (3, .ref c3), (4, V a4), (5, V a5), (6, V a6), (7, V a7), (8, .ref c8)] [V st0, V st1, V st2, .ref ct3] (wz (S, L)) k n K := by
  unfold jf2_Law_same_582_538 at h
  refine wx_iadd (pc := 582) (dK D_Law_same_6 24 rfl) ?_
  refine nmE h ?_
  clear h
  intro v209 e_v209 h
  refine wtop e_v209 ?_
  refine bnE h ?_
  clear h
  intro L210 e_L210 h
  refine wx_iast (Z := (S, L)) (pc := 583) (z := v209) e_L210 hst2 (dK D_Law_same_6 25 rfl) ?_
  refine wx_bipush (pc := 584) (dK D_Law_same_6 26 rfl) rfl ?_
  refine x_iload (pc := 586) (j := 4) (dK D_Law_same_6 27 rfl) rfl ?_
  refine wx_imul (pc := 588) (dK D_Law_same_6 28 rfl) ?_
  refine x_aload (pc := 589) (j := 8) (dK D_Law_same_6 29 rfl) rfl ?_
  refine bnE h ?_
  clear h
  intro v211 e_v211 h
  refine wx_getI (pc := 591) (ci := 11) (f := 5) e_v211 (dK D_Law_same_6 30 rfl) q_889 (ltK rfl) (ltK rfl) ?_
  refine wx_iadd (pc := 594) (dK D_Law_same_6 31 rfl) ?_
  refine nmE h ?_
  clear h
  intro v212 e_v212 h
  refine wtop e_v212 ?_
  refine x_istore (pc := 595) (ls2 := [(4, V v212), (0, .ref 0), (1, .ref c1), (2, V a2), (3, .ref c3), (5, V a5), (6, V a6), (7, V a7), (8, .ref c8)]) (dK D_Law_same_6 32 rfl) (ltK rfl) rfl ?_
  refine x_aloadn (pc := 597) (i0 := 0) (j := 1) (dK D_Law_same_6 33 rfl) rfl rfl ?_
  refine x_iload (pc := 598) (j := 7) (dK D_Law_same_6 34 rfl) rfl ?_
  refine wx_iconst (pc := 600) (dK D_Law_same_6 35 rfl) ?_
  refine bnE h ?_
  clear h
  intro p213 e_p213 h
  refine gdE h ?_
  clear h
  intro hz_p213 h
  obtain ⟨yp213, h9, e9⟩ := adE2 h
  clear h
  subst e9
  have h := h9
  clear h9
  have hk1 := Nat.le_trans (bd1 hb) hkt
  have hn1 := Nat.le_trans (bd2 hb) hnt
  replace hb := bdA hb
  refine x_callX (pc := 601) (As := [V a7, V 0]) (rest := []) (mc' := 1) (ms' := 6) (dK D_Law_same_6 36 rfl) Q_Law_104 sx_FP_standby (fitK rfl) (isK_at (Z := (S, L210)) (ci := 10) isK0) rfl (leK rfl) hk1 hn1 (clTI hz_p213 (fun E => tf_FP_standby (X := xz L210) rfl xz_hc ha7 (inRk rfl) e_p213)) (kxI' (fun h_p213 => ?_))
  refine x_aload (pc := 604) (j := 8) (dK D_Law_same_6 37 rfl) rfl ?_
  refine bnE h ?_
  clear h
  intro v214 e_v214 h
  refine wx_getI (pc := 606) (ci := 11) (f := 0) e_v214 (dK D_Law_same_6 38 rfl) q_874 (ltK rfl) (ltK rfl) ?_
  refine wx_icmp_ne (pc := 609) (t := 641) (dK D_Law_same_6 39 rfl) rfl h_p213 (vI_at e_v214).2 (fun hc222 => ?_) (fun hc222 => ?_)
  · replace h := ifN h hc222
    refine wx_iconst (pc := 641) (dK D_Law_same_7 4 rfl) ?_
    obtain rfl := Option.some.inj h
    exact wk_iretB (pc := 642) (b := false) (dK D_Law_same_7 5 rfl) rfl (Nat.le_trans (bdk hb) hkt) (Nat.le_trans (bdn hb) hnt) (hr (false, (S, L210)) rfl)
  · replace h := ifP h hc222
    refine x_aloadn (pc := 612) (i0 := 0) (j := 1) (dK D_Law_same_6 40 rfl) rfl rfl ?_
    refine x_iload (pc := 613) (j := 7) (dK D_Law_same_6 41 rfl) rfl ?_
    refine wx_iconst (pc := 615) (dK D_Law_same_6 42 rfl) ?_
    refine bnE h ?_
    clear h
    intro p215 e_p215 h
    refine gdE h ?_
    clear h
    intro hz_p215 h
    obtain ⟨yp215, h9, e9⟩ := adE2 h
    clear h
    subst e9
    have h := h9
    clear h9
    have hk1 := Nat.le_trans (bd1 hb) hkt
    have hn1 := Nat.le_trans (bd2 hb) hnt
    replace hb := bdA hb
    refine x_callX (pc := 616) (As := [V a7, V 1]) (rest := []) (mc' := 1) (ms' := 6) (dK D_Law_same_6 43 rfl) Q_Law_104 sx_FP_standby (fitK rfl) (isK_at (Z := (S, L210)) (ci := 10) isK0) rfl (leK rfl) hk1 hn1 (clTI hz_p215 (fun E => tf_FP_standby (X := xz L210) rfl xz_hc ha7 (inRk rfl) e_p215)) (kxI' (fun h_p215 => ?_))
    refine x_aload (pc := 619) (j := 8) (dK D_Law_same_6 44 rfl) rfl ?_
    refine bnE h ?_
    clear h
    intro v216 e_v216 h
    refine wx_getI (pc := 621) (ci := 11) (f := 5) e_v216 (dK D_Law_same_6 45 rfl) q_889 (ltK rfl) (ltK rfl) ?_
    refine bnE h ?_
    clear h
    intro p217 e_p217 h
    refine x_callS (pc := 624) (As := [V v216]) (rest := [V p215.2]) (mc' := 0) (ms' := 0) (dK D_Law_same_6 46 rfl) Q_Law_95 (fitK rfl) rfl (leK rfl) (Nat.le_trans (bdk hb) hkt) (Nat.le_trans (bdn hb) hnt) (tg_Law_told (vI_at e_v216).2 e_p217) (kxI' (fun h_p217 => ?_))
    refine wx_icmp_ne (pc := 627) (t := 641) (dK D_Law_same_6 47 rfl) rfl h_p215 h_p217 (fun hc221 => ?_) (fun hc221 => ?_)
    · replace h := ifN h hc221
      refine wx_iconst (pc := 641) (dK D_Law_same_7 4 rfl) ?_
      obtain rfl := Option.some.inj h
      exact wk_iretB (pc := 642) (b := false) (dK D_Law_same_7 5 rfl) rfl (Nat.le_trans (bdk hb) hkt) (Nat.le_trans (bdn hb) hnt) (hr (false, (S, L210)) rfl)
    · replace h := ifP h hc221
      refine x_aloadn (pc := 630) (i0 := 0) (j := 1) (dK D_Law_same_6 48 rfl) rfl rfl ?_
      refine x_iload (pc := 631) (j := 7) (dK D_Law_same_6 49 rfl) rfl ?_
      refine wx_iconst (pc := 633) (dK D_Law_same_7 0 rfl) ?_
      refine bnE h ?_
      clear h
      intro p218 e_p218 h
      refine gdE h ?_
      clear h
      intro hz_p218 h
      obtain ⟨yp218, h9, e9⟩ := adE2 h
      clear h
      subst e9
      have h := h9
      clear h9
      have hk1 := Nat.le_trans (bd1 hb) hkt
      have hn1 := Nat.le_trans (bd2 hb) hnt
      replace hb := bdA hb
      refine x_callX (pc := 634) (As := [V a7, V 2]) (rest := []) (mc' := 1) (ms' := 6) (dK D_Law_same_7 1 rfl) Q_Law_104 sx_FP_standby (fitK rfl) (isK_at (Z := (S, L210)) (ci := 10) isK0) rfl (leK rfl) hk1 hn1 (clTI hz_p218 (fun E => tf_FP_standby (X := xz L210) rfl xz_hc ha7 (inRk rfl) e_p218)) (kxI' (fun h_p218 => ?_))
      refine wx_iconst (pc := 637) (dK D_Law_same_7 2 rfl) ?_
      refine wx_icmp_eq (pc := 638) (t := 643) (dK D_Law_same_7 3 rfl) rfl h_p218 (inRk rfl) (fun hc220 => ?_) (fun hc220 => ?_)
      · replace h := ifP h hc220
        refine nmE h ?_
        clear h
        intro v219 e_v219 h
        refine wx_iinc (pc := 643) (j := 7) (a := a7) (z := 1) (ls2 := [(7, V v219), (4, V v212), (0, .ref 0), (1, .ref c1), (2, V a2), (3, .ref c3), (5, V a5), (6, V a6), (8, .ref c8)]) (dK D_Law_same_7 6 rfl) rfl e_v219 (ltK rfl) rfl ?_
        refine x_goto (pc := 646) (tgt := 538) (dK D_Law_same_7 7 rfl) rfl ?_
        refine x_weak (ls' := [(0, .ref 0), (1, .ref c1), (2, V a2), (3, .ref c3), (4, V v212), (5, V a5), (6, V a6), (7, V v219)]) (sbc 2 rfl (sbc 3 rfl (sbc 4 rfl (sbc 5 rfl (sbc 1 rfl (sbc 6 rfl (sbc 7 rfl (sbc 0 rfl sbn)))))))) ?_
        replace h := ih _ _ h
        exact h _ _ hb (Vn_in e_v212) (Vn_in e_v219) hx hr
      · replace h := ifN h hc220
        refine wx_iconst (pc := 641) (dK D_Law_same_7 4 rfl) ?_
        obtain rfl := Option.some.inj h
        exact wk_iretB (pc := 642) (b := false) (dK D_Law_same_7 5 rfl) rfl (Nat.le_trans (bdk hb) hkt) (Nat.le_trans (bdn hb) hnt) (hr (false, (S, L210)) rfl)
def lb2_Law_same_538 (c1 : Nat) (a2 : Int) (c3 : Nat) (a5 : Int) (a6 : Int) (go : Int × Int × LZ → Option (((Bool × LZ) ⊕ (Int × LZ)) × Nat × Nat)) (a4 : Int) (a7 : Int) (S : St) (L : List PC) : Option (((Bool × LZ) ⊕ (Int × LZ)) × Nat × Nat) := bnO (gfV L c1 12 6) fun v197 => rfB v197 fun r198 => if isK L r198 13 = true then (bnO (gn_AL_size r198 S L) fun p199 => if p199 ≤ a7 then (some (.inr (a4, (S, L)), 0, 0)) else (bnO (gfV L c1 12 6) fun v201 => rfB v201 fun r202 => if isK L r202 13 = true then (bnO (gn_AL_get r202 a7 S L) fun p203 => rfB p203 fun r205 => if isK L r205 11 = true then (bnO (ald L 0 c3 9) fun v207 => bnO (gfI L r205 11 5) fun v208 => if v208 ≤ 0 then (jf2_Law_same_582_538 c1 a2 c3 a5 a6 go a4 a7 r205 0 v207 9 c3 S L) else (jf2_Law_same_582_538 c1 a2 c3 a5 a6 go a4 a7 r205 1 v207 9 c3 S L)) else none) else none)) else none
def lo2_Law_same_538 (c1 : Nat) (a2 : Int) (c3 : Nat) (a5 : Int) (a6 : Int) : Nat → Int × Int × LZ → Option (((Bool × LZ) ⊕ (Int × LZ)) × Nat × Nat) := lp fun go p => lb2_Law_same_538 c1 a2 c3 a5 a6 go p.1 p.2.1 p.2.2.1 p.2.2.2
theorem tl2_Law_same_538 {sc : SC} {c1 : Nat} {a2 : Int} (ha2 : inR a2) {c3 : Nat} {a5 : Int} (ha5 : inR a5) {a6 : Int} (ha6 : inR a6) {K : Option Value → List PC → Prop} {mc ms kt nt : Nat} (hkt : kt ≤ mc) (hnt : nt ≤ ms) : ∀ (N : Nat) (a : Int × Int × LZ) (q : ((Bool × LZ) ⊕ (Int × LZ)) × Nat × Nat), lo2_Law_same_538 c1 a2 c3 a5 a6 N a = some q → ∀ k n, Bd k n kt nt q → inR a.1 → inR a.2.1 → (∀ e, q.1 = .inr e → inR e.1 → GX sc M_Law_same mc ms 649 [(0, .ref 0), (1, .ref c1), (2, V a2), (3, .ref c3), (4, V e.1), (5, V a5), (6, V a6)] [] (wz e.2) kt nt K) → (∀ r, q.1 = .inl r → K (some (V (bi r.1))) (wz r.2)) → GX sc M_Law_same mc ms 538 [(0, .ref 0), (1, .ref c1), (2, V a2), (3, .ref c3), (4, V a.1), (5, V a5), (6, V a6), (7, V a.2.1)] [] (wz a.2.2) k n K := by
  refine lp_ind2 (P := fun (a : Int × Int × LZ) (q : ((Bool × LZ) ⊕ (Int × LZ)) × Nat × Nat) => ∀ k n, Bd k n kt nt q → inR a.1 → inR a.2.1 → (∀ e, q.1 = .inr e → inR e.1 → GX sc M_Law_same mc ms 649 [(0, .ref 0), (1, .ref c1), (2, V a2), (3, .ref c3), (4, V e.1), (5, V a5), (6, V a6)] [] (wz e.2) kt nt K) → (∀ r, q.1 = .inl r → K (some (V (bi r.1))) (wz r.2)) → GX sc M_Law_same mc ms 538 [(0, .ref 0), (1, .ref c1), (2, V a2), (3, .ref c3), (4, V a.1), (5, V a5), (6, V a6), (7, V a.2.1)] [] (wz a.2.2) k n K) (fun go ih a q h => ?_)
  obtain ⟨a4, a7, ⟨S, L⟩⟩ := a
  intro k n hb ha4 ha7 hx hr
  show GX sc M_Law_same mc ms 538 [(0, .ref 0), (1, .ref c1), (2, V a2), (3, .ref c3), (4, V a4), (5, V a5), (6, V a6), (7, V a7)] [] (wz (S, L)) k n K
  replace h : lb2_Law_same_538 c1 a2 c3 a5 a6 go a4 a7 S L = some q := h
  unfold lb2_Law_same_538 at h
  refine x_iload (pc := 538) (j := 7) (dK D_Law_same_6 3 rfl) rfl ?_
  refine x_aloadn (pc := 540) (i0 := 1) (j := 1) (dK D_Law_same_6 4 rfl) rfl rfl ?_
  refine bnE h ?_
  clear h
  intro v197 e_v197 h
  refine wx_getV (pc := 541) (ci := 12) (f := 6) e_v197 (dK D_Law_same_6 5 rfl) q_780 (ltK rfl) (ltK rfl) (fun hv197 => ?_)
  refine rfE h ?_
  clear h
  intro r198 e_r198 h
  rw [e_r198]
  refine gdE h ?_
  clear h
  intro hk200 h
  refine bnE h ?_
  clear h
  intro p199 e_p199 h
  refine x_callX (pc := 544) (As := []) (rest := [V a7]) (mc' := 0) (ms' := 0) (dK D_Law_same_6 6 rfl) Q_Law_55 sx_AL_size (fitK rfl) (isK_at (Z := (S, L)) (ci := 13) hk200) rfl (leK rfl) (Nat.le_trans (bdk hb) hkt) (Nat.le_trans (bdn hb) hnt) (tg_AL_size  e_p199) (kxI' (fun h_p199 => ?_))
  refine wx_icmp_ge (pc := 547) (t := 649) (dK D_Law_same_6 7 rfl) rfl ha7 h_p199 (fun hc224 => ?_) (fun hc224 => ?_)
  · replace h := ifP h hc224
    obtain rfl := Option.some.inj h
    refine x_weak (ls' := [(0, .ref 0), (1, .ref c1), (2, V a2), (3, .ref c3), (4, V a4), (5, V a5), (6, V a6)]) (sbc 0 rfl (sbc 1 rfl (sbc 2 rfl (sbc 3 rfl (sbc 4 rfl (sbc 5 rfl (sbc 6 rfl sbn))))))) ?_
    refine x_room (bdk hb) (bdn hb) ?_
    exact hx (a4, (S, L)) rfl ha4
  · replace h := ifN h hc224
    refine x_aloadn (pc := 550) (i0 := 1) (j := 1) (dK D_Law_same_6 8 rfl) rfl rfl ?_
    refine bnE h ?_
    clear h
    intro v201 e_v201 h
    refine wx_getV (pc := 551) (ci := 12) (f := 6) e_v201 (dK D_Law_same_6 9 rfl) q_780 (ltK rfl) (ltK rfl) (fun hv201 => ?_)
    refine x_iload (pc := 554) (j := 7) (dK D_Law_same_6 10 rfl) rfl ?_
    refine rfE h ?_
    clear h
    intro r202 e_r202 h
    rw [e_r202]
    refine gdE h ?_
    clear h
    intro hk204 h
    refine bnE h ?_
    clear h
    intro p203 e_p203 h
    refine x_callX (pc := 556) (As := [V a7]) (rest := []) (mc' := 0) (ms' := 0) (dK D_Law_same_6 11 rfl) Q_Law_69 sx_AL_get (fitK rfl) (isK_at (Z := (S, L)) (ci := 13) hk204) rfl (leK rfl) (Nat.le_trans (bdk hb) hkt) (Nat.le_trans (bdn hb) hnt) (tg_AL_get ha7 e_p203) (kxR (fun h_p203 => ?_))
    refine rfE h ?_
    clear h
    intro r205 e_r205 h
    rw [e_r205]
    refine gdE h ?_
    clear h
    intro hk206 h
    refine x_cast (pc := 559) (dK D_Law_same_6 12 rfl) q_1033 (isK_at (Z := (S, L)) (ci := 11) hk206) ?_
    refine x_astore (pc := 562) (ls2 := [(8, .ref r205), (0, .ref 0), (1, .ref c1), (2, V a2), (3, .ref c3), (4, V a4), (5, V a5), (6, V a6), (7, V a7)]) (dK D_Law_same_6 13 rfl) (ltK rfl) rfl ?_
    refine x_aloadn (pc := 564) (i0 := 3) (j := 4) (dK D_Law_same_6 14 rfl) rfl rfl ?_
    refine wx_bipush (pc := 565) (dK D_Law_same_6 15 rfl) rfl ?_
    refine x_dup2 (pc := 567) (dK D_Law_same_6 16 rfl) rfl rfl ?_
    refine bnE h ?_
    clear h
    intro v207 e_v207 h
    refine wx_iald (pc := 568) e_v207 (inRk rfl) (dK D_Law_same_6 17 rfl) ?_
    refine x_aload (pc := 569) (j := 0) (dK D_Law_same_6 18 rfl) rfl ?_
    refine bnE h ?_
    clear h
    intro v208 e_v208 h
    refine wx_getI (pc := 571) (ci := 11) (f := 5) e_v208 (dK D_Law_same_6 19 rfl) q_889 (ltK rfl) (ltK rfl) ?_
    refine wx_if_le (pc := 574) (t := 581) (dK D_Law_same_6 20 rfl) rfl (vI_at e_v208).2 (fun hc223 => ?_) (fun hc223 => ?_)
    · replace h := ifP h hc223
      refine wx_iconst (pc := 581) (dK D_Law_same_6 23 rfl) ?_
      refine x_weak (ls' := [(0, .ref 0), (1, .ref c1), (2, V a2), (3, .ref c3), (4, V a4), (5, V a5), (6, V a6), (7, V a7), (8, .ref r205)]) (sbc 1 rfl (sbc 2 rfl (sbc 3 rfl (sbc 4 rfl (sbc 5 rfl (sbc 6 rfl (sbc 7 rfl (sbc 8 rfl (sbc 0 rfl sbn))))))))) ?_
      exact tj2_Law_same_582_538 ha2 ha5 ha6 hkt hnt ih ha4 ha7 (inRk rfl) (vI_at e_v207).2 (inRk rfl) h hb hx hr
    · replace h := ifN h hc223
      refine wx_iconst (pc := 577) (dK D_Law_same_6 21 rfl) ?_
      refine x_goto (pc := 578) (tgt := 582) (dK D_Law_same_6 22 rfl) rfl ?_
      refine x_weak (ls' := [(0, .ref 0), (1, .ref c1), (2, V a2), (3, .ref c3), (4, V a4), (5, V a5), (6, V a6), (7, V a7), (8, .ref r205)]) (sbc 1 rfl (sbc 2 rfl (sbc 3 rfl (sbc 4 rfl (sbc 5 rfl (sbc 6 rfl (sbc 7 rfl (sbc 8 rfl (sbc 0 rfl sbn))))))))) ?_
      exact tj2_Law_same_582_538 ha2 ha5 ha6 hkt hnt ih ha4 ha7 (inRk rfl) (vI_at e_v207).2 (inRk rfl) h hb hx hr
def jf2_Law_same_683_652 (c1 : Nat) (a2 : Int) (c3 : Nat) (a5 : Int) (a6 : Int) (go : Int × Int × LZ → Option ((Int × LZ) × Nat × Nat)) (a4 : Int) (a7 : Int) (st0 : Int) (st1 : Int) (st2 : Int) (ct3 : Nat) (S : St) (L : List PC) : Option ((Int × LZ) × Nat × Nat) := nm (wr (st1 + st0)) fun v234 => bnO (ast L 100 ct3 st2 (V v234)) fun L235 => bnO (ald L235 0 c3 11) fun v236 => bnO (gfV L235 c1 12 7) fun v237 => rfB v237 fun r238 => bnO (ald L235 2 r238 a7) fun v239 => if v239 = 0 then (nm (wr (v236 + 0)) fun v240 => bnO (ast L235 100 c3 11 (V v240)) fun L241 => bnO (gfV L241 c1 12 8) fun v242 => rfB v242 fun r243 => bnO (ald L241 2 r243 a7) fun v244 => if v244 = 0 then (nm (wr ((31 * a4) + 0)) fun v245 => nm (wr (a7 + 1)) fun v246 => go (v245, v246, (S, L241))) else (nm (wr ((31 * a4) + 1)) fun v247 => nm (wr (a7 + 1)) fun v248 => go (v247, v248, (S, L241)))) else (nm (wr (v236 + 1)) fun v250 => bnO (ast L235 100 c3 11 (V v250)) fun L251 => bnO (gfV L251 c1 12 8) fun v252 => rfB v252 fun r253 => bnO (ald L251 2 r253 a7) fun v254 => if v254 = 0 then (nm (wr ((31 * a4) + 0)) fun v255 => nm (wr (a7 + 1)) fun v256 => go (v255, v256, (S, L251))) else (nm (wr ((31 * a4) + 1)) fun v257 => nm (wr (a7 + 1)) fun v258 => go (v257, v258, (S, L251))))
theorem tj2_Law_same_683_652 {sc : SC} {c1 : Nat} {a2 : Int} (ha2 : inR a2) {c3 : Nat} {a5 : Int} (ha5 : inR a5) {a6 : Int} (ha6 : inR a6) {K : Option Value → List PC → Prop} {mc ms kt nt : Nat} (hkt : kt ≤ mc) (hnt : nt ≤ ms) {go : Int × Int × LZ → Option ((Int × LZ) × Nat × Nat)} (ih : ∀ (a : Int × Int × LZ) (q : (Int × LZ) × Nat × Nat), go a = some q → ∀ k n, Bd k n kt nt q → inR a.1 → inR a.2.1 → (inR q.1.1 → GX sc M_Law_same mc ms 736 [(0, .ref 0), (1, .ref c1), (2, V a2), (3, .ref c3), (4, V q.1.1), (5, V a5), (6, V a6)] [] (wz q.1.2) kt nt K) → GX sc M_Law_same mc ms 652 [(0, .ref 0), (1, .ref c1), (2, V a2), (3, .ref c3), (4, V a.1), (5, V a5), (6, V a6), (7, V a.2.1)] [] (wz a.2.2) k n K) {a4 : Int} (ha4 : inR a4) {a7 : Int} (ha7 : inR a7) {st0 : Int} (hst0 : inR st0) {st1 : Int} (hst1 : inR st1) {st2 : Int} (hst2 : inR st2) {ct3 : Nat} {S : St} {L : List PC} {q : (Int × LZ) × Nat × Nat} (h : jf2_Law_same_683_652 c1 a2 c3 a5 a6 go a4 a7 st0 st1 st2 ct3 S L = some q) {k n : Nat} (hb : Bd k n kt nt q) (hx : (inR q.1.1 → GX sc M_Law_same mc ms 736 [(0, .ref 0), (1, .ref c1), (2, V a2), (3, .ref c3), (4, V q.1.1), (5, V a5), (6, V a6)] [] (wz q.1.2) kt nt K)) : GX sc M_Law_same mc ms 683 [(0, .ref 0), (1, .ref c1), (2, V a2), (3, .ref c3), (4, V a4), (5, V a5), (6, V a6), (7, V a7)] [V st0, V st1, V st2, .ref ct3] (wz (S, L)) k n K := by
  unfold jf2_Law_same_683_652 at h
  refine wx_iadd (pc := 683) (dK D_Law_same_7 28 rfl) ?_
  refine nmE h ?_
  clear h
  intro v234 e_v234 h
  refine wtop e_v234 ?_
  refine bnE h ?_
  clear h
  intro L235 e_L235 h
  refine wx_iast (Z := (S, L)) (pc := 684) (z := v234) e_L235 hst2 (dK D_Law_same_7 29 rfl) ?_
  refine x_aloadn (pc := 685) (i0 := 3) (j := 3) (dK D_Law_same_7 30 rfl) rfl rfl ?_
  refine wx_bipush (pc := 686) (dK D_Law_same_7 31 rfl) rfl ?_
  refine x_dup2 (pc := 688) (dK D_Law_same_7 32 rfl) rfl rfl ?_
  refine bnE h ?_
  clear h
  intro v236 e_v236 h
  refine wx_iald (pc := 689) e_v236 (inRk rfl) (dK D_Law_same_7 33 rfl) ?_
  refine x_aloadn (pc := 690) (i0 := 1) (j := 1) (dK D_Law_same_7 34 rfl) rfl rfl ?_
  refine bnE h ?_
  clear h
  intro v237 e_v237 h
  refine wx_getV (pc := 691) (ci := 12) (f := 7) e_v237 (dK D_Law_same_7 35 rfl) q_782 (ltK rfl) (ltK rfl) (fun hv237 => ?_)
  refine x_iload (pc := 694) (j := 7) (dK D_Law_same_7 36 rfl) rfl ?_
  refine rfE h ?_
  clear h
  intro r238 e_r238 h
  rw [e_r238]
  refine bnE h ?_
  clear h
  intro v239 e_v239 h
  refine wx_zald (pc := 696) e_v239 ha7 (dK D_Law_same_7 37 rfl) ?_
  refine wx_if_eq (pc := 697) (t := 704) (dK D_Law_same_7 38 rfl) rfl (vI_at e_v239).2 (fun hc260 => ?_) (fun hc260 => ?_)
  · replace h := ifP h hc260
    refine wx_iconst (pc := 704) (dK D_Law_same_7 41 rfl) ?_
    refine wx_iadd (pc := 705) (dK D_Law_same_7 42 rfl) ?_
    refine nmE h ?_
    clear h
    intro v240 e_v240 h
    refine wtop e_v240 ?_
    refine bnE h ?_
    clear h
    intro L241 e_L241 h
    refine wx_iast (Z := (S, L235)) (pc := 706) (z := v240) e_L241 (inRk rfl) (dK D_Law_same_7 43 rfl) ?_
    refine wx_bipush (pc := 707) (dK D_Law_same_7 44 rfl) rfl ?_
    refine x_iload (pc := 709) (j := 4) (dK D_Law_same_7 45 rfl) rfl ?_
    refine wx_imul (pc := 711) (dK D_Law_same_7 46 rfl) ?_
    refine x_aloadn (pc := 712) (i0 := 1) (j := 1) (dK D_Law_same_7 47 rfl) rfl rfl ?_
    refine bnE h ?_
    clear h
    intro v242 e_v242 h
    refine wx_getV (pc := 713) (ci := 12) (f := 8) e_v242 (dK D_Law_same_7 48 rfl) q_784 (ltK rfl) (ltK rfl) (fun hv242 => ?_)
    refine x_iload (pc := 716) (j := 7) (dK D_Law_same_7 49 rfl) rfl ?_
    refine rfE h ?_
    clear h
    intro r243 e_r243 h
    rw [e_r243]
    refine bnE h ?_
    clear h
    intro v244 e_v244 h
    refine wx_zald (pc := 718) e_v244 ha7 (dK D_Law_same_8 0 rfl) ?_
    refine wx_if_eq (pc := 719) (t := 726) (dK D_Law_same_8 1 rfl) rfl (vI_at e_v244).2 (fun hc249 => ?_) (fun hc249 => ?_)
    · replace h := ifP h hc249
      refine wx_iconst (pc := 726) (dK D_Law_same_8 4 rfl) ?_
      refine wx_iadd (pc := 727) (dK D_Law_same_8 5 rfl) ?_
      refine nmE h ?_
      clear h
      intro v245 e_v245 h
      refine wtop e_v245 ?_
      refine x_istore (pc := 728) (ls2 := [(4, V v245), (0, .ref 0), (1, .ref c1), (2, V a2), (3, .ref c3), (5, V a5), (6, V a6), (7, V a7)]) (dK D_Law_same_8 6 rfl) (ltK rfl) rfl ?_
      refine nmE h ?_
      clear h
      intro v246 e_v246 h
      refine wx_iinc (pc := 730) (j := 7) (a := a7) (z := 1) (ls2 := [(7, V v246), (4, V v245), (0, .ref 0), (1, .ref c1), (2, V a2), (3, .ref c3), (5, V a5), (6, V a6)]) (dK D_Law_same_8 7 rfl) rfl e_v246 (ltK rfl) rfl ?_
      refine x_goto (pc := 733) (tgt := 652) (dK D_Law_same_8 8 rfl) rfl ?_
      refine x_weak (ls' := [(0, .ref 0), (1, .ref c1), (2, V a2), (3, .ref c3), (4, V v245), (5, V a5), (6, V a6), (7, V v246)]) (sbc 2 rfl (sbc 3 rfl (sbc 4 rfl (sbc 5 rfl (sbc 1 rfl (sbc 6 rfl (sbc 7 rfl (sbc 0 rfl sbn)))))))) ?_
      replace h := ih _ _ h
      exact h _ _ hb (Vn_in e_v245) (Vn_in e_v246) hx
    · replace h := ifN h hc249
      refine wx_iconst (pc := 722) (dK D_Law_same_8 2 rfl) ?_
      refine x_goto (pc := 723) (tgt := 727) (dK D_Law_same_8 3 rfl) rfl ?_
      refine wx_iadd (pc := 727) (dK D_Law_same_8 5 rfl) ?_
      refine nmE h ?_
      clear h
      intro v247 e_v247 h
      refine wtop e_v247 ?_
      refine x_istore (pc := 728) (ls2 := [(4, V v247), (0, .ref 0), (1, .ref c1), (2, V a2), (3, .ref c3), (5, V a5), (6, V a6), (7, V a7)]) (dK D_Law_same_8 6 rfl) (ltK rfl) rfl ?_
      refine nmE h ?_
      clear h
      intro v248 e_v248 h
      refine wx_iinc (pc := 730) (j := 7) (a := a7) (z := 1) (ls2 := [(7, V v248), (4, V v247), (0, .ref 0), (1, .ref c1), (2, V a2), (3, .ref c3), (5, V a5), (6, V a6)]) (dK D_Law_same_8 7 rfl) rfl e_v248 (ltK rfl) rfl ?_
      refine x_goto (pc := 733) (tgt := 652) (dK D_Law_same_8 8 rfl) rfl ?_
      refine x_weak (ls' := [(0, .ref 0), (1, .ref c1), (2, V a2), (3, .ref c3), (4, V v247), (5, V a5), (6, V a6), (7, V v248)]) (sbc 2 rfl (sbc 3 rfl (sbc 4 rfl (sbc 5 rfl (sbc 1 rfl (sbc 6 rfl (sbc 7 rfl (sbc 0 rfl sbn)))))))) ?_
      replace h := ih _ _ h
      exact h _ _ hb (Vn_in e_v247) (Vn_in e_v248) hx
  · replace h := ifN h hc260
    refine wx_iconst (pc := 700) (dK D_Law_same_7 39 rfl) ?_
    refine x_goto (pc := 701) (tgt := 705) (dK D_Law_same_7 40 rfl) rfl ?_
    refine wx_iadd (pc := 705) (dK D_Law_same_7 42 rfl) ?_
    refine nmE h ?_
    clear h
    intro v250 e_v250 h
    refine wtop e_v250 ?_
    refine bnE h ?_
    clear h
    intro L251 e_L251 h
    refine wx_iast (Z := (S, L235)) (pc := 706) (z := v250) e_L251 (inRk rfl) (dK D_Law_same_7 43 rfl) ?_
    refine wx_bipush (pc := 707) (dK D_Law_same_7 44 rfl) rfl ?_
    refine x_iload (pc := 709) (j := 4) (dK D_Law_same_7 45 rfl) rfl ?_
    refine wx_imul (pc := 711) (dK D_Law_same_7 46 rfl) ?_
    refine x_aloadn (pc := 712) (i0 := 1) (j := 1) (dK D_Law_same_7 47 rfl) rfl rfl ?_
    refine bnE h ?_
    clear h
    intro v252 e_v252 h
    refine wx_getV (pc := 713) (ci := 12) (f := 8) e_v252 (dK D_Law_same_7 48 rfl) q_784 (ltK rfl) (ltK rfl) (fun hv252 => ?_)
    refine x_iload (pc := 716) (j := 7) (dK D_Law_same_7 49 rfl) rfl ?_
    refine rfE h ?_
    clear h
    intro r253 e_r253 h
    rw [e_r253]
    refine bnE h ?_
    clear h
    intro v254 e_v254 h
    refine wx_zald (pc := 718) e_v254 ha7 (dK D_Law_same_8 0 rfl) ?_
    refine wx_if_eq (pc := 719) (t := 726) (dK D_Law_same_8 1 rfl) rfl (vI_at e_v254).2 (fun hc259 => ?_) (fun hc259 => ?_)
    · replace h := ifP h hc259
      refine wx_iconst (pc := 726) (dK D_Law_same_8 4 rfl) ?_
      refine wx_iadd (pc := 727) (dK D_Law_same_8 5 rfl) ?_
      refine nmE h ?_
      clear h
      intro v255 e_v255 h
      refine wtop e_v255 ?_
      refine x_istore (pc := 728) (ls2 := [(4, V v255), (0, .ref 0), (1, .ref c1), (2, V a2), (3, .ref c3), (5, V a5), (6, V a6), (7, V a7)]) (dK D_Law_same_8 6 rfl) (ltK rfl) rfl ?_
      refine nmE h ?_
      clear h
      intro v256 e_v256 h
      refine wx_iinc (pc := 730) (j := 7) (a := a7) (z := 1) (ls2 := [(7, V v256), (4, V v255), (0, .ref 0), (1, .ref c1), (2, V a2), (3, .ref c3), (5, V a5), (6, V a6)]) (dK D_Law_same_8 7 rfl) rfl e_v256 (ltK rfl) rfl ?_
      refine x_goto (pc := 733) (tgt := 652) (dK D_Law_same_8 8 rfl) rfl ?_
      refine x_weak (ls' := [(0, .ref 0), (1, .ref c1), (2, V a2), (3, .ref c3), (4, V v255), (5, V a5), (6, V a6), (7, V v256)]) (sbc 2 rfl (sbc 3 rfl (sbc 4 rfl (sbc 5 rfl (sbc 1 rfl (sbc 6 rfl (sbc 7 rfl (sbc 0 rfl sbn)))))))) ?_
      replace h := ih _ _ h
      exact h _ _ hb (Vn_in e_v255) (Vn_in e_v256) hx
    · replace h := ifN h hc259
      refine wx_iconst (pc := 722) (dK D_Law_same_8 2 rfl) ?_
      refine x_goto (pc := 723) (tgt := 727) (dK D_Law_same_8 3 rfl) rfl ?_
      refine wx_iadd (pc := 727) (dK D_Law_same_8 5 rfl) ?_
      refine nmE h ?_
      clear h
      intro v257 e_v257 h
      refine wtop e_v257 ?_
      refine x_istore (pc := 728) (ls2 := [(4, V v257), (0, .ref 0), (1, .ref c1), (2, V a2), (3, .ref c3), (5, V a5), (6, V a6), (7, V a7)]) (dK D_Law_same_8 6 rfl) (ltK rfl) rfl ?_
      refine nmE h ?_
      clear h
      intro v258 e_v258 h
      refine wx_iinc (pc := 730) (j := 7) (a := a7) (z := 1) (ls2 := [(7, V v258), (4, V v257), (0, .ref 0), (1, .ref c1), (2, V a2), (3, .ref c3), (5, V a5), (6, V a6)]) (dK D_Law_same_8 7 rfl) rfl e_v258 (ltK rfl) rfl ?_
      refine x_goto (pc := 733) (tgt := 652) (dK D_Law_same_8 8 rfl) rfl ?_
      refine x_weak (ls' := [(0, .ref 0), (1, .ref c1), (2, V a2), (3, .ref c3), (4, V v257), (5, V a5), (6, V a6), (7, V v258)]) (sbc 2 rfl (sbc 3 rfl (sbc 4 rfl (sbc 5 rfl (sbc 1 rfl (sbc 6 rfl (sbc 7 rfl (sbc 0 rfl sbn)))))))) ?_
      replace h := ih _ _ h
      exact h _ _ hb (Vn_in e_v257) (Vn_in e_v258) hx
def lb2_Law_same_652 (c1 : Nat) (a2 : Int) (c3 : Nat) (a5 : Int) (a6 : Int) (go : Int × Int × LZ → Option ((Int × LZ) × Nat × Nat)) (a4 : Int) (a7 : Int) (S : St) (L : List PC) : Option ((Int × LZ) × Nat × Nat) := bnO (gfI L c1 12 0) fun v228 => nm (wr (2 * v228)) fun v229 => if v229 ≤ a7 then (some ((a4, (S, L)), 0, 0)) else (bnO (ald L 0 c3 10) fun v230 => bnO (gfV L c1 12 8) fun v231 => rfB v231 fun r232 => bnO (ald L 2 r232 a7) fun v233 => if v233 = 0 then (jf2_Law_same_683_652 c1 a2 c3 a5 a6 go a4 a7 0 v230 10 c3 S L) else (jf2_Law_same_683_652 c1 a2 c3 a5 a6 go a4 a7 1 v230 10 c3 S L))
def lo2_Law_same_652 (c1 : Nat) (a2 : Int) (c3 : Nat) (a5 : Int) (a6 : Int) : Nat → Int × Int × LZ → Option ((Int × LZ) × Nat × Nat) := lp fun go p => lb2_Law_same_652 c1 a2 c3 a5 a6 go p.1 p.2.1 p.2.2.1 p.2.2.2
theorem tl2_Law_same_652 {sc : SC} {c1 : Nat} {a2 : Int} (ha2 : inR a2) {c3 : Nat} {a5 : Int} (ha5 : inR a5) {a6 : Int} (ha6 : inR a6) {K : Option Value → List PC → Prop} {mc ms kt nt : Nat} (hkt : kt ≤ mc) (hnt : nt ≤ ms) : ∀ (N : Nat) (a : Int × Int × LZ) (q : (Int × LZ) × Nat × Nat), lo2_Law_same_652 c1 a2 c3 a5 a6 N a = some q → ∀ k n, Bd k n kt nt q → inR a.1 → inR a.2.1 → (inR q.1.1 → GX sc M_Law_same mc ms 736 [(0, .ref 0), (1, .ref c1), (2, V a2), (3, .ref c3), (4, V q.1.1), (5, V a5), (6, V a6)] [] (wz q.1.2) kt nt K) → GX sc M_Law_same mc ms 652 [(0, .ref 0), (1, .ref c1), (2, V a2), (3, .ref c3), (4, V a.1), (5, V a5), (6, V a6), (7, V a.2.1)] [] (wz a.2.2) k n K := by
  refine lp_ind2 (P := fun (a : Int × Int × LZ) (q : (Int × LZ) × Nat × Nat) => ∀ k n, Bd k n kt nt q → inR a.1 → inR a.2.1 → (inR q.1.1 → GX sc M_Law_same mc ms 736 [(0, .ref 0), (1, .ref c1), (2, V a2), (3, .ref c3), (4, V q.1.1), (5, V a5), (6, V a6)] [] (wz q.1.2) kt nt K) → GX sc M_Law_same mc ms 652 [(0, .ref 0), (1, .ref c1), (2, V a2), (3, .ref c3), (4, V a.1), (5, V a5), (6, V a6), (7, V a.2.1)] [] (wz a.2.2) k n K) (fun go ih a q h => ?_)
  obtain ⟨a4, a7, ⟨S, L⟩⟩ := a
  intro k n hb ha4 ha7 hx
  show GX sc M_Law_same mc ms 652 [(0, .ref 0), (1, .ref c1), (2, V a2), (3, .ref c3), (4, V a4), (5, V a5), (6, V a6), (7, V a7)] [] (wz (S, L)) k n K
  replace h : lb2_Law_same_652 c1 a2 c3 a5 a6 go a4 a7 S L = some q := h
  unfold lb2_Law_same_652 at h
  refine x_iload (pc := 652) (j := 7) (dK D_Law_same_7 10 rfl) rfl ?_
  refine wx_iconst (pc := 654) (dK D_Law_same_7 11 rfl) ?_
  refine x_aloadn (pc := 655) (i0 := 1) (j := 1) (dK D_Law_same_7 12 rfl) rfl rfl ?_
  refine bnE h ?_
  clear h
  intro v228 e_v228 h
  refine wx_getI (pc := 656) (ci := 12) (f := 0) e_v228 (dK D_Law_same_7 13 rfl) q_768 (ltK rfl) (ltK rfl) ?_
  refine wx_imul (pc := 659) (dK D_Law_same_7 14 rfl) ?_
  refine nmE h ?_
  clear h
  intro v229 e_v229 h
  refine wtop e_v229 ?_
  refine wx_icmp_ge (pc := 660) (t := 736) (dK D_Law_same_7 15 rfl) rfl ha7 (Vn_in e_v229) (fun hc262 => ?_) (fun hc262 => ?_)
  · replace h := ifP h hc262
    obtain rfl := Option.some.inj h
    refine x_weak (ls' := [(0, .ref 0), (1, .ref c1), (2, V a2), (3, .ref c3), (4, V a4), (5, V a5), (6, V a6)]) (sbc 0 rfl (sbc 1 rfl (sbc 2 rfl (sbc 3 rfl (sbc 4 rfl (sbc 5 rfl (sbc 6 rfl sbn))))))) ?_
    refine x_room (bdk hb) (bdn hb) ?_
    exact hx ha4
  · replace h := ifN h hc262
    refine x_aloadn (pc := 663) (i0 := 3) (j := 3) (dK D_Law_same_7 16 rfl) rfl rfl ?_
    refine wx_bipush (pc := 664) (dK D_Law_same_7 17 rfl) rfl ?_
    refine x_dup2 (pc := 666) (dK D_Law_same_7 18 rfl) rfl rfl ?_
    refine bnE h ?_
    clear h
    intro v230 e_v230 h
    refine wx_iald (pc := 667) e_v230 (inRk rfl) (dK D_Law_same_7 19 rfl) ?_
    refine x_aloadn (pc := 668) (i0 := 1) (j := 1) (dK D_Law_same_7 20 rfl) rfl rfl ?_
    refine bnE h ?_
    clear h
    intro v231 e_v231 h
    refine wx_getV (pc := 669) (ci := 12) (f := 8) e_v231 (dK D_Law_same_7 21 rfl) q_784 (ltK rfl) (ltK rfl) (fun hv231 => ?_)
    refine x_iload (pc := 672) (j := 7) (dK D_Law_same_7 22 rfl) rfl ?_
    refine rfE h ?_
    clear h
    intro r232 e_r232 h
    rw [e_r232]
    refine bnE h ?_
    clear h
    intro v233 e_v233 h
    refine wx_zald (pc := 674) e_v233 ha7 (dK D_Law_same_7 23 rfl) ?_
    refine wx_if_eq (pc := 675) (t := 682) (dK D_Law_same_7 24 rfl) rfl (vI_at e_v233).2 (fun hc261 => ?_) (fun hc261 => ?_)
    · replace h := ifP h hc261
      refine wx_iconst (pc := 682) (dK D_Law_same_7 27 rfl) ?_
      exact tj2_Law_same_683_652 ha2 ha5 ha6 hkt hnt ih ha4 ha7 (inRk rfl) (vI_at e_v230).2 (inRk rfl) h hb hx
    · replace h := ifN h hc261
      refine wx_iconst (pc := 678) (dK D_Law_same_7 25 rfl) ?_
      refine x_goto (pc := 679) (tgt := 683) (dK D_Law_same_7 26 rfl) rfl ?_
      exact tj2_Law_same_683_652 ha2 ha5 ha6 hkt hnt ih ha4 ha7 (inRk rfl) (vI_at e_v230).2 (inRk rfl) h hb hx
def lb2_Law_same_739 (c1 : Nat) (a2 : Int) (c3 : Nat) (a4 : Int) (a5 : Int) (a6 : Int) (go : Int × LZ → Option (((Bool × LZ) ⊕ (LZ)) × Nat × Nat)) (a7 : Int) (S : St) (L : List PC) : Option (((Bool × LZ) ⊕ (LZ)) × Nat × Nat) := if 13 ≤ a7 then (some (.inr (S, L), 0, 0)) else (bnO (fn_FP_count 0 a7 S) fun p264 => bnO (ald L 0 c3 a7) fun v265 => if p264 = v265 then (nm (wr (a7 + 1)) fun v266 => go (v266, (S, L))) else (some (.inl (false, (S, L)), 0, 0)))
def lo2_Law_same_739 (c1 : Nat) (a2 : Int) (c3 : Nat) (a4 : Int) (a5 : Int) (a6 : Int) : Nat → Int × LZ → Option (((Bool × LZ) ⊕ (LZ)) × Nat × Nat) := lp fun go p => lb2_Law_same_739 c1 a2 c3 a4 a5 a6 go p.1 p.2.1 p.2.2
theorem tl2_Law_same_739 {sc : SC} {c1 : Nat} {a2 : Int} (ha2 : inR a2) {c3 : Nat} {a4 : Int} (ha4 : inR a4) {a5 : Int} (ha5 : inR a5) {a6 : Int} (ha6 : inR a6) {K : Option Value → List PC → Prop} {mc ms kt nt : Nat} (hkt : kt ≤ mc) (hnt : nt ≤ ms) : ∀ (N : Nat) (a : Int × LZ) (q : ((Bool × LZ) ⊕ (LZ)) × Nat × Nat), lo2_Law_same_739 c1 a2 c3 a4 a5 a6 N a = some q → ∀ k n, Bd k n kt nt q → inR a.1 → (∀ e, q.1 = .inr e → GX sc M_Law_same mc ms 767 [(0, .ref 0), (1, .ref c1), (2, V a2), (4, V a4), (5, V a5), (6, V a6)] [] (wz e) kt nt K) → (∀ r, q.1 = .inl r → K (some (V (bi r.1))) (wz r.2)) → GX sc M_Law_same mc ms 739 [(0, .ref 0), (1, .ref c1), (2, V a2), (3, .ref c3), (4, V a4), (5, V a5), (6, V a6), (7, V a.1)] [] (wz a.2) k n K := by
  refine lp_ind2 (P := fun (a : Int × LZ) (q : ((Bool × LZ) ⊕ (LZ)) × Nat × Nat) => ∀ k n, Bd k n kt nt q → inR a.1 → (∀ e, q.1 = .inr e → GX sc M_Law_same mc ms 767 [(0, .ref 0), (1, .ref c1), (2, V a2), (4, V a4), (5, V a5), (6, V a6)] [] (wz e) kt nt K) → (∀ r, q.1 = .inl r → K (some (V (bi r.1))) (wz r.2)) → GX sc M_Law_same mc ms 739 [(0, .ref 0), (1, .ref c1), (2, V a2), (3, .ref c3), (4, V a4), (5, V a5), (6, V a6), (7, V a.1)] [] (wz a.2) k n K) (fun go ih a q h => ?_)
  obtain ⟨a7, ⟨S, L⟩⟩ := a
  intro k n hb ha7 hx hr
  show GX sc M_Law_same mc ms 739 [(0, .ref 0), (1, .ref c1), (2, V a2), (3, .ref c3), (4, V a4), (5, V a5), (6, V a6), (7, V a7)] [] (wz (S, L)) k n K
  replace h : lb2_Law_same_739 c1 a2 c3 a4 a5 a6 go a7 S L = some q := h
  unfold lb2_Law_same_739 at h
  refine x_iload (pc := 739) (j := 7) (dK D_Law_same_8 11 rfl) rfl ?_
  refine wx_bipush (pc := 741) (dK D_Law_same_8 12 rfl) rfl ?_
  refine wx_icmp_ge (pc := 743) (t := 767) (dK D_Law_same_8 13 rfl) rfl ha7 (inRk rfl) (fun hc268 => ?_) (fun hc268 => ?_)
  · replace h := ifP h hc268
    obtain rfl := Option.some.inj h
    refine x_weak (ls' := [(0, .ref 0), (1, .ref c1), (2, V a2), (4, V a4), (5, V a5), (6, V a6)]) (sbc 0 rfl (sbc 1 rfl (sbc 2 rfl (sbc 4 rfl (sbc 5 rfl (sbc 6 rfl sbn)))))) ?_
    refine x_room (bdk hb) (bdn hb) ?_
    exact hx (S, L) rfl
  · replace h := ifN h hc268
    refine x_aloadn (pc := 746) (i0 := 0) (j := 0) (dK D_Law_same_8 14 rfl) rfl rfl ?_
    refine x_iload (pc := 747) (j := 7) (dK D_Law_same_8 15 rfl) rfl ?_
    refine bnE h ?_
    clear h
    intro p264 e_p264 h
    refine x_callX (pc := 749) (As := [V a7]) (rest := []) (mc' := 0) (ms' := 0) (dK D_Law_same_8 16 rfl) Q_Law_113 sx_FP_count (fitK rfl) (isK_at (Z := (S, L)) (ci := 10) isK0) rfl (leK rfl) (Nat.le_trans (bdk hb) hkt) (Nat.le_trans (bdn hb) hnt) (clI (fun E => tf_FP_count (X := xz L) xz_hc ha7 e_p264)) (kxI' (fun h_p264 => ?_))
    refine x_aloadn (pc := 752) (i0 := 3) (j := 3) (dK D_Law_same_8 17 rfl) rfl rfl ?_
    refine x_iload (pc := 753) (j := 7) (dK D_Law_same_8 18 rfl) rfl ?_
    refine bnE h ?_
    clear h
    intro v265 e_v265 h
    refine wx_iald (pc := 755) e_v265 ha7 (dK D_Law_same_8 19 rfl) ?_
    refine wx_icmp_eq (pc := 756) (t := 761) (dK D_Law_same_8 20 rfl) rfl h_p264 (vI_at e_v265).2 (fun hc267 => ?_) (fun hc267 => ?_)
    · replace h := ifP h hc267
      refine nmE h ?_
      clear h
      intro v266 e_v266 h
      refine wx_iinc (pc := 761) (j := 7) (a := a7) (z := 1) (ls2 := [(7, V v266), (0, .ref 0), (1, .ref c1), (2, V a2), (3, .ref c3), (4, V a4), (5, V a5), (6, V a6)]) (dK D_Law_same_8 23 rfl) rfl e_v266 (ltK rfl) rfl ?_
      refine x_goto (pc := 764) (tgt := 739) (dK D_Law_same_8 24 rfl) rfl ?_
      refine x_weak (ls' := [(0, .ref 0), (1, .ref c1), (2, V a2), (3, .ref c3), (4, V a4), (5, V a5), (6, V a6), (7, V v266)]) (sbc 1 rfl (sbc 2 rfl (sbc 3 rfl (sbc 4 rfl (sbc 5 rfl (sbc 6 rfl (sbc 7 rfl (sbc 0 rfl sbn)))))))) ?_
      replace h := ih _ _ h
      exact h _ _ hb (Vn_in e_v266) hx hr
    · replace h := ifN h hc267
      refine wx_iconst (pc := 759) (dK D_Law_same_8 21 rfl) ?_
      obtain rfl := Option.some.inj h
      exact wk_iretB (pc := 760) (b := false) (dK D_Law_same_8 22 rfl) rfl (Nat.le_trans (bdk hb) hkt) (Nat.le_trans (bdn hb) hnt) (hr (false, (S, L)) rfl)
def gn_Law_same (c1 : Nat) (a2 : Int) (S : St) (L : List PC) : Option ((Bool × LZ) × Nat × Nat) := if (0 : Int) ≤ 13 ∧ (13 : Int) ≤ 16384 then (if L.length < 900000000 then adC 1 (13 : Int).toNat (nw L (100, List.replicate (13 : Int).toNat (.int 0)) fun r4 L5 => if isK L5 c1 12 = true then (bnO (gn_LP_pages c1 S L5) fun p6 => bnO (ast L5 100 r4 0 (V p6)) fun L8 => bnO (gfI L8 c1 12 0) fun v9 => bnO (ast L8 100 r4 1 (V v9)) fun L10 => bnO (gfI L10 c1 12 0) fun v11 => nm (wr (2 * v11)) fun v12 => bnO (ast L10 100 r4 2 (V v12)) fun L13 => bnO (gfV L13 c1 12 4) fun v14 => rfB v14 fun r15 => if isK L13 r15 13 = true then (bnO (gn_AL_size r15 S L13) fun p16 => bnO (ast L13 100 r4 3 (V p16)) fun L18 => bnO (gfV L18 c1 12 5) fun v19 => rfB v19 fun r20 => if isK L18 r20 13 = true then (bnO (gn_AL_size r20 S L18) fun p21 => bnO (ast L18 100 r4 4 (V p21)) fun L23 => bnO (gfV L23 c1 12 6) fun v24 => rfB v24 fun r25 => if isK L23 r25 13 = true then (bnO (gn_AL_size r25 S L23) fun p26 => bnO (ast L23 100 r4 5 (V p26)) fun L28 => bnO (gfI L28 c1 12 2) fun v29 => bnO (ast L28 100 r4 6 (V v29)) fun L30 => bnO (ast L30 100 r4 7 (V 0)) fun L31 => bnO (ast L31 100 r4 8 (V 0)) fun L32 => bnO (ast L32 100 r4 9 (V 0)) fun L33 => bnO (ast L33 100 r4 10 (V 0)) fun L34 => bnO (ast L34 100 r4 11 (V 0)) fun L35 => bnO (ast L35 100 r4 12 (V (-1))) fun L36 => bnT (lo2_Law_same_108 c1 a2 r4 FU (1, 0, 0, 0, (S, L36))) (fun r124 => some ((r124.1, (r124.2.1, r124.2.2)), 0, 0)) fun e125 => bnT (lo2_Law_same_354 c1 a2 r4 e125.2.1 e125.2.2.1 FU (e125.1, 0, (e125.2.2.2.1, e125.2.2.2.2))) (fun r195 => some ((r195.1, (r195.2.1, r195.2.2)), 0, 0)) fun e196 => bnT (lo2_Law_same_538 c1 a2 r4 e125.2.1 e125.2.2.1 FU (e196.1, 0, (e196.2.1, e196.2.2))) (fun r226 => some ((r226.1, (r226.2.1, r226.2.2)), 0, 0)) fun e227 => bnO (lo2_Law_same_652 c1 a2 r4 e125.2.1 e125.2.2.1 FU (e227.1, 0, (e227.2.1, e227.2.2))) fun p263 => adC p263.2.1 p263.2.2 (bnT (lo2_Law_same_739 c1 a2 r4 p263.1.1 e125.2.1 e125.2.2.1 FU (0, (p263.1.2.1, p263.1.2.2))) (fun r270 => some ((r270.1, (r270.2.1, r270.2.2)), 0, 0)) fun e271 => bnO (fn_FP_digest 0 e271.1) fun p272 => if p272 = p263.1.1 then (bnO (fn_FP_revenue 0 e271.1) fun p273 => if p273 = e125.2.1 then (bnO (fn_FP_lost 0 e271.1) fun p274 => bnO (gfI e271.2 c1 12 3) fun v275 => if p274 = v275 then (bnO (fn_FP_undoCount 0 e271.1) fun p276 => if p276 = a2 then (bnO (fn_Law_thrownByPage 0 0 e271.1) fun p277 => adC 1 6 (if p277 = 1 then (if isK e271.2 c1 12 = true then (bnO (gn_LP_pages c1 e271.1 e271.2) fun p278 => nm (wr (p278 + 1)) fun v280 => bnO (fn_Law_thrownByPage 0 v280 e271.1) fun p281 => adC 1 6 (if p281 = 1 then (if e125.2.2.1 = 0 then (bnO (fn_Law_thrownByPrice 0 e271.1) fun p285 => adC 1 6 (if p285 = 3 then (some ((true, (e271.1, e271.2)), 0, 0)) else (some ((false, (e271.1, e271.2)), 0, 0)))) else (bnO (fn_FP_quarterPrice 0 e271.1) fun p282 => if p282.1 = 0 then (adC 1 6 (if ((FP.ddiv (i_d e125.2.1) (i_d e125.2.2.1)) &&& 0x7fffffffffffffff) ≤ 0x7ff0000000000000 then (if (i_dc p282.2 (FP.ddiv (i_d e125.2.1) (i_d e125.2.2.1))) = 0 then (some ((true, (e271.1, e271.2)), 0, 0)) else (some ((false, (e271.1, e271.2)), 0, 0))) else none)) else none)) else (some ((false, (e271.1, e271.2)), 0, 0)))) else none) else (some ((false, (e271.1, e271.2)), 0, 0)))) else (some ((false, (e271.1, e271.2)), 0, 0))) else (some ((false, (e271.1, e271.2)), 0, 0))) else (some ((false, (e271.1, e271.2)), 0, 0))) else (some ((false, (e271.1, e271.2)), 0, 0)))) else none) else none) else none) else none) else none) else none
set_option maxHeartbeats 20000000 in
theorem te_Law_same {sc : SC} {c1 : Nat} {a2 : Int} (ha2 : inR a2) {S : St} {L : List PC} {q : (Bool × LZ) × Nat × Nat} (h : gn_Law_same c1 a2 S L = some q) {mc ms k n : Nat} (hb : Bd k n mc ms q) : GX sc M_Law_same mc ms 0 [(0, .ref 0), (1, .ref c1), (2, V a2)] [] (wz (S, L)) k n (KXB q.1.1 q.1.2) := by
  unfold gn_Law_same at h
  refine wx_bipush (pc := 0) (dK D_Law_same_0 0 rfl) rfl ?_
  refine gdE h ?_
  clear h
  intro hz1 h
  refine gdE h ?_
  clear h
  intro hl2 h
  obtain ⟨y3, h9, e9⟩ := adE2 h
  clear h
  subst e9
  have h := h9
  clear h9
  refine nwE h ?_
  clear h
  intro r4 L5 e_r4 e_L5 h
  have hk1 := bd1 hb
  have hn1 := bd2 hb
  replace hb := bdA hb
  refine wn_newa_int (Z := (S, L)) (pc := 2) e_r4 e_L5 hl2 (inRk rfl) hz1 (dK D_Law_same_0 1 rfl) q_68 hk1 hn1 ?_
  refine x_dup (pc := 4) (dK D_Law_same_0 2 rfl) rfl ?_
  refine wx_iconst (pc := 5) (dK D_Law_same_0 3 rfl) ?_
  refine x_aloadn (pc := 6) (i0 := 1) (j := 1) (dK D_Law_same_0 4 rfl) rfl rfl ?_
  refine gdE h ?_
  clear h
  intro hk7 h
  refine bnE h ?_
  clear h
  intro p6 e_p6 h
  refine x_callX (pc := 7) (As := []) (rest := [V 0, .ref r4, .ref r4]) (mc' := 0) (ms' := 0) (dK D_Law_same_0 5 rfl) Q_Law_42 sx_LP_pages (fitK rfl) (isK_at (Z := (S, L5)) (ci := 12) hk7) rfl (leK rfl) (bdk hb) (bdn hb) (tg_LP_pages  e_p6) (kxI' (fun h_p6 => ?_))
  refine bnE h ?_
  clear h
  intro L8 e_L8 h
  refine wx_iast (Z := (S, L5)) (pc := 10) (z := p6) e_L8 (inRk rfl) (dK D_Law_same_0 6 rfl) ?_
  refine x_dup (pc := 11) (dK D_Law_same_0 7 rfl) rfl ?_
  refine wx_iconst (pc := 12) (dK D_Law_same_0 8 rfl) ?_
  refine x_aloadn (pc := 13) (i0 := 1) (j := 1) (dK D_Law_same_0 9 rfl) rfl rfl ?_
  refine bnE h ?_
  clear h
  intro v9 e_v9 h
  refine wx_getI (pc := 14) (ci := 12) (f := 0) e_v9 (dK D_Law_same_0 10 rfl) q_768 (ltK rfl) (ltK rfl) ?_
  refine bnE h ?_
  clear h
  intro L10 e_L10 h
  refine wx_iast (Z := (S, L8)) (pc := 17) (z := v9) e_L10 (inRk rfl) (dK D_Law_same_0 11 rfl) ?_
  refine x_dup (pc := 18) (dK D_Law_same_0 12 rfl) rfl ?_
  refine wx_iconst (pc := 19) (dK D_Law_same_0 13 rfl) ?_
  refine wx_iconst (pc := 20) (dK D_Law_same_0 14 rfl) ?_
  refine x_aloadn (pc := 21) (i0 := 1) (j := 1) (dK D_Law_same_0 15 rfl) rfl rfl ?_
  refine bnE h ?_
  clear h
  intro v11 e_v11 h
  refine wx_getI (pc := 22) (ci := 12) (f := 0) e_v11 (dK D_Law_same_0 16 rfl) q_768 (ltK rfl) (ltK rfl) ?_
  refine wx_imul (pc := 25) (dK D_Law_same_0 17 rfl) ?_
  refine nmE h ?_
  clear h
  intro v12 e_v12 h
  refine wtop e_v12 ?_
  refine bnE h ?_
  clear h
  intro L13 e_L13 h
  refine wx_iast (Z := (S, L10)) (pc := 26) (z := v12) e_L13 (inRk rfl) (dK D_Law_same_0 18 rfl) ?_
  refine x_dup (pc := 27) (dK D_Law_same_0 19 rfl) rfl ?_
  refine wx_iconst (pc := 28) (dK D_Law_same_0 20 rfl) ?_
  refine x_aloadn (pc := 29) (i0 := 1) (j := 1) (dK D_Law_same_0 21 rfl) rfl rfl ?_
  refine bnE h ?_
  clear h
  intro v14 e_v14 h
  refine wx_getV (pc := 30) (ci := 12) (f := 4) e_v14 (dK D_Law_same_0 22 rfl) q_776 (ltK rfl) (ltK rfl) (fun hv14 => ?_)
  refine rfE h ?_
  clear h
  intro r15 e_r15 h
  rw [e_r15]
  refine gdE h ?_
  clear h
  intro hk17 h
  refine bnE h ?_
  clear h
  intro p16 e_p16 h
  refine x_callX (pc := 33) (As := []) (rest := [V 3, .ref r4, .ref r4]) (mc' := 0) (ms' := 0) (dK D_Law_same_0 23 rfl) Q_Law_55 sx_AL_size (fitK rfl) (isK_at (Z := (S, L13)) (ci := 13) hk17) rfl (leK rfl) (bdk hb) (bdn hb) (tg_AL_size  e_p16) (kxI' (fun h_p16 => ?_))
  refine bnE h ?_
  clear h
  intro L18 e_L18 h
  refine wx_iast (Z := (S, L13)) (pc := 36) (z := p16) e_L18 (inRk rfl) (dK D_Law_same_0 24 rfl) ?_
  refine x_dup (pc := 37) (dK D_Law_same_0 25 rfl) rfl ?_
  refine wx_iconst (pc := 38) (dK D_Law_same_0 26 rfl) ?_
  refine x_aloadn (pc := 39) (i0 := 1) (j := 1) (dK D_Law_same_0 27 rfl) rfl rfl ?_
  refine bnE h ?_
  clear h
  intro v19 e_v19 h
  refine wx_getV (pc := 40) (ci := 12) (f := 5) e_v19 (dK D_Law_same_0 28 rfl) q_778 (ltK rfl) (ltK rfl) (fun hv19 => ?_)
  refine rfE h ?_
  clear h
  intro r20 e_r20 h
  rw [e_r20]
  refine gdE h ?_
  clear h
  intro hk22 h
  refine bnE h ?_
  clear h
  intro p21 e_p21 h
  refine x_callX (pc := 43) (As := []) (rest := [V 4, .ref r4, .ref r4]) (mc' := 0) (ms' := 0) (dK D_Law_same_0 29 rfl) Q_Law_55 sx_AL_size (fitK rfl) (isK_at (Z := (S, L18)) (ci := 13) hk22) rfl (leK rfl) (bdk hb) (bdn hb) (tg_AL_size  e_p21) (kxI' (fun h_p21 => ?_))
  refine bnE h ?_
  clear h
  intro L23 e_L23 h
  refine wx_iast (Z := (S, L18)) (pc := 46) (z := p21) e_L23 (inRk rfl) (dK D_Law_same_0 30 rfl) ?_
  refine x_dup (pc := 47) (dK D_Law_same_0 31 rfl) rfl ?_
  refine wx_iconst (pc := 48) (dK D_Law_same_0 32 rfl) ?_
  refine x_aloadn (pc := 49) (i0 := 1) (j := 1) (dK D_Law_same_0 33 rfl) rfl rfl ?_
  refine bnE h ?_
  clear h
  intro v24 e_v24 h
  refine wx_getV (pc := 50) (ci := 12) (f := 6) e_v24 (dK D_Law_same_0 34 rfl) q_780 (ltK rfl) (ltK rfl) (fun hv24 => ?_)
  refine rfE h ?_
  clear h
  intro r25 e_r25 h
  rw [e_r25]
  refine gdE h ?_
  clear h
  intro hk27 h
  refine bnE h ?_
  clear h
  intro p26 e_p26 h
  refine x_callX (pc := 53) (As := []) (rest := [V 5, .ref r4, .ref r4]) (mc' := 0) (ms' := 0) (dK D_Law_same_0 35 rfl) Q_Law_55 sx_AL_size (fitK rfl) (isK_at (Z := (S, L23)) (ci := 13) hk27) rfl (leK rfl) (bdk hb) (bdn hb) (tg_AL_size  e_p26) (kxI' (fun h_p26 => ?_))
  refine bnE h ?_
  clear h
  intro L28 e_L28 h
  refine wx_iast (Z := (S, L23)) (pc := 56) (z := p26) e_L28 (inRk rfl) (dK D_Law_same_0 36 rfl) ?_
  refine x_dup (pc := 57) (dK D_Law_same_0 37 rfl) rfl ?_
  refine wx_bipush (pc := 58) (dK D_Law_same_0 38 rfl) rfl ?_
  refine x_aloadn (pc := 60) (i0 := 1) (j := 1) (dK D_Law_same_0 39 rfl) rfl rfl ?_
  refine bnE h ?_
  clear h
  intro v29 e_v29 h
  refine wx_getI (pc := 61) (ci := 12) (f := 2) e_v29 (dK D_Law_same_0 40 rfl) q_772 (ltK rfl) (ltK rfl) ?_
  refine bnE h ?_
  clear h
  intro L30 e_L30 h
  refine wx_iast (Z := (S, L28)) (pc := 64) (z := v29) e_L30 (inRk rfl) (dK D_Law_same_0 41 rfl) ?_
  refine x_dup (pc := 65) (dK D_Law_same_0 42 rfl) rfl ?_
  refine wx_bipush (pc := 66) (dK D_Law_same_0 43 rfl) rfl ?_
  refine wx_iconst (pc := 68) (dK D_Law_same_0 44 rfl) ?_
  refine bnE h ?_
  clear h
  intro L31 e_L31 h
  refine wx_iast (Z := (S, L30)) (pc := 69) (z := 0) e_L31 (inRk rfl) (dK D_Law_same_0 45 rfl) ?_
  refine x_dup (pc := 70) (dK D_Law_same_0 46 rfl) rfl ?_
  refine wx_bipush (pc := 71) (dK D_Law_same_0 47 rfl) rfl ?_
  refine wx_iconst (pc := 73) (dK D_Law_same_0 48 rfl) ?_
  refine bnE h ?_
  clear h
  intro L32 e_L32 h
  refine wx_iast (Z := (S, L31)) (pc := 74) (z := 0) e_L32 (inRk rfl) (dK D_Law_same_0 49 rfl) ?_
  refine x_dup (pc := 75) (dK D_Law_same_1 0 rfl) rfl ?_
  refine wx_bipush (pc := 76) (dK D_Law_same_1 1 rfl) rfl ?_
  refine wx_iconst (pc := 78) (dK D_Law_same_1 2 rfl) ?_
  refine bnE h ?_
  clear h
  intro L33 e_L33 h
  refine wx_iast (Z := (S, L32)) (pc := 79) (z := 0) e_L33 (inRk rfl) (dK D_Law_same_1 3 rfl) ?_
  refine x_dup (pc := 80) (dK D_Law_same_1 4 rfl) rfl ?_
  refine wx_bipush (pc := 81) (dK D_Law_same_1 5 rfl) rfl ?_
  refine wx_iconst (pc := 83) (dK D_Law_same_1 6 rfl) ?_
  refine bnE h ?_
  clear h
  intro L34 e_L34 h
  refine wx_iast (Z := (S, L33)) (pc := 84) (z := 0) e_L34 (inRk rfl) (dK D_Law_same_1 7 rfl) ?_
  refine x_dup (pc := 85) (dK D_Law_same_1 8 rfl) rfl ?_
  refine wx_bipush (pc := 86) (dK D_Law_same_1 9 rfl) rfl ?_
  refine wx_iconst (pc := 88) (dK D_Law_same_1 10 rfl) ?_
  refine bnE h ?_
  clear h
  intro L35 e_L35 h
  refine wx_iast (Z := (S, L34)) (pc := 89) (z := 0) e_L35 (inRk rfl) (dK D_Law_same_1 11 rfl) ?_
  refine x_dup (pc := 90) (dK D_Law_same_1 12 rfl) rfl ?_
  refine wx_bipush (pc := 91) (dK D_Law_same_1 13 rfl) rfl ?_
  refine wx_iconst (pc := 93) (dK D_Law_same_1 14 rfl) ?_
  refine bnE h ?_
  clear h
  intro L36 e_L36 h
  refine wx_iast (Z := (S, L35)) (pc := 94) (z := (-1)) e_L36 (inRk rfl) (dK D_Law_same_1 15 rfl) ?_
  refine x_astoren (pc := 95) (i0 := 3) (ls2 := [(3, .ref r4), (0, .ref 0), (1, .ref c1), (2, V a2)]) (dK D_Law_same_1 16 rfl) rfl (ltK rfl) rfl ?_
  refine wx_iconst (pc := 96) (dK D_Law_same_1 17 rfl) ?_
  refine x_istore (pc := 97) (ls2 := [(4, V 1), (3, .ref r4), (0, .ref 0), (1, .ref c1), (2, V a2)]) (dK D_Law_same_1 18 rfl) (ltK rfl) rfl ?_
  refine wx_iconst (pc := 99) (dK D_Law_same_1 19 rfl) ?_
  refine x_istore (pc := 100) (ls2 := [(5, V 0), (4, V 1), (3, .ref r4), (0, .ref 0), (1, .ref c1), (2, V a2)]) (dK D_Law_same_1 20 rfl) (ltK rfl) rfl ?_
  refine wx_iconst (pc := 102) (dK D_Law_same_1 21 rfl) ?_
  refine x_istore (pc := 103) (ls2 := [(6, V 0), (5, V 0), (4, V 1), (3, .ref r4), (0, .ref 0), (1, .ref c1), (2, V a2)]) (dK D_Law_same_1 22 rfl) (ltK rfl) rfl ?_
  refine wx_iconst (pc := 105) (dK D_Law_same_1 23 rfl) ?_
  refine x_istore (pc := 106) (ls2 := [(7, V 0), (6, V 0), (5, V 0), (4, V 1), (3, .ref r4), (0, .ref 0), (1, .ref c1), (2, V a2)]) (dK D_Law_same_1 24 rfl) (ltK rfl) rfl ?_
  refine bnTE h ?_ ?_
  · clear h
    intro p123 r124 yp123 e_p123 f_p123 h e9
    subst e9
    have hk1 := bd1 hb
    have hn1 := bd2 hb
    replace hb := bdA hb
    refine x_weak (ls' := [(0, .ref 0), (1, .ref c1), (2, V a2), (3, .ref r4), (4, V 1), (5, V 0), (6, V 0), (7, V 0)]) (sbc 5 rfl (sbc 6 rfl (sbc 7 rfl (sbc 4 rfl (sbc 3 rfl (sbc 2 rfl (sbc 1 rfl (sbc 0 rfl sbn)))))))) ?_
    refine tl2_Law_same_108 ha2 hk1 hn1 FU _ _ e_p123 _ _ ⟨Nat.le_refl _, Nat.le_refl _⟩ (inRk rfl) (inRk rfl) (inRk rfl) (inRk rfl) (fun _ g_ => by rw [f_p123] at g_; exact nomatch g_) (fun r_ g_  => ?_)
    obtain rfl := Sum.inl.inj (f_p123.symm.trans g_)
    obtain rfl := Option.some.inj h
    exact ⟨rfl, rfl⟩
  · clear h
    intro p123 e125 yp123 e_p123 f_p123 h e9
    subst e9
    have hk1 := bd1 hb
    have hn1 := bd2 hb
    replace hb := bdA hb
    refine x_weak (ls' := [(0, .ref 0), (1, .ref c1), (2, V a2), (3, .ref r4), (4, V 1), (5, V 0), (6, V 0), (7, V 0)]) (sbc 5 rfl (sbc 6 rfl (sbc 7 rfl (sbc 4 rfl (sbc 3 rfl (sbc 2 rfl (sbc 1 rfl (sbc 0 rfl sbn)))))))) ?_
    refine tl2_Law_same_108 ha2 hk1 hn1 FU _ _ e_p123 _ _ ⟨Nat.le_refl _, Nat.le_refl _⟩ (inRk rfl) (inRk rfl) (inRk rfl) (inRk rfl) (fun e_ g_ hx4_p123 hx5_p123 hx6_p123 => ?_) (fun _ g_ => by rw [f_p123] at g_; exact nomatch g_)
    obtain rfl := Sum.inr.inj (f_p123.symm.trans g_)
    refine wx_iconst (pc := 351) (dK D_Law_same_4 2 rfl) ?_
    refine x_istore (pc := 352) (ls2 := [(7, V 0), (0, .ref 0), (1, .ref c1), (2, V a2), (3, .ref r4), (4, V e125.1), (5, V e125.2.1), (6, V e125.2.2.1)]) (dK D_Law_same_4 3 rfl) (ltK rfl) rfl ?_
    refine bnTE h ?_ ?_
    · clear h
      intro p194 r195 yp194 e_p194 f_p194 h e9
      subst e9
      have hk1 := bd1 hb
      have hn1 := bd2 hb
      replace hb := bdA hb
      refine x_weak (ls' := [(0, .ref 0), (1, .ref c1), (2, V a2), (3, .ref r4), (4, V e125.1), (5, V e125.2.1), (6, V e125.2.2.1), (7, V 0)]) (sbc 1 rfl (sbc 2 rfl (sbc 3 rfl (sbc 4 rfl (sbc 5 rfl (sbc 6 rfl (sbc 7 rfl (sbc 0 rfl sbn)))))))) ?_
      refine tl2_Law_same_354 ha2 hx5_p123 hx6_p123 hk1 hn1 FU _ _ e_p194 _ _ ⟨Nat.le_refl _, Nat.le_refl _⟩ hx4_p123 (inRk rfl) (fun _ g_ => by rw [f_p194] at g_; exact nomatch g_) (fun r_ g_  => ?_)
      obtain rfl := Sum.inl.inj (f_p194.symm.trans g_)
      obtain rfl := Option.some.inj h
      exact ⟨rfl, rfl⟩
    · clear h
      intro p194 e196 yp194 e_p194 f_p194 h e9
      subst e9
      have hk1 := bd1 hb
      have hn1 := bd2 hb
      replace hb := bdA hb
      refine x_weak (ls' := [(0, .ref 0), (1, .ref c1), (2, V a2), (3, .ref r4), (4, V e125.1), (5, V e125.2.1), (6, V e125.2.2.1), (7, V 0)]) (sbc 1 rfl (sbc 2 rfl (sbc 3 rfl (sbc 4 rfl (sbc 5 rfl (sbc 6 rfl (sbc 7 rfl (sbc 0 rfl sbn)))))))) ?_
      refine tl2_Law_same_354 ha2 hx5_p123 hx6_p123 hk1 hn1 FU _ _ e_p194 _ _ ⟨Nat.le_refl _, Nat.le_refl _⟩ hx4_p123 (inRk rfl) (fun e_ g_ hx4_p194 => ?_) (fun _ g_ => by rw [f_p194] at g_; exact nomatch g_)
      obtain rfl := Sum.inr.inj (f_p194.symm.trans g_)
      refine wx_iconst (pc := 535) (dK D_Law_same_6 1 rfl) ?_
      refine x_istore (pc := 536) (ls2 := [(7, V 0), (0, .ref 0), (1, .ref c1), (2, V a2), (3, .ref r4), (4, V e196.1), (5, V e125.2.1), (6, V e125.2.2.1)]) (dK D_Law_same_6 2 rfl) (ltK rfl) rfl ?_
      refine bnTE h ?_ ?_
      · clear h
        intro p225 r226 yp225 e_p225 f_p225 h e9
        subst e9
        have hk1 := bd1 hb
        have hn1 := bd2 hb
        replace hb := bdA hb
        refine x_weak (ls' := [(0, .ref 0), (1, .ref c1), (2, V a2), (3, .ref r4), (4, V e196.1), (5, V e125.2.1), (6, V e125.2.2.1), (7, V 0)]) (sbc 1 rfl (sbc 2 rfl (sbc 3 rfl (sbc 4 rfl (sbc 5 rfl (sbc 6 rfl (sbc 7 rfl (sbc 0 rfl sbn)))))))) ?_
        refine tl2_Law_same_538 ha2 hx5_p123 hx6_p123 hk1 hn1 FU _ _ e_p225 _ _ ⟨Nat.le_refl _, Nat.le_refl _⟩ hx4_p194 (inRk rfl) (fun _ g_ => by rw [f_p225] at g_; exact nomatch g_) (fun r_ g_  => ?_)
        obtain rfl := Sum.inl.inj (f_p225.symm.trans g_)
        obtain rfl := Option.some.inj h
        exact ⟨rfl, rfl⟩
      · clear h
        intro p225 e227 yp225 e_p225 f_p225 h e9
        subst e9
        have hk1 := bd1 hb
        have hn1 := bd2 hb
        replace hb := bdA hb
        refine x_weak (ls' := [(0, .ref 0), (1, .ref c1), (2, V a2), (3, .ref r4), (4, V e196.1), (5, V e125.2.1), (6, V e125.2.2.1), (7, V 0)]) (sbc 1 rfl (sbc 2 rfl (sbc 3 rfl (sbc 4 rfl (sbc 5 rfl (sbc 6 rfl (sbc 7 rfl (sbc 0 rfl sbn)))))))) ?_
        refine tl2_Law_same_538 ha2 hx5_p123 hx6_p123 hk1 hn1 FU _ _ e_p225 _ _ ⟨Nat.le_refl _, Nat.le_refl _⟩ hx4_p194 (inRk rfl) (fun e_ g_ hx4_p225 => ?_) (fun _ g_ => by rw [f_p225] at g_; exact nomatch g_)
        obtain rfl := Sum.inr.inj (f_p225.symm.trans g_)
        refine wx_iconst (pc := 649) (dK D_Law_same_7 8 rfl) ?_
        refine x_istore (pc := 650) (ls2 := [(7, V 0), (0, .ref 0), (1, .ref c1), (2, V a2), (3, .ref r4), (4, V e227.1), (5, V e125.2.1), (6, V e125.2.2.1)]) (dK D_Law_same_7 9 rfl) (ltK rfl) rfl ?_
        refine bnE h ?_
        clear h
        intro p263 e_p263 h
        obtain ⟨yp263, h9, e9⟩ := adE2 h
        clear h
        subst e9
        have h := h9
        clear h9
        have hk1 := bd1 hb
        have hn1 := bd2 hb
        replace hb := bdA hb
        refine x_weak (ls' := [(0, .ref 0), (1, .ref c1), (2, V a2), (3, .ref r4), (4, V e227.1), (5, V e125.2.1), (6, V e125.2.2.1), (7, V 0)]) (sbc 1 rfl (sbc 2 rfl (sbc 3 rfl (sbc 4 rfl (sbc 5 rfl (sbc 6 rfl (sbc 7 rfl (sbc 0 rfl sbn)))))))) ?_
        refine tl2_Law_same_652 ha2 hx5_p123 hx6_p123 hk1 hn1 FU _ _ e_p263 _ _ ⟨Nat.le_refl _, Nat.le_refl _⟩ hx4_p225 (inRk rfl) (fun hx4_p263 => ?_)
        refine wx_iconst (pc := 736) (dK D_Law_same_8 9 rfl) ?_
        refine x_istore (pc := 737) (ls2 := [(7, V 0), (0, .ref 0), (1, .ref c1), (2, V a2), (3, .ref r4), (4, V p263.1.1), (5, V e125.2.1), (6, V e125.2.2.1)]) (dK D_Law_same_8 10 rfl) (ltK rfl) rfl ?_
        refine bnTE h ?_ ?_
        · clear h
          intro p269 r270 yp269 e_p269 f_p269 h e9
          subst e9
          have hk1 := bd1 hb
          have hn1 := bd2 hb
          replace hb := bdA hb
          refine x_weak (ls' := [(0, .ref 0), (1, .ref c1), (2, V a2), (3, .ref r4), (4, V p263.1.1), (5, V e125.2.1), (6, V e125.2.2.1), (7, V 0)]) (sbc 1 rfl (sbc 2 rfl (sbc 3 rfl (sbc 4 rfl (sbc 5 rfl (sbc 6 rfl (sbc 7 rfl (sbc 0 rfl sbn)))))))) ?_
          refine tl2_Law_same_739 ha2 hx4_p263 hx5_p123 hx6_p123 hk1 hn1 FU _ _ e_p269 _ _ ⟨Nat.le_refl _, Nat.le_refl _⟩ (inRk rfl) (fun _ g_ => by rw [f_p269] at g_; exact nomatch g_) (fun r_ g_  => ?_)
          obtain rfl := Sum.inl.inj (f_p269.symm.trans g_)
          obtain rfl := Option.some.inj h
          exact ⟨rfl, rfl⟩
        · clear h
          intro p269 e271 yp269 e_p269 f_p269 h e9
          subst e9
          have hk1 := bd1 hb
          have hn1 := bd2 hb
          replace hb := bdA hb
          refine x_weak (ls' := [(0, .ref 0), (1, .ref c1), (2, V a2), (3, .ref r4), (4, V p263.1.1), (5, V e125.2.1), (6, V e125.2.2.1), (7, V 0)]) (sbc 1 rfl (sbc 2 rfl (sbc 3 rfl (sbc 4 rfl (sbc 5 rfl (sbc 6 rfl (sbc 7 rfl (sbc 0 rfl sbn)))))))) ?_
          refine tl2_Law_same_739 ha2 hx4_p263 hx5_p123 hx6_p123 hk1 hn1 FU _ _ e_p269 _ _ ⟨Nat.le_refl _, Nat.le_refl _⟩ (inRk rfl) (fun e_ g_  => ?_) (fun _ g_ => by rw [f_p269] at g_; exact nomatch g_)
          obtain rfl := Sum.inr.inj (f_p269.symm.trans g_)
          refine x_aloadn (pc := 767) (i0 := 0) (j := 0) (dK D_Law_same_8 25 rfl) rfl rfl ?_
          refine bnE h ?_
          clear h
          intro p272 e_p272 h
          refine x_callX (pc := 768) (As := []) (rest := []) (mc' := 0) (ms' := 0) (dK D_Law_same_8 26 rfl) Q_Law_116 sx_FP_digest (fitK rfl) (isK_at (Z := (e271.1, e271.2)) (ci := 10) isK0) rfl (leK rfl) (bdk hb) (bdn hb) (clI (fun E => tf_FP_digest (X := xz e271.2) xz_hc  e_p272)) (kxI' (fun h_p272 => ?_))
          refine x_iload (pc := 771) (j := 3) (dK D_Law_same_8 27 rfl) rfl ?_
          refine wx_icmp_ne (pc := 773) (t := 862) (dK D_Law_same_8 28 rfl) rfl h_p272 hx4_p263 (fun hc293 => ?_) (fun hc293 => ?_)
          · replace h := ifN h hc293
            refine wx_iconst (pc := 862) (dK D_Law_same_9 23 rfl) ?_
            obtain rfl := Option.some.inj h
            exact wk_iretB (pc := 863) (b := false) (dK D_Law_same_9 24 rfl) rfl (bdk hb) (bdn hb) ⟨rfl, rfl⟩
          · replace h := ifP h hc293
            refine x_aloadn (pc := 776) (i0 := 0) (j := 0) (dK D_Law_same_8 29 rfl) rfl rfl ?_
            refine bnE h ?_
            clear h
            intro p273 e_p273 h
            refine x_callX (pc := 777) (As := []) (rest := []) (mc' := 0) (ms' := 0) (dK D_Law_same_8 30 rfl) Q_Law_119 sx_FP_revenue (fitK rfl) (isK_at (Z := (e271.1, e271.2)) (ci := 10) isK0) rfl (leK rfl) (bdk hb) (bdn hb) (clI (fun E => tf_FP_revenue (X := xz e271.2) xz_hc  e_p273)) (kxI' (fun h_p273 => ?_))
            refine x_iload (pc := 780) (j := 4) (dK D_Law_same_8 31 rfl) rfl ?_
            refine wx_icmp_ne (pc := 782) (t := 862) (dK D_Law_same_8 32 rfl) rfl h_p273 hx5_p123 (fun hc292 => ?_) (fun hc292 => ?_)
            · replace h := ifN h hc292
              refine wx_iconst (pc := 862) (dK D_Law_same_9 23 rfl) ?_
              obtain rfl := Option.some.inj h
              exact wk_iretB (pc := 863) (b := false) (dK D_Law_same_9 24 rfl) rfl (bdk hb) (bdn hb) ⟨rfl, rfl⟩
            · replace h := ifP h hc292
              refine x_aloadn (pc := 785) (i0 := 0) (j := 0) (dK D_Law_same_8 33 rfl) rfl rfl ?_
              refine bnE h ?_
              clear h
              intro p274 e_p274 h
              refine x_callX (pc := 786) (As := []) (rest := []) (mc' := 0) (ms' := 0) (dK D_Law_same_8 34 rfl) Q_Law_122 sx_FP_lost (fitK rfl) (isK_at (Z := (e271.1, e271.2)) (ci := 10) isK0) rfl (leK rfl) (bdk hb) (bdn hb) (clI (fun E => tf_FP_lost (X := xz e271.2) xz_hc  e_p274)) (kxI' (fun h_p274 => ?_))
              refine x_aloadn (pc := 789) (i0 := 1) (j := 1) (dK D_Law_same_8 35 rfl) rfl rfl ?_
              refine bnE h ?_
              clear h
              intro v275 e_v275 h
              refine wx_getI (pc := 790) (ci := 12) (f := 3) e_v275 (dK D_Law_same_8 36 rfl) q_774 (ltK rfl) (ltK rfl) ?_
              refine wx_icmp_ne (pc := 793) (t := 862) (dK D_Law_same_8 37 rfl) rfl h_p274 (vI_at e_v275).2 (fun hc291 => ?_) (fun hc291 => ?_)
              · replace h := ifN h hc291
                refine wx_iconst (pc := 862) (dK D_Law_same_9 23 rfl) ?_
                obtain rfl := Option.some.inj h
                exact wk_iretB (pc := 863) (b := false) (dK D_Law_same_9 24 rfl) rfl (bdk hb) (bdn hb) ⟨rfl, rfl⟩
              · replace h := ifP h hc291
                refine x_aloadn (pc := 796) (i0 := 0) (j := 0) (dK D_Law_same_8 38 rfl) rfl rfl ?_
                refine bnE h ?_
                clear h
                intro p276 e_p276 h
                refine x_callX (pc := 797) (As := []) (rest := []) (mc' := 0) (ms' := 0) (dK D_Law_same_8 39 rfl) Q_Law_127 sx_FP_undoCount (fitK rfl) (isK_at (Z := (e271.1, e271.2)) (ci := 10) isK0) rfl (leK rfl) (bdk hb) (bdn hb) (clI (fun E => tf_FP_undoCount (X := xz e271.2) xz_hc  e_p276)) (kxI' (fun h_p276 => ?_))
                refine x_iloadn (pc := 800) (i0 := 2) (j := 2) (dK D_Law_same_8 40 rfl) rfl rfl ?_
                refine wx_icmp_ne (pc := 801) (t := 862) (dK D_Law_same_8 41 rfl) rfl h_p276 ha2 (fun hc290 => ?_) (fun hc290 => ?_)
                · replace h := ifN h hc290
                  refine wx_iconst (pc := 862) (dK D_Law_same_9 23 rfl) ?_
                  obtain rfl := Option.some.inj h
                  exact wk_iretB (pc := 863) (b := false) (dK D_Law_same_9 24 rfl) rfl (bdk hb) (bdn hb) ⟨rfl, rfl⟩
                · replace h := ifP h hc290
                  refine x_aloadn (pc := 804) (i0 := 0) (j := 0) (dK D_Law_same_8 42 rfl) rfl rfl ?_
                  refine wx_iconst (pc := 805) (dK D_Law_same_8 43 rfl) ?_
                  refine bnE h ?_
                  clear h
                  intro p277 e_p277 h
                  obtain ⟨yp277, h9, e9⟩ := adE2 h
                  clear h
                  subst e9
                  have h := h9
                  clear h9
                  have hk1 := bd1 hb
                  have hn1 := bd2 hb
                  replace hb := bdA hb
                  refine x_callH (pc := 806) (As := [.ref 0, V 0]) (rest := []) (mc' := 1) (ms' := 6) (dK D_Law_same_8 44 rfl) Q_Law_130 (fitK rfl) rfl (leK rfl) hk1 hn1 (fun E => by rw [← xz_wx]; exact tf_Law_thrownByPage (X := xz e271.2) rfl xz_hc (inRk rfl) e_p277) clHI (kxI' (fun h_p277 => ?_))
                  refine wx_iconst (pc := 809) (dK D_Law_same_8 45 rfl) ?_
                  refine wx_icmp_ne (pc := 810) (t := 862) (dK D_Law_same_8 46 rfl) rfl h_p277 (inRk rfl) (fun hc289 => ?_) (fun hc289 => ?_)
                  · replace h := ifN h hc289
                    refine wx_iconst (pc := 862) (dK D_Law_same_9 23 rfl) ?_
                    obtain rfl := Option.some.inj h
                    exact wk_iretB (pc := 863) (b := false) (dK D_Law_same_9 24 rfl) rfl (bdk hb) (bdn hb) ⟨rfl, rfl⟩
                  · replace h := ifP h hc289
                    refine x_aloadn (pc := 813) (i0 := 0) (j := 0) (dK D_Law_same_8 47 rfl) rfl rfl ?_
                    refine x_aloadn (pc := 814) (i0 := 1) (j := 1) (dK D_Law_same_8 48 rfl) rfl rfl ?_
                    refine gdE h ?_
                    clear h
                    intro hk279 h
                    refine bnE h ?_
                    clear h
                    intro p278 e_p278 h
                    refine x_callX (pc := 815) (As := []) (rest := [.ref 0]) (mc' := 0) (ms' := 0) (dK D_Law_same_8 49 rfl) Q_Law_42 sx_LP_pages (fitK rfl) (isK_at (Z := (e271.1, e271.2)) (ci := 12) hk279) rfl (leK rfl) (bdk hb) (bdn hb) (tg_LP_pages  e_p278) (kxI' (fun h_p278 => ?_))
                    refine wx_iconst (pc := 818) (dK D_Law_same_9 0 rfl) ?_
                    refine wx_iadd (pc := 819) (dK D_Law_same_9 1 rfl) ?_
                    refine nmE h ?_
                    clear h
                    intro v280 e_v280 h
                    refine wtop e_v280 ?_
                    refine bnE h ?_
                    clear h
                    intro p281 e_p281 h
                    obtain ⟨yp281, h9, e9⟩ := adE2 h
                    clear h
                    subst e9
                    have h := h9
                    clear h9
                    have hk1 := bd1 hb
                    have hn1 := bd2 hb
                    replace hb := bdA hb
                    refine x_callH (pc := 820) (As := [.ref 0, V v280]) (rest := []) (mc' := 1) (ms' := 6) (dK D_Law_same_9 2 rfl) Q_Law_130 (fitK rfl) rfl (leK rfl) hk1 hn1 (fun E => by rw [← xz_wx]; exact tf_Law_thrownByPage (X := xz e271.2) rfl xz_hc (Vn_in e_v280) e_p281) clHI (kxI' (fun h_p281 => ?_))
                    refine wx_iconst (pc := 823) (dK D_Law_same_9 3 rfl) ?_
                    refine wx_icmp_ne (pc := 824) (t := 862) (dK D_Law_same_9 4 rfl) rfl h_p281 (inRk rfl) (fun hc288 => ?_) (fun hc288 => ?_)
                    · replace h := ifN h hc288
                      refine wx_iconst (pc := 862) (dK D_Law_same_9 23 rfl) ?_
                      obtain rfl := Option.some.inj h
                      exact wk_iretB (pc := 863) (b := false) (dK D_Law_same_9 24 rfl) rfl (bdk hb) (bdn hb) ⟨rfl, rfl⟩
                    · replace h := ifP h hc288
                      refine x_iload (pc := 827) (j := 5) (dK D_Law_same_9 5 rfl) rfl ?_
                      refine wx_if_ne (pc := 829) (t := 843) (dK D_Law_same_9 6 rfl) rfl hx6_p123 (fun hc287 => ?_) (fun hc287 => ?_)
                      · replace h := ifN h hc287
                        refine x_aloadn (pc := 843) (i0 := 0) (j := 0) (dK D_Law_same_9 12 rfl) rfl rfl ?_
                        refine bnE h ?_
                        clear h
                        intro p282 e_p282 h
                        refine gdE h ?_
                        clear h
                        intro hz_p282 h
                        obtain ⟨yp282, h9, e9⟩ := adE2 h
                        clear h
                        subst e9
                        have h := h9
                        clear h9
                        have hk1 := bd1 hb
                        have hn1 := bd2 hb
                        replace hb := bdA hb
                        refine x_callX (pc := 844) (As := []) (rest := []) (mc' := 1) (ms' := 6) (dK D_Law_same_9 13 rfl) Q_Law_34 sx_FP_quarterPrice (fitK rfl) (isK_at (Z := (e271.1, e271.2)) (ci := 10) isK0) rfl (leK rfl) hk1 hn1 (clTD hz_p282 (fun E => tf_FP_quarterPrice (X := xz e271.2) rfl xz_hc  e_p282)) (kxD' ?_)
                        refine x_iload (pc := 847) (j := 4) (dK D_Law_same_9 14 rfl) rfl ?_
                        refine wx_i2d (pc := 849) (dK D_Law_same_9 15 rfl) ?_
                        refine x_iload (pc := 850) (j := 5) (dK D_Law_same_9 16 rfl) rfl ?_
                        refine wx_i2d (pc := 852) (dK D_Law_same_9 17 rfl) ?_
                        refine gdE h ?_
                        clear h
                        intro hd283 h
                        refine x_ddiv (pc := 853) (dK D_Law_same_9 18 rfl) hd283 ?_
                        refine wx_dcmpl (pc := 854) (dK D_Law_same_9 19 rfl) ?_
                        refine wx_if_ne (pc := 855) (t := 862) (dK D_Law_same_9 20 rfl) rfl (toInt_in _) (fun hc284 => ?_) (fun hc284 => ?_)
                        · replace h := ifN h hc284
                          refine wx_iconst (pc := 862) (dK D_Law_same_9 23 rfl) ?_
                          obtain rfl := Option.some.inj h
                          exact wk_iretB (pc := 863) (b := false) (dK D_Law_same_9 24 rfl) rfl (bdk hb) (bdn hb) ⟨rfl, rfl⟩
                        · replace h := ifP h hc284
                          refine wx_iconst (pc := 858) (dK D_Law_same_9 21 rfl) ?_
                          refine x_goto (pc := 859) (tgt := 863) (dK D_Law_same_9 22 rfl) rfl ?_
                          obtain rfl := Option.some.inj h
                          exact wk_iretB (pc := 863) (b := true) (dK D_Law_same_9 24 rfl) rfl (bdk hb) (bdn hb) ⟨rfl, rfl⟩
                      · replace h := ifP h hc287
                        refine x_aloadn (pc := 832) (i0 := 0) (j := 0) (dK D_Law_same_9 7 rfl) rfl rfl ?_
                        refine bnE h ?_
                        clear h
                        intro p285 e_p285 h
                        obtain ⟨yp285, h9, e9⟩ := adE2 h
                        clear h
                        subst e9
                        have h := h9
                        clear h9
                        have hk1 := bd1 hb
                        have hn1 := bd2 hb
                        replace hb := bdA hb
                        refine x_callH (pc := 833) (As := [.ref 0]) (rest := []) (mc' := 1) (ms' := 6) (dK D_Law_same_9 8 rfl) Q_Law_134 (fitK rfl) rfl (leK rfl) hk1 hn1 (fun E => by rw [← xz_wx]; exact tf_Law_thrownByPrice (X := xz e271.2) rfl xz_hc  e_p285) clHI (kxI' (fun h_p285 => ?_))
                        refine wx_iconst (pc := 836) (dK D_Law_same_9 9 rfl) ?_
                        refine wx_icmp_ne (pc := 837) (t := 862) (dK D_Law_same_9 10 rfl) rfl h_p285 (inRk rfl) (fun hc286 => ?_) (fun hc286 => ?_)
                        · replace h := ifN h hc286
                          refine wx_iconst (pc := 862) (dK D_Law_same_9 23 rfl) ?_
                          obtain rfl := Option.some.inj h
                          exact wk_iretB (pc := 863) (b := false) (dK D_Law_same_9 24 rfl) rfl (bdk hb) (bdn hb) ⟨rfl, rfl⟩
                        · replace h := ifP h hc286
                          refine x_goto (pc := 840) (tgt := 858) (dK D_Law_same_9 11 rfl) rfl ?_
                          refine wx_iconst (pc := 858) (dK D_Law_same_9 21 rfl) ?_
                          refine x_goto (pc := 859) (tgt := 863) (dK D_Law_same_9 22 rfl) rfl ?_
                          obtain rfl := Option.some.inj h
                          exact wk_iretB (pc := 863) (b := true) (dK D_Law_same_9 24 rfl) rfl (bdk hb) (bdn hb) ⟨rfl, rfl⟩
theorem tg_Law_same {sc : SC} {c1 : Nat} {a2 : Int} (ha2 : inR a2) {S : St} {L : List PC} {q : (Bool × LZ) × Nat × Nat} (h : gn_Law_same c1 a2 S L = some q) : EvX sc M_Law_same [.ref 0, .ref c1, V a2] (wz (S, L)) q.2.1 q.2.2 (KXB q.1.1 q.1.2) := EvX.of pn2_Law rfl (leK rfl) (te_Law_same ha2 h ⟨Nat.le_of_eq (Nat.zero_add _), Nat.le_of_eq (Nat.zero_add _)⟩)
def gn_Number_init (c0 : Nat) (S : St) (L : List PC) : Option (Unit) := some ()
theorem te_Number_init {sc : SC} {c0 : Nat} {S : St} {L : List PC} {q : Unit} (h : gn_Number_init c0 S L = some q) {mc ms k n : Nat} (hk0 : k ≤ mc) (hn0 : n ≤ ms) : GX sc M_Number_init mc ms 0 [(0, .ref c0)] [] (wz (S, L)) k n (KXU (S, L)) := by
  unfold gn_Number_init at h
  refine x_aloadn (pc := 0) (i0 := 0) (j := 0) (dK D_Number_init 0 rfl) rfl rfl ?_
  refine x_objinit (pc := 1) (dK D_Number_init 1 rfl) q_1247 (leK rfl) (leK rfl) (leK rfl) ?_
  exact wk_ret (pc := 4) (dK D_Number_init 2 rfl) rfl hk0 hn0 ⟨rfl, rfl⟩
theorem tg_Number_init {sc : SC} {c0 : Nat} {S : St} {L : List PC} {q : Unit} (h : gn_Number_init c0 S L = some q) : EvX sc M_Number_init [.ref c0] (wz (S, L)) 0 0 (KXU (S, L)) := EvX.of pn2_Number rfl (leK rfl) (te_Number_init  h (Nat.le_refl _) (Nat.le_refl _))
def gn_Integer_init (c0 : Nat) (a1 : Int) (S : St) (L : List PC) : Option ((LZ) × Nat × Nat) := bnO (gn_Number_init c0 S L) fun p1 => bnO (pf L c0 17 0 (V a1)) fun L2 => some ((S, L2), 0, 0)
theorem te_Integer_init {sc : SC} {c0 : Nat} {a1 : Int} (ha1 : inR a1) {S : St} {L : List PC} {q : (LZ) × Nat × Nat} (h : gn_Integer_init c0 a1 S L = some q) {mc ms k n : Nat} (hb : Bd k n mc ms q) : GX sc M_Integer_init mc ms 0 [(0, .ref c0), (1, V a1)] [] (wz (S, L)) k n (KXU q.1) := by
  unfold gn_Integer_init at h
  refine x_aloadn (pc := 0) (i0 := 0) (j := 0) (dK D_Integer_init 0 rfl) rfl rfl ?_
  refine bnE h ?_
  clear h
  intro p1 e_p1 h
  refine x_callI (pc := 1) (As := []) (rest := []) (mc' := 0) (ms' := 0) (dK D_Integer_init 1 rfl) Q_Integer_202 (fitK rfl) rfl (leK rfl) (bdk hb) (bdn hb) (tg_Number_init  e_p1) (kxU ?_)
  refine x_aloadn (pc := 4) (i0 := 0) (j := 0) (dK D_Integer_init 2 rfl) rfl rfl ?_
  refine x_iloadn (pc := 5) (i0 := 1) (j := 1) (dK D_Integer_init 3 rfl) rfl rfl ?_
  refine bnE h ?_
  clear h
  intro L2 e_L2 h
  refine wx_putF (Z := (S, L)) (pc := 6) (ci := 17) (f := 0) e_L2 (dK D_Integer_init 4 rfl) q_1248 (ltK rfl) (ltK rfl) rfl rfl rfl okInt ?_
  obtain rfl := Option.some.inj h
  exact wk_ret (pc := 9) (dK D_Integer_init 5 rfl) rfl (bdk hb) (bdn hb) ⟨rfl, rfl⟩
theorem tg_Integer_init {sc : SC} {c0 : Nat} {a1 : Int} (ha1 : inR a1) {S : St} {L : List PC} {q : (LZ) × Nat × Nat} (h : gn_Integer_init c0 a1 S L = some q) : EvX sc M_Integer_init [.ref c0, V a1] (wz (S, L)) q.2.1 q.2.2 (KXU q.1) := EvX.of pn2_Integer rfl (leK rfl) (te_Integer_init ha1 h ⟨Nat.le_of_eq (Nat.zero_add _), Nat.le_of_eq (Nat.zero_add _)⟩)
def gn_Integer_valueOf (a0 : Int) (S : St) (L : List PC) : Option ((Value × LZ) × Nat × Nat) := if a0 < (-128) then (if L.length < 900000000 then adC 1 1 (nw L (17, dfl 17) fun r2 L3 => bnO (gn_Integer_init r2 a0 S L3) fun p5 => adC p5.2.1 p5.2.2 (some (((.ref r2), (p5.1.1, p5.1.2)), 0, 0))) else none) else (if 127 < a0 then (if L.length < 900000000 then adC 1 1 (nw L (17, dfl 17) fun r7 L8 => bnO (gn_Integer_init r7 a0 S L8) fun p10 => adC p10.2.1 p10.2.2 (some (((.ref r7), (p10.1.1, p10.1.2)), 0, 0))) else none) else (nm (wr (a0 + 128)) fun v11 => bnO (alq L (XB + 300 + 303) v11) fun v12 => some ((v12, (S, L)), 0, 0)))
theorem te_Integer_valueOf {sc : SC} {a0 : Int} (ha0 : inR a0) {S : St} {L : List PC} {q : (Value × LZ) × Nat × Nat} (h : gn_Integer_valueOf a0 S L = some q) {mc ms k n : Nat} (hb : Bd k n mc ms q) : GX sc M_Integer_valueOf mc ms 0 [(0, V a0)] [] (wz (S, L)) k n (KXR q.1.1 q.1.2) := by
  unfold gn_Integer_valueOf at h
  refine x_iloadn (pc := 0) (i0 := 0) (j := 0) (dK D_Integer_valueOf 0 rfl) rfl rfl ?_
  refine wx_bipush (pc := 1) (dK D_Integer_valueOf 1 rfl) rfl ?_
  refine wx_icmp_lt (pc := 3) (t := 23) (dK D_Integer_valueOf 2 rfl) rfl ha0 (inRk rfl) (fun hc14 => ?_) (fun hc14 => ?_)
  · replace h := ifP h hc14
    refine gdE h ?_
    clear h
    intro hl1 h
    obtain ⟨y4, h9, e9⟩ := adE2 h
    clear h
    subst e9
    have h := h9
    clear h9
    refine nwE h ?_
    clear h
    intro r2 L3 e_r2 e_L3 h
    have hk1 := bd1 hb
    have hn1 := bd2 hb
    replace hb := bdA hb
    refine wn_new (Z := (S, L)) (pc := 23) (ci := 17) (N := 1) e_r2 e_L3 hl1 rfl (dK D_Integer_valueOf 12 rfl) (ltK rfl) q_1239 q_1240 q_28 hk1 hn1 ?_
    refine x_dup (pc := 26) (dK D_Integer_valueOf 13 rfl) rfl ?_
    refine x_iloadn (pc := 27) (i0 := 0) (j := 0) (dK D_Integer_valueOf 14 rfl) rfl rfl ?_
    refine bnE h ?_
    clear h
    intro p5 e_p5 h
    obtain ⟨yp5, h9, e9⟩ := adE2 h
    clear h
    subst e9
    have h := h9
    clear h9
    have hk1 := bd1 hb
    have hn1 := bd2 hb
    replace hb := bdA hb
    refine x_callI (pc := 28) (As := [V a0]) (rest := [.ref r2]) (mc' := p5.2.1) (ms' := p5.2.2) (dK D_Integer_valueOf 15 rfl) Q_Integer_199 (fitK rfl) rfl (leK rfl) hk1 hn1 (tg_Integer_init ha0 e_p5) (kxU ?_)
    obtain rfl := Option.some.inj h
    exact wk_aret (pc := 31) (.inr ⟨_, rfl⟩) (dK D_Integer_valueOf 16 rfl) rfl (by first | exact .inl ⟨_, rfl⟩ | exact .inr ⟨_, rfl⟩) (bdk hb) (bdn hb) ⟨rfl, (.inr ⟨_, rfl⟩), rfl⟩
  · replace h := ifN h hc14
    refine x_iloadn (pc := 6) (i0 := 0) (j := 0) (dK D_Integer_valueOf 3 rfl) rfl rfl ?_
    refine x_gs_high (pc := 7) (dK D_Integer_valueOf 4 rfl) q_1235 ?_
    refine wsk (st' := [V 127, V a0]) rfl ?_
    refine wx_icmp_gt (pc := 10) (t := 23) (dK D_Integer_valueOf 5 rfl) rfl ha0 (inRk rfl) (fun hc13 => ?_) (fun hc13 => ?_)
    · replace h := ifP h hc13
      refine gdE h ?_
      clear h
      intro hl6 h
      obtain ⟨y9, h9, e9⟩ := adE2 h
      clear h
      subst e9
      have h := h9
      clear h9
      refine nwE h ?_
      clear h
      intro r7 L8 e_r7 e_L8 h
      have hk1 := bd1 hb
      have hn1 := bd2 hb
      replace hb := bdA hb
      refine wn_new (Z := (S, L)) (pc := 23) (ci := 17) (N := 1) e_r7 e_L8 hl6 rfl (dK D_Integer_valueOf 12 rfl) (ltK rfl) q_1239 q_1240 q_28 hk1 hn1 ?_
      refine x_dup (pc := 26) (dK D_Integer_valueOf 13 rfl) rfl ?_
      refine x_iloadn (pc := 27) (i0 := 0) (j := 0) (dK D_Integer_valueOf 14 rfl) rfl rfl ?_
      refine bnE h ?_
      clear h
      intro p10 e_p10 h
      obtain ⟨yp10, h9, e9⟩ := adE2 h
      clear h
      subst e9
      have h := h9
      clear h9
      have hk1 := bd1 hb
      have hn1 := bd2 hb
      replace hb := bdA hb
      refine x_callI (pc := 28) (As := [V a0]) (rest := [.ref r7]) (mc' := p10.2.1) (ms' := p10.2.2) (dK D_Integer_valueOf 15 rfl) Q_Integer_199 (fitK rfl) rfl (leK rfl) hk1 hn1 (tg_Integer_init ha0 e_p10) (kxU ?_)
      obtain rfl := Option.some.inj h
      exact wk_aret (pc := 31) (.inr ⟨_, rfl⟩) (dK D_Integer_valueOf 16 rfl) rfl (by first | exact .inl ⟨_, rfl⟩ | exact .inr ⟨_, rfl⟩) (bdk hb) (bdn hb) ⟨rfl, (.inr ⟨_, rfl⟩), rfl⟩
    · replace h := ifN h hc13
      refine x_gs_cache (pc := 13) (dK D_Integer_valueOf 6 rfl) q_1237 ?_
      refine x_iloadn (pc := 16) (i0 := 0) (j := 0) (dK D_Integer_valueOf 7 rfl) rfl rfl ?_
      refine wx_sipush (pc := 17) (dK D_Integer_valueOf 8 rfl) rfl ?_
      refine wx_iadd (pc := 20) (dK D_Integer_valueOf 9 rfl) ?_
      refine nmE h ?_
      clear h
      intro v11 e_v11 h
      refine wtop e_v11 ?_
      refine bnE h ?_
      clear h
      intro v12 e_v12 h
      refine wx_aald (pc := 21) e_v12 (Vn_in e_v11) (dK D_Integer_valueOf 10 rfl) (fun hv12 => ?_)
      obtain rfl := Option.some.inj h
      exact wk_aret (pc := 22) hv12 (dK D_Integer_valueOf 11 rfl) rfl (by first | exact .inl ⟨_, rfl⟩ | exact .inr ⟨_, rfl⟩) (bdk hb) (bdn hb) ⟨rfl, hv12, rfl⟩
theorem tg_Integer_valueOf {sc : SC} {a0 : Int} (ha0 : inR a0) {S : St} {L : List PC} {q : (Value × LZ) × Nat × Nat} (h : gn_Integer_valueOf a0 S L = some q) : EvX sc M_Integer_valueOf [V a0] (wz (S, L)) q.2.1 q.2.2 (KXR q.1.1 q.1.2) := EvX.of pn2_Integer rfl (leK rfl) (te_Integer_valueOf ha0 h ⟨Nat.le_of_eq (Nat.zero_add _), Nat.le_of_eq (Nat.zero_add _)⟩)
