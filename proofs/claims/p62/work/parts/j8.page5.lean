/-! PAGES: what the law lists of each -/
section Page5
variable {S : St} {L K L0 : List PC} {P : PA} {W : Vw} {p : Int}
theorem RowI.putK {r n : Nat} {f : Nat → Int} (h : RowI K r n f) (hs : Sf F0_ L K) (hr : nCell + L.length ≤ r) {w : Int} (hw : 0 ≤ w ∧ w < n) (z : Int) : ∃ K1, ast K 100 r w (V z) = some K1 ∧ RowI K1 r n (fun j => if j = w.toNat then z else f j) ∧ Sf F0_ L K1 ∧ K1.length = K.length := by
  obtain ⟨K1, e, h1, c, w1⟩ := h.put hw z
  exact ⟨K1, e, h1, hs.w w1 (.inr hr), w1.1⟩
theorem q_in (hG : Good W) (hp : 1 ≤ p ∧ p ≤ pgs W) : ∀ j : Nat, j < 8 → inR (pgRow W p j) := fun j hj => by
  have hV := hG.1
  have b := hV.z
  have bp := hV.pg
  have lz := ek_lf hG hp.1 hp.2
  have fb := l_fb hV hp.1 hp.2
  have so : -1 ≤ stOn W p (-1) ∧ stOn W p (-1) < 100 := by
    rcases stOn_spec hV (p := p) (but := -1) with ⟨e, _⟩ | ⟨e1, e2, _⟩
    · omega
    · omega
  have d1 : 0 ≤ (p - 1) / pe W := Int.ediv_nonneg (by omega) (by omega)
  have d2 : (p - 1) / pe W ≤ p - 1 := Int.ediv_le_self _ (by omega)
  have : j = 0 ∨ j = 1 ∨ j = 2 ∨ j = 3 ∨ j = 4 ∨ j = 5 ∨ j = 6 ∨ j = 7 := by omega
  rcases this with rfl | rfl | rfl | rfl | rfl | rfl | rfl | rfl
  · show inR (p / 2); unfold inR; omega
  · show inR ((p - 1) / pe W); unfold inR; omega
  · show inR (fOf W p); unfold inR; omega
  · show inR (lf W p); unfold inR; omega
  · show inR (adsO W p); exact wr_in _
  · show inR (stOn W p (-1)); unfold inR; omega
  · show inR (stbO W p); exact wr_in _
  · show inR (-1); unfold inR; omega
theorem ks_num (hG : Good W) (hp : 1 ≤ p ∧ p ≤ pgs W) : ((ksA W p).length : Int) = adsO W p ∧ ((ksB W p).length : Int) = stbO W p := by
  have kc := ks_cap hG hp
  have eA : ((ksA W p).length : Int) = sumA W (fun a => if at_ W 6 a = p then 1 else 0) := idxs_len
  have eB : ((ksB W p).length : Int) = sumB W (fun a => if at_ W 13 a = p then 1 else 0) := idxs_len
  unfold adsO stbO
  rw [← eA, ← eB, wr_s (by omega) (by omega), wr_s (by omega) (by omega)]
  exact ⟨rfl, rfl⟩
theorem l_pg4s {C T : Nat} {R : (Bool × LZ) ⊕ (Int × LZ) → Prop} {gg : Int × Int × LZ → Option (((Bool × LZ) ⊕ (Int × LZ)) × Nat × Nat)} {a : Int} (h0 : HP L0 P W) (hG : Good W) (hp : 1 ≤ p ∧ p ≤ pgs W) (hT : PT S 5 W) (hs : Sf F0_ L0 K) (hL : K.length < 200000000) (a0 : 0 ≤ a) (a1 : a ≤ 4 * p)
    (hk : ∀ S' L1, PT S' 5 W → OfD S S' → Sf F0_ L0 L1 → L1.length ≤ K.length + 80 → Ok (gg (a + (4 - lf W p), p + 1, (S', L1))) C T R) :
    Ok (lb2_Law_pages_4 (pT P) gg a p S K) (46 + C) (686 + T) R := by
  have hV := hG.1
  have b := hV.z
  have bp := hV.pg
  have lz := ek_lf hG hp.1 hp.2
  have fb := l_fb hV hp.1 hp.2
  have kc := ks_cap hG hp
  have kn := ks_num hG hp
  have h := h0.sf0 hs
  have hle := hs.1
  unfold lb2_Law_pages_4
  rw [if_pos h.k, l_pages h hV, bnO_s, if_neg (by omega), h.fA, bnO_s, rfB_r, if_pos h.k]
  refine Ok.bind (l_onA (S := S) h hV hG.2.1 hp (by omega)) (by omega) (by omega) ?_
  rintro v cc ss ⟨K1, rA, mA, cA, rfl, hA1, s1, l1, oA⟩
  have hA1 : LsH K1 (nCell + K.length) rA mA cA ((ksA W p).map bx) := hA1
  dsimp only
  have h1 := h.sf0 s1
  rw [h1.fB, bnO_s, rfB_r, if_pos h1.k]
  refine Ok.bind (l_onB (S := S) h1 hV hG.2.1 hp (by omega)) (by omega) (by omega) ?_
  rintro v cc ss ⟨K2, rB, mB, cB, rfl, hB2, s2, l2, oB⟩
  have hB2 : LsH K2 (nCell + K1.length) rB mB cB ((ksB W p).map bx) := hB2
  dsimp only
  have hA2 := hA1.sf s2 id (fun _ => id)
  have h2 := h1.sf0 s2
  have i13 : wr (a + (4 - lf W p)) = a + (4 - lf W p) := wr_s (by omega) (by omega)
  rw [if_pos h2.k, l_left h2 hV, bnO_s, nm_x, i13, if_pos (by decide), if_pos (by omega), show (8 : Int).toNat = 8 from rfl, nw_x]
  obtain ⟨n3, r3⟩ := RowI.new (K := K2) (m := 8) (by omega)
  have s3 : Sf F0_ K2 (K2 ++ [(100, List.replicate 8 (.int 0))]) := n3.sf0
  have l3 : (K2 ++ [(100, List.replicate 8 (Value.int 0))]).length = K2.length + 1 := n3.2.1
  refine Ok.ad (c := 1) (s := 8) (by omega) (by omega) ?_
  obtain ⟨K4, e4, r4, s4, l4⟩ := r3.putK s3 (Nat.le_refl _) (w := 0) (by decide) (p / 2)
  obtain ⟨K5, e5, r5, s5, l5⟩ := r4.putK s4 (Nat.le_refl _) (w := 1) (by decide) ((p - 1) / pe W)
  obtain ⟨K6, e6, r6, s6, l6⟩ := r5.putK s5 (Nat.le_refl _) (w := 2) (by decide) (fOf W p)
  obtain ⟨K7, e7, r7, s7, l7⟩ := r6.putK s6 (Nat.le_refl _) (w := 3) (by decide) (lf W p)
  obtain ⟨K8, e8, r8, s8, l8⟩ := r7.putK s7 (Nat.le_refl _) (w := 4) (by decide) (adsO W p)
  obtain ⟨K9, e9, r9, s9, l9⟩ := r8.putK s8 (Nat.le_refl _) (w := 5) (by decide) (stOn W p (-1))
  obtain ⟨Ka, ea, ra, sa, la⟩ := r9.putK s9 (Nat.le_refl _) (w := 6) (by decide) (stbO W p)
  obtain ⟨Kb, eb, rb, sb, lb⟩ := ra.putK sa (Nat.le_refl _) (w := 7) (by decide) (-1)
  have lmA : ((ksA W p).map bx).length = (ksA W p).length := List.length_map _
  have lmB : ((ksB W p).map bx).length = (ksB W p).length := List.length_map _
  have tdv : (p - 1).tdiv (pe W) = (p - 1) / pe W := Int.tdiv_eq_ediv_of_nonneg (by omega)
  have d1 : 0 ≤ (p - 1) / pe W := Int.ediv_nonneg (by omega) (by omega)
  have d2 : (p - 1) / pe W ≤ p - 1 := Int.ediv_le_self _ (by omega)
  have h4 := h2.sf0 s4
  have h5 := h2.sf0 s5
  have h8 := h2.sf0 s8
  have hb := h2.sf0 sb
  have hA7 := hA2.sf s7 id (fun _ => id)
  have hB9 := hB2.sf s9 id (fun _ => id)
  rw [nm_x, Int.tdiv_eq_ediv_of_nonneg (by omega), wr_s (z := p / 2) (by omega) (by omega), e4, bnO_s, h4.ss hV, bnO_s, nm_x, wr_s (z := p - 1) (by omega) (by omega), if_pos (by omega), nm_x, tdv, wr_s (z := (p - 1) / pe W) (by omega) (by omega), e5, bnO_s, if_pos h5.k, l_form h5 hV hp.1 (by omega), bnO_s, e6, bnO_s, e7, bnO_s, rfB_r, if_pos hA7.k, k_size hA7, bnO_s, lmA, kn.1, e8, bnO_s, if_pos h8.k, l_story h8 hV, bnO_s, e9, bnO_s, rfB_r, if_pos hB9.k, k_size hB9, bnO_s, lmB, kn.2, ea, bnO_s, eb, bnO_s]
  have rp : RowI Kb (nCell + K2.length) 8 (pgRow W p) := rb.eq (fun j hj => by
    have : j = 0 ∨ j = 1 ∨ j = 2 ∨ j = 3 ∨ j = 4 ∨ j = 5 ∨ j = 6 ∨ j = 7 := by omega
    rcases this with rfl | rfl | rfl | rfl | rfl | rfl | rfl | rfl <;> rfl)
  have hAb := hA2.sf sb id (fun _ => id)
  have hBb := hB2.sf sb id (fun _ => id)
  refine Ok.bindT (C1 := 8) (T1 := 48) (Q := fun e => e = (S, Kb)) ((l_pg117 (S := S) (c4 := nCell + K.length) (c5 := nCell + K1.length) (a2 := a + (4 - lf W p)) (a6 := lf W p) hG hT hp rp (q_in hG hp) 8 FU 0 (by decide) (Int.le_refl _) (FU_big (by decide))).mono (Nat.le_refl _) (by decide) (fun v z => ⟨_, z, rfl⟩)) (by omega) (by omega) ?_
  rintro e rfl
  dsimp only
  refine Ok.bindT (C1 := (ksA W p).length + 1) (T1 := 6 * ((ksA W p).length + 1)) (Q := fun e => e = (S, Kb)) ((l_pg150 (S := S) (ks := ksA W p) (c5 := nCell + K1.length) (a2 := a + (4 - lf W p)) (a6 := lf W p) hG hT hp rfl hAb ((ksA W p).length + 1) FU 0 (by omega) (Int.le_refl _) (FU_big (by omega))).mono (Nat.le_refl _) (Nat.le_refl _) (fun v z => ⟨_, z, rfl⟩)) (by omega) (by omega) ?_
  rintro e rfl
  dsimp only
  rw [if_pos hb.k, l_story hb hV, bnO_s]
  have sK : Sf F0_ L0 Kb := ((hs.trans s1).trans s2).trans sb
  have ih : ∀ S' L1, PT S' 5 W → OfD S S' → Sf F0_ L0 L1 → L1.length ≤ Kb.length + 70 → Ok (gg (a + (4 - lf W p), p + 1, (S', L1))) C T R := fun S' L1 y1 y2 y3 y4 => hk S' L1 y1 y2 y3 (by omega)
  by_cases c : stOn W p (-1) = -1
  · rw [if_neg (by omega)]
    rw [if_pos c] at kc
    have e0 : ds0 W p = [] := if_pos c
    have t0 : StH Kb (XB + 8) (pre (ds0 W p)) := by
      have q := st_lit (L := Kb) nl_.1.1
      rw [lB8] at q
      rw [e0]
      exact q
    exact (l_tail (C := C) (T := T) h0 sK hG hT hp hAb hBb t0 rfl (by omega) (fun S' L1 y1 y2 y3 y4 => ih S' L1 y1 y2 y3 (by omega))).mono (by omega) (by omega) (fun _ q => q)
  · have so : 0 ≤ stOn W p (-1) ∧ stOn W p (-1) < 100 := by
      rcases stOn_spec hV (p := p) (but := -1) with ⟨e, _⟩ | ⟨e1, e2, _⟩
      · exact absurd e c
      · omega
    rw [if_pos so.1]
    rw [if_neg c] at kc
    have e0 : ds0 W p = itB 115 (stOn W p (-1)) [] := if_neg c
    have hx0 : psi 24 16 = 1 := rfl
    have hx1 : phi 24 16 = 64 := rfl
    have dg3 := dgl (z := stOn W p (-1))
    have dg4 : (([] : List Int) ++ [32, 115] ++ dg (stOn W p (-1))).length = 2 + (dg (stOn W p (-1))).length := List.length_append
    have ept : ([] : List Int) ++ [32, 115] ++ dg (stOn W p (-1)) = pre (ds0 W p) := by
      rw [e0]
      exact pre_it (xs := []) so
    obtain ⟨CC, hCC⟩ : ∃ CC, CC = 8 + 5 * ((ksA W p).length + (ksB W p).length + cL W p) + C := ⟨_, rfl⟩
    obtain ⟨TT, hTT⟩ : ∃ TT, TT = 126 + 112 * ((ksA W p).length + (ksB W p).length + cL W p) + T := ⟨_, rfl⟩
    refine (in_s (N := 24) (M := Kb.length + 3) (C := 2 + CC) (T := 28 + TT) (by decide) (by rw [hx0]; omega) (by omega) (fun L3 u v h3 => ?_)).mono (by omega) (by omega) (fun _ q => q)
    dsimp only
    rw [if_pos h3.k]
    refine ap_s h3 (st_lit nl_.1.2.1) (by rw [lB9]; decide) (fun L4 c4 s4n u v h4b => ?_)
    dsimp only
    rw [lB9] at h4b
    have hs4 := hb.sf0 h4b.sf
    rw [if_pos hs4.k, l_story hs4 hV, bnO_s, rfB_r, if_pos h4b.k]
    refine an_s h4b (by omega) (by show 2 + _ ≤ _; omega) (fun L5 c5 s5n u v h5 => ?_)
    dsimp only
    rw [rfB_r, if_pos h5.k]
    refine (st_s (C := CC) (T := TT) h5 (by omega) (fun t6 L6 u v y1 y2 y3 y4 => ?_)).mono (by omega) (by omega) (fun _ q => q)
    dsimp only
    rw [ept] at y1
    rw [hCC, hTT]
    exact l_tail (C := C) (T := T) h0 (sK.trans y3) hG hT hp (hAb.sf y3 id (fun _ => id)) (hBb.sf y3 id (fun _ => id)) y1 rfl (by omega) (fun S' L1 z1 z2 z3 z4 => ih S' L1 z1 z2 z3 (by omega))
theorem l_pg4 (h0 : HP L0 P W) (hG : Good W) : ∀ (n N : Nat) (p a : Int) (S : St) (K : List PC), p + n = pgs W + 1 → 1 ≤ p → n < N → PT S 5 W → Sf F0_ L0 K → K.length + 80 * n < 200000000 → 0 ≤ a → a ≤ 4 * p →
    Ok (lp (fun go q => lb2_Law_pages_4 (pT P) go q.1 q.2.1 q.2.2.1 q.2.2.2) N (a, p, (S, K))) (46 * n) (686 * n) (fun v => ∃ S' K', v = .inr (a + sumR (fun q => 4 - lf W q) p n, (S', K')) ∧ PT S' 5 W ∧ (Off S S' 3 5 ∧ (g S 3 1 ≤ 20 → g S' 3 1 ≤ 20)) ∧ Sf F0_ L0 K' ∧ K'.length ≤ K.length + 80 * n)
  | 0, N + 1, p, a, S, K, hk, hp1, _, hT, hs, hL, a0, a1 => by
    have hV := hG.1
    have h := h0.sf0 hs
    rw [lp_succ]
    show Ok (lb2_Law_pages_4 (pT P) _ a p S K) _ _ _
    unfold lb2_Law_pages_4
    rw [if_pos h.k, l_pages h hV, bnO_s, if_pos (by omega)]
    exact Ok.ret ⟨S, K, by show _ = Sum.inr (a + 0, _); rw [Int.add_zero], hT, ⟨Off.refl, id⟩, hs, Nat.le_refl _⟩
  | n + 1, N + 1, p, a, S, K, hk, hp1, hN, hT, hs, hL, a0, a1 => by
    have lz := ek_lf hG hp1 (by omega : p ≤ pgs W)
    refine (l_pg4s (C := 46 * n) (T := 686 * n) h0 hG ⟨hp1, by omega⟩ hT hs (by omega) a0 a1 (fun S' L1 y1 y2 y3 y4 => ?_)).mono (by omega) (by omega) (fun _ q => q)
    refine (l_pg4 h0 hG n N (p + 1) (a + (4 - lf W p)) S' L1 (by omega) (by omega) (by omega) y1 y3 (by omega) (by omega) (by omega)).mono (Nat.le_refl _) (Nat.le_refl _) (fun v z => ?_)
    obtain ⟨S2, K', z1, z2, z3, z4, z5⟩ := z
    refine ⟨S2, K', ?_, z2, ⟨y2.1.trans z3.1, fun _ => z3.2 y2.2⟩, z4, by omega⟩
    rw [z1, Int.add_assoc]; rfl
theorem l_fill (hT : PT S 5 W) (hG : Good W) : fn_FP_fill 0 S = some (FP.ddiv (i_d (filN W)) (i_d (4 * pgs W))) ∧ (FP.ddiv (i_d (filN W)) (i_d (4 * pgs W)) &&& 0x7fffffffffffffff) ≤ 0x7ff0000000000000 := by
  have bp := hG.1.pg
  have fb := filN_bd hG
  have e1 : g S 5 1 = pgs W := hT.pl.gp
  have sb := sumR_bd (w := fun p => lf W p) (l := 0) (h := 4) (n := (pgs W).toNat) (i := 1) (fun j h1 h2 => lf_bd hG.1 hG.2.1 h1 (by omega))
  have q := lp_sum (body := fun go p => lb_FP_fill_4 0 S go p.1 p.2) (fun p => lf W p) 1 (pgs W + 1) (fun go a i hi => by
      show lb_FP_fill_4 0 S go a i = _
      unfold lb_FP_fill_4
      rw [tg_0_3, e1, if_pos (by omega)])
    (fun go a i ha h1 h2 => by
      show lb_FP_fill_4 0 S go a i = _
      unfold lb_FP_fill_4
      rw [tg_0_3, e1, if_neg (by omega), if_pos ⟨by omega, by omega⟩, tg_5_5, hT.l h1 (by omega), nm_x, nm_x, wr_s (z := i + 1) (by omega) (by omega)]) (n := FU) (a := 0) inR_0 (FU_big (by omega))
  have nn := div_nn (a := filN W) (b := 4 * pgs W) (by omega) (by omega)
  refine ⟨?_, nn⟩
  unfold fn_FP_fill
  rw [show lo_FP_fill_4 0 S FU (0, 1) = some (wr (0 + sumR (fun p => lf W p) 1 (pgs W + 1 - 1).toNat)) from q, bnO_s, tg_0_3, e1, nm_x, Int.zero_add, show (pgs W + 1 - 1).toNat = (pgs W).toNat by omega, wr_s (z := 4 * pgs W) (by omega) (by omega), wr_s (by omega) (by omega), if_neg (by omega)]
  exact if_pos nn
theorem em_end (hG : Good W) : emN W (pgs W) = -1 := by
  have bp := hG.1.pg
  have sp := fstR_spec (p := fun x => decide (ecP W (ekP W x) = pgs W)) (n := (pgs W + 1 - 1).toNat) (i := 1) (by decide)
  unfold emN
  rcases sp with ⟨e, _⟩ | ⟨s1, s2, s3, _⟩
  · exact e
  · exfalso
    have s3 := of_decide_eq_true s3
    obtain ⟨x, hx⟩ : ∃ x, x = fstR (fun x => decide (ecP W (ekP W x) = pgs W)) 1 (pgs W + 1 - 1).toNat := ⟨_, rfl⟩
    rw [← hx] at s1 s2 s3
    have st := sumR_strict (w := fun y => if (fun _ => true) y = true ∧ ekP W y < ekP W x then (1 : Int) else 0) (w' := fun _ => 1) (n := (pgs W).toNat) (i := 1) (fun j _ _ => by
      show (if _ then (1 : Int) else 0) ≤ 1
      split <;> omega) (x := x) s1 (by omega) (by
      show (if (fun _ => true) x = true ∧ ekP W x < ekP W x then (1 : Int) else 0) + 1 ≤ 1
      rw [if_neg (fun q => Int.lt_irrefl _ q.2)]
      decide)
    have so := sumR_bd (w := fun _ : Int => (1 : Int)) (l := 0) (h := 1) (n := (pgs W).toNat) (i := 1) (fun j _ _ => by
      show (0 : Int) ≤ 1 ∧ (1 : Int) ≤ 1
      decide)
    unfold ecP ctK at s3
    omega
theorem l_pages4 (h : HP L P W) (hG : Good W) (hT : PT S 5 W) (hL : L.length < 100000000) :
    Ok (gn_Law_pages (pT P) S L) 2953 43958 (fun v => ∃ S' L', v = (true, (S', L')) ∧ PT S' 5 W ∧ (Off S S' 3 5 ∧ (g S 3 1 ≤ 20 → g S' 3 1 ≤ 20)) ∧ HP L' P W ∧ Sf F0_ L L' ∧ L'.length ≤ L.length + 5120) := by
  have hV := hG.1
  have bp := hV.pg
  have q := l_pg4 h hG (pgs W).toNat FU 1 0 S L (by omega) (Int.le_refl _) (FU_big (by omega)) hT Sf.refl (by omega) (Int.le_refl _) (by omega)
  have es : 0 + sumR (fun q => 4 - lf W q) 1 (pgs W).toNat = filN W := by
    rw [Int.zero_add]
    have e := fil_sum (W := W)
    unfold sumP at e
    rw [e]
    unfold filN
    omega
  rw [es] at q
  unfold gn_Law_pages
  refine Ok.bindT (C1 := 2944) (T1 := 43904) (o := lo2_Law_pages_4 (pT P) FU (0, 1, (S, L))) (Q := fun e => ∃ S' K', e = (filN W, (S', K')) ∧ PT S' 5 W ∧ (Off S S' 3 5 ∧ (g S 3 1 ≤ 20 → g S' 3 1 ≤ 20)) ∧ Sf F0_ L K' ∧ K'.length ≤ L.length + 5120) (q.mono (by omega) (by omega) (fun v z => ?_)) (by omega) (by omega) ?_
  · obtain ⟨S', K', y1, y2, y3, y4, y5⟩ := z
    exact ⟨_, y1, S', K', rfl, y2, y3, y4, by omega⟩
  rintro e ⟨S', K', rfl, hT', o, sf, l⟩
  dsimp only
  have h' := h.sf0 sf
  obtain ⟨f1, f2⟩ := l_fill hT' hG
  rw [if_pos h'.k, l_pages h' hV, bnO_s, em_class hT' hG, em_end hG, bnO_s, if_pos rfl, f1, bnO_s, if_pos h'.k, bnO_s, nm_x, wr_s (z := 4 * pgs W) (by omega) (by omega), if_pos f2, if_pos (dc_self f2), l_runs h' hG hT', bnO_s]
  refine Ok.ad (c := 9) (s := 54) (by omega) (by omega) ?_
  dsimp only
  rw [if_pos rfl]
  exact Ok.ret ⟨S', K', rfl, hT', o, h', sf, by omega⟩
end Page5
