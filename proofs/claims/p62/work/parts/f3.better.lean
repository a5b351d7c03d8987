/-! THE BETTER EXCHANGE -/
theorem idx4B {W : Vw} (hV : Val W) (hW : Wf W) {p : Int} (hp : 1 ≤ p ∧ p ≤ pgs W) : (idxs (at_ W 13) p (nB W).toNat).length ≤ 4 := by
  have q := hW.1 p hp.1 hp.2
  unfold rawR sumA sumB at q
  rw [sumR_neg, sumR_neg] at q
  have e1 := idxs_len (w := at_ W 13) (p := p) (n := (nB W).toNat)
  have e2 := sumR_le (w := fun i => if at_ W 13 i = p then (1 : Int) else 0) (w' := szB W p (-1)) (n := (nB W).toNat) (i := 0) (fun j h1 h2 => by
    have v := hV.2.2.2.1 j h1 (by omega)
    show (if at_ W 13 j = p then (1 : Int) else 0) ≤ szB W p (-1) j
    unfold szB
    by_cases c : at_ W 13 j = p
    · rw [if_pos c, if_pos ⟨by omega, c⟩]; omega
    · rw [if_neg c, if_neg (fun z => c z.2)]; omega)
  have e3 := sumR_bd (w := szA W p (-1)) (l := 0) (h := 4) (n := (nA W).toNat) (i := 0) (fun j h1 h2 => by
    have v := hV.2.1 j h1 (by omega)
    show 0 ≤ szA W p (-1) j ∧ szA W p (-1) j ≤ 4
    unfold szA
    split <;> omega)
  omega
section OnPage
variable {S : St} {L : List PC} {P : PA} {W : Vw}
theorem l_onA (h : HP L P W) (hV : Val W) (hW : Wf W) {p : Int} (hp : 1 ≤ p ∧ p ≤ pgs W) (hL : L.length < 700000000) {t : Nat} :
    Ok (gn_LP_on t (pA P).1 p S L) 2 13 (fun v => ∃ L' r m c, v = (Value.ref (nCell + L.length), (S, L')) ∧ LsH L' (nCell + L.length) r m c ((idxs (at_ W 6) p (nA W).toNat).map bx) ∧ Sf F0_ L L' ∧ L'.length ≤ L.length + 2 ∧ (r < XB → nCell + L.length ≤ r)) := by
  have b := hV.z
  have hlen : ((xA P).length : Int) = nA W := h.2.1.1
  have el : (pA P).2.2.2.2.length = (nA W).toNat := by show (xA P).length = _; omega
  have h4 := idx4 hV hW hp
  have on := l_on (S := S) (A := pA P) (w := at_ W 6) (p := p) (t := t) h.lA (fun i x hx => ⟨adV W i, h.1.2.2.1 _ _ hx, by rw [at_n]; rfl, by
    have hl := (List.getElem?_eq_some_iff.mp hx).1
    rw [at_n]
    exact (val_in hV).2.1 i (by omega) 6 (by decide)⟩) (by rw [el]; omega) (by rw [el]; omega) hL
  rw [el] at on
  exact on
theorem l_onB (h : HP L P W) (hV : Val W) (hW : Wf W) {p : Int} (hp : 1 ≤ p ∧ p ≤ pgs W) (hL : L.length < 700000000) {t : Nat} :
    Ok (gn_LP_on t (pB P).1 p S L) 2 13 (fun v => ∃ L' r m c, v = (Value.ref (nCell + L.length), (S, L')) ∧ LsH L' (nCell + L.length) r m c ((idxs (at_ W 13) p (nB W).toNat).map bx) ∧ Sf F0_ L L' ∧ L'.length ≤ L.length + 2 ∧ (r < XB → nCell + L.length ≤ r)) := by
  have b := hV.z
  have hlen : ((xB P).length : Int) = nB W := h.2.1.2.2
  have el : (pB P).2.2.2.2.length = (nB W).toNat := by show (xB P).length = _; omega
  have h4 := idx4B hV hW hp
  have on := l_on (S := S) (A := pB P) (w := at_ W 13) (p := p) (t := t) h.lB (fun i x hx => ⟨sbV W i, h.1.2.2.2.2.1 _ _ hx, by rw [at_n]; rfl, by
    have hl := (List.getElem?_eq_some_iff.mp hx).1
    rw [at_n]
    exact (val_in hV).2.2.2.1 i (by omega) 13 (by decide) (by decide)⟩) (by rw [el]; omega) (by rw [el]; omega) hL
  rw [el] at on
  exact on
end OnPage
section Better
variable {S : St} {L K : List PC} {P : PA} {W : Vw} {a b : Int}
theorem colS_eq (hV : Val W) : colS W = colF W := by
  unfold colS colF
  refine sumR_congr (fun j _ _ => ?_)
  show (if hasC W j = true then (1 : Int) else 0) = pos1 (cpN W j)
  rw [hasC_cp hV]
  unfold pos1
  by_cases c : 0 < cpN W j
  · rw [decide_eq_true c, if_pos rfl, if_neg (by omega)]
  · rw [decide_eq_false c, if_neg Bool.false_ne_true, if_pos (by omega)]
theorem idxs_nil {p : Int} (h : idxs (at_ W 6) p (nA W).toNat = []) : adsO W p = 0 := by
  have e := idxs_len (w := at_ W 6) (p := p) (n := (nA W).toNat)
  rw [h] at e
  unfold adsO sumA
  rw [← e]
  exact wr_s (by decide) (by decide)
theorem l_bet75 {C T : Nat} {R : Int × Int × LZ → Prop} {s : Int × Int} {go : Int × Int × Int × LZ → Option ((Int × Int × LZ) × Nat × Nat)} (h : HP K P W) (hV : Val W) (ha : 1 ≤ a) (hab : a < b) (hb : b ≤ pgs W) (hs : 0 ≤ s.2) (hK : K.length < 600000000)
    (hgo : ∀ K', HP K' P W → Sf (fpP P) K K' → K'.length ≤ K.length + 24 → Ok (go ((bxF W a b s).1, colF W - (bxF W a b s).2, b + 1, (S, K'))) C T R) : Ok (jf2_Law_better_75_34 (pT P) a go s.1 (colF W - s.2) b S K) (C + 24) (T + 96) R := by
  have pb := hV.pg
  have hp : 1 ≤ a ∧ a ≤ pgs W := by omega
  have hq : 1 ≤ b ∧ b ≤ pgs W := by omega
  have i1 : wr (b + 1) = b + 1 := wr_s (by omega) (by omega)
  unfold jf2_Law_better_75_34
  rw [if_pos h.k]
  refine Ok.bind (l_exReason (S := S) h hV hp hq (by omega)) (by omega) (by omega) ?_
  rintro v cc ss ⟨K1, rfl, h1, s1, l1⟩
  show Ok (if exR W a b ≤ 0 then (if isK K1 (pT P) 12 = true then (bnO (gn_LP_swap (pT P) a b S K1) fun p20 => adC p20.2.1 p20.2.2 (if isK p20.1.2 (pT P) 12 = true then (bnO (gn_LP_colored (pT P) p20.1.1 p20.1.2) fun p22 => adC p22.2.1 p22.2.2 (if isK p22.1.2.2 (pT P) 12 = true then (bnO (gn_LP_swap (pT P) a b p22.1.2.1 p22.1.2.2) fun p24 => adC p24.2.1 p24.2.2 (if p22.1.1 < colF W - s.2 then (nm (wr ((100 * a) + b)) fun v26 => nm (wr (b + 1)) fun v27 => go (v26, p22.1.1, v27, (p24.1.1, p24.1.2))) else (nm (wr (b + 1)) fun v28 => go (s.1, colF W - s.2, v28, (p24.1.1, p24.1.2))))) else none)) else none)) else none) else (nm (wr (b + 1)) fun v30 => go (s.1, colF W - s.2, v30, (S, K1)))) _ _ _
  have exb : exR W a b = 0 ∨ 0 < exR W a b := by
    unfold exR
    split
    · exact .inr (by decide)
    · split
      · exact .inr (by decide)
      · have mv := exM_v (W := mpV W (exF a b)) (p := a) (q := b)
        split
        · exact .inl rfl
        · rename_i c
          rcases mv with mv | mv
          · exact absurd mv c
          · exact .inr (by omega)
  rcases exb with c1 | c1
  · rw [if_pos (by omega), if_pos h1.k]
    obtain ⟨K2, e2, h2, s2, l2⟩ := l_swap (S := S) h1 hV hp hq (by omega)
    have hV2 := (mpV_Val hV hp hq).1
    have hpg := (mpV_Val hV hp hq).2
    rw [e2, bnO_s]
    refine Ok.ad (c := 2) (s := 8) (by omega) (by omega) ?_
    show Ok (if isK K2 (pT P) 12 = true then _ else none) _ _ _
    rw [if_pos h2.k]
    show Ok (bnO (gn_LP_colored (pT P) S K2) _) _ _ _
    refine Ok.bind (l_colored (S := S) h2 hV2 (by omega)) (by omega) (by omega) ?_
    rintro v cc ss ⟨K3, rfl, l3, s3⟩
    have h3 := h2.sf0 s3
    show Ok (if isK K3 (pT P) 12 = true then _ else none) _ _ _
    rw [if_pos h3.k]
    obtain ⟨K4, e4, h4, s4, l4⟩ := l_swap (S := S) h3 hV2 (p := a) (q := b) (by rw [hpg]; exact hp) (by rw [hpg]; exact hq) (by omega)
    rw [mpV_inv exF_inv] at h4
    show Ok (bnO (gn_LP_swap (pT P) a b S K3) _) _ _ _
    rw [e4, bnO_s]
    refine Ok.ad (c := 2) (s := 8) (by omega) (by omega) ?_
    have sf := exR_free c1
    have ef := few_ex hV hp hq (by omega : a ≠ b) sf.1 sf.2
    have g := hgo K4 h4 ((s1.trans s2).trans ((s3.mono (fun _ z => z.elim)).trans s4)) (by omega)
    show Ok (if colS (mpV W (exF a b)) < colF W - s.2 then (nm (wr ((100 * a) + b)) fun v26 => nm (wr (b + 1)) fun v27 => go (v26, colS (mpV W (exF a b)), v27, (S, K4))) else (nm (wr (b + 1)) fun v28 => go (s.1, colF W - s.2, v28, (S, K4)))) _ _ _
    rw [colS_eq hV2, ef, nm_x, nm_x, nm_x, i1, wr_s (z := 100 * a + b) (by omega) (by omega)]
    unfold bxF at g
    by_cases c2 : s.2 < few W a b
    · rw [if_pos ⟨c2, c1⟩] at g
      rw [if_pos (by omega)]
      exact g.mono (by omega) (by omega) (fun _ z => z)
    · rw [if_neg (fun z => c2 z.1)] at g
      rw [if_neg (by omega)]
      exact g.mono (by omega) (by omega) (fun _ z => z)
  · rw [if_neg (by omega), nm_x, i1]
    have g := hgo K1 h1 s1 (by omega)
    unfold bxF at g
    rw [if_neg (fun z => by omega)] at g
    exact g.mono (by omega) (by omega) (fun _ z => z)
theorem l_bet34 (hV : Val W) (hW : Wf W) (ha : 1 ≤ a) : ∀ (n N : Nat) (b : Int) (s : Int × Int) (K : List PC), b + n = pgs W + 1 → a < b → n < N → HP K P W → 0 ≤ s.2 → K.length + 28 * n < 600000000 →
    Ok (lp (fun go p => lb2_Law_better_34 (pT P) a go p.1 p.2.1 p.2.2.1 p.2.2.2.1 p.2.2.2.2) N (s.1, colF W - s.2, b, (S, K))) (28 * n) (122 * n) (fun v => ∃ K', v = ((itR (bxF W a) b n s).1, colF W - (itR (bxF W a) b n s).2, (S, K')) ∧ HP K' P W ∧ Sf (fpP P) K K' ∧ K'.length ≤ K.length + 28 * n)
  | 0, N + 1, b, s, K, hk, hab, _, h, hs, hK => by
    rw [lp_succ]
    show Ok (lb2_Law_better_34 (pT P) a _ s.1 (colF W - s.2) b S K) _ _ _
    unfold lb2_Law_better_34
    rw [if_pos h.k, l_pages h hV, bnO_s, if_pos (by omega)]
    exact Ok.ret ⟨K, rfl, h, Sf.refl, Nat.le_refl _⟩
  | n + 1, N + 1, b, s, K, hk, hab, hN, h, hs, hK => by
    have pb := hV.pg
    have i1 : wr (b + 1) = b + 1 := wr_s (by omega) (by omega)
    have hs' : 0 ≤ (bxF W a b s).2 := by
      unfold bxF
      split
      · rename_i c; show 0 ≤ few W a b; omega
      · exact hs
    have ih : ∀ K', HP K' P W → Sf (fpP P) K K' → K'.length ≤ K.length + 28 → Ok (lp (fun go p => lb2_Law_better_34 (pT P) a go p.1 p.2.1 p.2.2.1 p.2.2.2.1 p.2.2.2.2) N ((bxF W a b s).1, colF W - (bxF W a b s).2, b + 1, (S, K'))) (28 * n) (122 * n) (fun v => ∃ K', v = ((itR (bxF W a) b (n + 1) s).1, colF W - (itR (bxF W a) b (n + 1) s).2, (S, K')) ∧ HP K' P W ∧ Sf (fpP P) K K' ∧ K'.length ≤ K.length + 28 * (n + 1)) := fun K' h' s' l' => by
      have q := l_bet34 hV hW ha n N (b + 1) (bxF W a b s) K' (by omega) (by omega) (by omega) h' hs' (by omega)
      refine q.mono (Nat.le_refl _) (Nat.le_refl _) (fun v z => ?_)
      obtain ⟨K2, z1, z2, z3, z4⟩ := z
      exact ⟨K2, z1, z2, s'.trans z3, by omega⟩
    rw [lp_succ]
    show Ok (lb2_Law_better_34 (pT P) a _ s.1 (colF W - s.2) b S K) _ _ _
    unfold lb2_Law_better_34
    rw [if_pos h.k, l_pages h hV, bnO_s, if_neg (by omega), h.fA, bnO_s, rfB_r, if_pos h.k]
    refine Ok.bind (l_onA (S := S) h hV hW (p := a) (by omega) (by omega)) (by omega) (by omega) ?_
    rintro v cc ss ⟨K1, r1, m1, c1, rfl, hl1, sf1, len1, -⟩
    have h1 := h.sf0 sf1
    have sf1' : Sf (fpP P) K K1 := sf1.mono (fun _ z => z.elim)
    show Ok (rfB (Value.ref (nCell + K.length)) fun r14 => if isK K1 r14 13 = true then (bnO (gn_AL_isEmpty r14 S K1) fun p15 => if p15 = true then (bnO (gfV K1 (pT P) 12 4) fun v32 => rfB v32 fun r33 => if isK K1 (pT P) 12 = true then (bnO (gn_LP_on (pT P) r33 b S K1) fun p34 => adC p34.2.1 p34.2.2 (rfB p34.1.1 fun r36 => if isK p34.1.2.2 r36 13 = true then (bnO (gn_AL_isEmpty r36 p34.1.2.1 p34.1.2.2) fun p37 => if p37 = true then (nm (wr (b + 1)) fun v40 => _) else (jf2_Law_better_75_34 (pT P) a _ s.1 (colF W - s.2) b p34.1.2.1 p34.1.2.2)) else none)) else none) else (jf2_Law_better_75_34 (pT P) a _ s.1 (colF W - s.2) b S K1)) else none) _ _ _
    rw [rfB_r, if_pos hl1.k, k_isEmpty hl1, bnO_s]
    by_cases c : (idxs (at_ W 6) a (nA W).toNat).map bx = []
    · rw [if_pos (decide_eq_true c), h1.fA, bnO_s, rfB_r, if_pos h1.k]
      refine Ok.bind (l_onA (S := S) h1 hV hW (p := b) (by omega) (by omega)) (by omega) (by omega) ?_
      rintro v cc ss ⟨K2, r2, m2, c2, rfl, hl2, sf2, len2, -⟩
      have h2 := h1.sf0 sf2
      have sf2' : Sf (fpP P) K K2 := sf1'.trans (sf2.mono (fun _ z => z.elim))
      show Ok (rfB (Value.ref (nCell + K1.length)) fun r36 => if isK K2 r36 13 = true then (bnO (gn_AL_isEmpty r36 S K2) fun p37 => if p37 = true then (nm (wr (b + 1)) fun v40 => _) else (jf2_Law_better_75_34 (pT P) a _ s.1 (colF W - s.2) b S K2)) else none) _ _ _
      rw [rfB_r, if_pos hl2.k, k_isEmpty hl2, bnO_s]
      by_cases c' : (idxs (at_ W 6) b (nA W).toNat).map bx = []
      · rw [if_pos (decide_eq_true c'), nm_x, i1]
        have e : bxF W a b s = s := by
          unfold bxF
          rw [if_neg]
          rintro ⟨z1, z2⟩
          have sf := exR_free z2
          have z3 := few_none hV sf.1 sf.2 (by omega : 1 ≤ a) (by omega : 1 ≤ b) (by rw [idxs_nil (List.map_eq_nil_iff.mp c), idxs_nil (List.map_eq_nil_iff.mp c')]; rfl)
          omega
        have g := ih K2 h2 sf2' (by omega)
        rw [e] at g
        exact g.mono (by omega) (by omega) (fun _ z => z)
      · rw [if_neg (by rw [decide_eq_true_eq]; exact c')]
        exact (l_bet75 h2 hV ha hab (by omega) hs (by omega) (fun K' q1 q2 q3 => ih K' q1 (sf2'.trans q2) (by omega))).mono (by omega) (by omega) (fun _ z => z)
    · rw [if_neg (by rw [decide_eq_true_eq]; exact c)]
      exact (l_bet75 h1 hV ha hab (by omega) hs (by omega) (fun K' q1 q2 q3 => ih K' q1 (sf1'.trans q2) (by omega))).mono (by omega) (by omega) (fun _ z => z)
def triN : Nat → Nat
  | 0 => 0
  | n + 1 => n + triN n
theorem triN_le : ∀ n : Nat, n < 33 → triN n ≤ 496 := by decide +kernel
theorem l_bet10 (hV : Val W) (hW : Wf W) (h32 : pgs W ≤ 32) : ∀ (n N : Nat) (a : Int) (s : Int × Int) (K : List PC), a + n = pgs W + 1 → 1 ≤ a → n < N → HP K P W → 0 ≤ s.2 → K.length + 28 * triN n < 500000000 →
    Ok (lp (fun go p => lb2_Law_better_10 (pT P) go p.1 p.2.1 p.2.2.1 p.2.2.2.1 p.2.2.2.2) N (s.1, colF W - s.2, a, (S, K))) (28 * triN n) (122 * triN n) (fun v => ∃ K', v = ((itR (bxG W) a n s).1, (S, K')) ∧ HP K' P W ∧ Sf (fpP P) K K' ∧ K'.length ≤ K.length + 28 * triN n)
  | 0, N + 1, a, s, K, hk, ha, _, h, hs, hK => by
    rw [lp_succ]
    show Ok (lb2_Law_better_10 (pT P) _ s.1 (colF W - s.2) a S K) _ _ _
    unfold lb2_Law_better_10
    rw [if_pos h.k, l_pages h hV, bnO_s, if_pos (by omega)]
    exact Ok.ret ⟨K, rfl, h, Sf.refl, Nat.le_add_right _ _⟩
  | n + 1, N + 1, a, s, K, hk, ha, hN, h, hs, hK => by
    have pb := hV.pg
    have i1 : wr (a + 1) = a + 1 := wr_s (by omega) (by omega)
    have et : triN (n + 1) = n + triN n := rfl
    have q := l_bet34 (S := S) hV hW ha n FU (a + 1) s K (by omega) (by omega) (FU_big (by omega)) h hs (by omega)
    have eb : bxG W a s = itR (bxF W a) (a + 1) n s := by
      unfold bxG
      rw [show (pgs W + 1 - (a + 1)).toNat = n by omega]
    rw [lp_succ]
    show Ok (lb2_Law_better_10 (pT P) _ s.1 (colF W - s.2) a S K) _ _ _
    unfold lb2_Law_better_10
    rw [if_pos h.k, l_pages h hV, bnO_s, if_neg (by omega), if_pos h.k, bnO_s, if_neg (by omega), nm_x, i1]
    show Ok (bnO (lo2_Law_better_34 (pT P) a FU (s.1, colF W - s.2, a + 1, (S, K))) _) _ _ _
    refine Ok.bind (C1 := 28 * n) (T1 := 122 * n) q (by omega) (by omega) ?_
    rintro v cc ss ⟨K1, rfl, h1, s1, l1⟩
    dsimp only
    rw [nm_x, ← eb]
    have ih := l_bet10 hV hW h32 n N (a + 1) (bxG W a s) K1 (by omega) (by omega) (by omega) h1 (bxG_nn hs) (by omega)
    refine ih.mono (by omega) (by omega) (fun v z => ?_)
    obtain ⟨K2, z1, z2, z3, z4⟩ := z
    exact ⟨K2, z1, z2, s1.trans z3, by omega⟩
theorem l_better (h : HP L P W) (hG : Good W) (hT : PT S 5 W) (hL : L.length < 400000000) : Ok (gn_Law_better (pT P) S L) 13904 60576 (fun v => ∃ S1 L', v = (true, (S1, L')) ∧ Off S S1 512 514 ∧ HP L' P W ∧ Sf (fpP P) L L' ∧ L'.length ≤ L.length + 13904) := by
  have hV := hG.1
  have pb := hV.pg
  unfold gn_Law_better
  rw [if_pos h.k]
  refine Ok.bind (l_colored (S := S) h hV (by omega)) (by omega) (by omega) ?_
  rintro v cc ss ⟨K1, rfl, l1, s1⟩
  have h1 := h.sf0 s1
  have s1' : Sf (fpP P) L K1 := s1.mono (fun _ z => z.elim)
  by_cases c : pgs W ≤ 32
  · have t32 := triN_le (pgs W).toNat (by omega)
    have q := l_bet10 (S := S) hV hG.2.1 c (pgs W).toNat FU 1 (-1, 0) K1 (by omega) (Int.le_refl _) (FU_big (by omega)) h1 (Int.le_refl _) (by omega)
    show Ok (bnO (lo2_Law_better_10 (pT P) FU (-1, colS W, 1, (S, K1))) _) _ _ _
    have ec : colS W = colF W - ((-1 : Int), (0 : Int)).2 := by rw [colS_eq hV]; exact (Int.sub_zero _).symm
    rw [ec]
    refine Ok.bind (C1 := 13888) (T1 := 60512) (q.mono (by omega) (by omega) (fun _ z => z)) (by omega) (by omega) ?_
    rintro v cc ss ⟨K2, rfl, h2, s2, l2⟩
    show Ok (if isK K2 (pT P) 12 = true then (bnO (gn_LP_pages (pT P) S K2) _) else none) _ _ _
    rw [if_pos h2.k, l_pages h2 hV, bnO_s, if_neg (by omega)]
    obtain ⟨S1, e3, o3⟩ := bx_class hT hG
    show Ok (bnO (fn_FP_betterExchange 0 S) _) _ _ _
    rw [e3, bnO_s]
    have eb : (bxN W).1 = (itR (bxG W) 1 (pgs W).toNat (-1, 0)).1 := by
      unfold bxN
      rw [show (pgs W + 1 - 1).toNat = (pgs W).toNat by omega]
    rw [eb, if_pos rfl]
    exact Ok.ret ⟨S1, K2, rfl, o3, h2, s1'.trans s2, by omega⟩
  · show Ok (bnO (lo2_Law_better_10 (pT P) FU (-1, colS W, 1, (S, K1))) _) _ _ _
    have q : lo2_Law_better_10 (pT P) FU (-1, colS W, 1, (S, K1)) = some ((-1, (S, K1)), 0, 0) := by
      show lb2_Law_better_10 (pT P) _ (-1) (colS W) 1 S K1 = _
      unfold lb2_Law_better_10
      rw [if_pos h1.k, l_pages h1 hV, bnO_s, if_neg (by omega), if_pos h1.k, bnO_s, if_pos (by omega)]
    rw [q, bnO_s]
    refine Ok.ad (Nat.zero_le _) (Nat.zero_le _) ?_
    show Ok (if isK K1 (pT P) 12 = true then (bnO (gn_LP_pages (pT P) S K1) _) else none) _ _ _
    rw [if_pos h1.k, l_pages h1 hV, bnO_s, if_pos (by omega)]
    exact Ok.ret ⟨S, K1, rfl, Off.refl, h1, s1', by omega⟩
end Better
