/-! THE LAW WHOLE, behind new FlatPlan() -/
section Lp40
variable {sc : SC} {S : St} {L : List PC} {t c3 : Nat} {T T' : Int} {M M' : Nat} {hs : Int → Vw}
def bC : Nat → Nat
  | 0 => 0
  | n + 1 => bC n + 509 + qC (40 - ((n : Int) + 1)) + 3200
def bT : Nat → Nat
  | 0 => 0
  | n + 1 => bT n + 3191 + qT (40 - ((n : Int) + 1)) + 86000
theorem bC_40 : bC 40 = 343055 := by decide +kernel
theorem bT_40 : bT 40 = 4923600 := by decide +kernel
theorem Iv.mono (h : Iv T M S L t c3) (hT : T ≤ T') (hM : M ≤ M') : Iv T' M' S L t c3 := by
  obtain ⟨P, W, n, hs, H, ⟨h1, h2, h3⟩, h4, ⟨h5, h6, h7⟩, h8⟩ := h
  exact ⟨P, W, n, hs, H, ⟨h1, h2, h3.mono hT⟩, h4, ⟨h5, fun e he => (h6 e he).mono hT, h7⟩, by omega⟩
theorem l_loop (hsc : (nI sc.2).toInt = (sc.2 : Int)) : ∀ (n N : Nat) (a4 : Int) (S : St) (L : List PC) (t : Nat), a4 + n = 40 → 0 ≤ a4 → n < N → Iv (7 * a4) (200000 * (a4.toNat + 1)) S L t c3 →
    Ok (lp (fun go p => lb2_Law_law_93 sc c3 go p.1 p.2.1 p.2.2.1 p.2.2.2) N (Value.ref t, a4, (S, L))) (bC n) (bT n) (fun v => ∃ Z, v = .inr Z ∧ True)
  | 0, N + 1, a4, S, L, t, ha, h0, _, hI => by
    rw [lp_succ]
    show Ok (lb2_Law_law_93 sc c3 _ (Value.ref t) a4 S L) _ _ _
    unfold lb2_Law_law_93
    rw [if_pos (by omega)]
    exact Ok.ret ⟨(S, L), rfl, trivial⟩
  | n + 1, N + 1, a4, S, L, t, ha, h0, hN, hI => by
    obtain ⟨gg, hgg⟩ : ∃ gg, gg = lp (fun go p => lb2_Law_law_93 sc c3 go p.1 p.2.1 p.2.2.1 p.2.2.2) N := ⟨_, rfl⟩
    have eC : bC (n + 1) = bC n + 509 + qC a4 + 3200 := by
      show bC n + 509 + qC (40 - ((n : Int) + 1)) + 3200 = _
      rw [show 40 - ((n : Int) + 1) = a4 by omega]
    have eT : bT (n + 1) = bT n + 3191 + qT a4 + 86000 := by
      show bT n + 3191 + qT (40 - ((n : Int) + 1)) + 86000 = _
      rw [show 40 - ((n : Int) + 1) = a4 by omega]
    obtain ⟨ex, x0, x1⟩ := pk_ok hsc (k := 1 + 4 * a4) (by omega) S L
    obtain ⟨ey, y0, y1⟩ := pk_ok hsc (k := 2 + 4 * a4) (by omega) S L
    obtain ⟨ez, z0, z1⟩ := pk_ok hsc (k := 3 + 4 * a4) (by omega) S L
    obtain ⟨x, hx⟩ : ∃ x, x = pkv sc (1 + 4 * a4) := ⟨_, rfl⟩
    obtain ⟨y, hy⟩ : ∃ y, y = pkv sc (2 + 4 * a4) := ⟨_, rfl⟩
    obtain ⟨z, hz⟩ : ∃ z, z = pkv sc (3 + 4 * a4) := ⟨_, rfl⟩
    rw [← hx] at ex x0 x1
    rw [← hy] at ey y0 y1
    rw [← hz] at ez z0 z1
    -- what stands behind every step
    have aft : ∀ (T' : Int) (M' : Nat) (S' : St) (L' : List PC) (t' : Nat), T' ≤ 7 * (a4 + 1) → M' + 50000 ≤ 200000 * (a4.toNat + 2) → M' ≤ 50000000 → Iv T' M' S' L' t' c3 → Ok (jf2_Law_law_415_93 sc c3 gg (Value.ref t') a4 y z S' L') (bC n + 509 + qC a4) (bT n + 3191 + qT a4) (fun v => ∃ Z, v = .inr Z ∧ True) := fun T' M' S' L' t' hT hM hM2 hI' => by
      refine l_after hI' (by omega) hM2 (by omega) ⟨y0, y1⟩ (fun S2 L2 hI2 => ?_)
      rw [hgg]
      exact l_loop hsc n N (a4 + 1) S2 L2 t' (by omega) (by omega) (by omega) (hI2.mono hT (by omega))
    rw [lp_succ]
    show Ok (lb2_Law_law_93 sc c3 _ (Value.ref t) a4 S L) _ _ _
    rw [← hgg, eC, eT]
    unfold lb2_Law_law_93
    rw [if_neg (by omega), nm_x, wr_s (z := 1 + 4 * a4) (by omega) (by omega), ex, bnO_s, nm_x, wr_s (z := 2 + 4 * a4) (by omega) (by omega), ey, bnO_s, nm_x, wr_s (z := 3 + 4 * a4) (by omega) (by omega), ez, bnO_s]
    have load : Ok (jf2_Law_law_150_93 sc c3 gg (Value.ref t) a4 x y z 0 S L) (bC n + 509 + qC a4 + 3200) (bT n + 3191 + qT a4 + 86000) (fun v => ∃ Z, v = .inr Z ∧ True) :=
      l_load hsc hI (by omega) (by omega) (by omega) ⟨z0, z1⟩ (fun S' L' t' hI' => aft _ _ S' L' t' (by omega) (by omega) (by omega) hI')
    by_cases c : a4 = 0
    · rw [if_pos c]
      exact load
    · have e40 : x.tmod 40 = x % 40 := Int.tmod_eq_emod_of_nonneg x0
      rw [if_neg c, nm_x, e40, wr_s (z := x % 40) (by omega) (by omega)]
      by_cases c0 : x % 40 = 0
      · rw [c0]
        exact load
      · by_cases c34 : 34 ≤ x % 40
        · exact (l_undo hI c34 (by omega) (fun S' L' t' hI' => aft _ _ S' L' t' (by omega) (by omega) (by omega) hI')).mono (by omega) (by omega) (fun _ q => q)
        · exact (l_change hI c0 c34 (by omega) (by omega) ⟨y0, y1⟩ ⟨z0, z1⟩ (fun S' L' hI' => aft _ _ S' L' t (by omega) (by omega) (by omega) hI')).mono (by omega) (by omega) (fun _ q => q)
theorem l_law (hsc : (nI sc.2).toInt = (sc.2 : Int)) (hL : L.length ≤ 10) (hT : PT S 5 (emV 1 16)) (hC : HCl S 0 hs) (h1 : g S 1 1 = 0) (h3 : g S 3 1 ≤ 20) (e6 : g S 61 6 = 0) (e7 : g S 61 7 = -1) :
    Ok (gn_Law_law sc S L) 346600 4971000 (fun v => ∃ Z, v = (true, Z)) := by
  have hG := Good_em (s := 1) (e := 16) (by decide) (.inr (.inr rfl))
  have n0 := N1.of (L := L) (c := (12, dfl 12)) (by omega)
  have len0 : (L ++ [(12, dfl 12)]).length = L.length + 1 := n0.2.1
  obtain ⟨L1, q, e1, eq_, len1, sf1, hp1, ⟨li1, li2, li3⟩, hz1, hz2, hz3⟩ := l_init (S := S) n0.at rfl (by omega)
  rw [len0] at eq_ len1
  have hP := HP_em (L := L1) (t := nCell + L.length) (q := q) (s := 1) (e := 16) (by decide) hp1 li1 li2 li3 hz1 hz2 hz3
  obtain ⟨L2, e2, n2, hl2⟩ := k_newL (S := S) (L := L1) (by omega)
  have hP2 := hP.sf0 n2.sf0
  have len2 := n2.2.1
  have hO2 : HsO L2 (nCell + L.length, ((q, XB + 300 + 300, 0, 0, []), (q + 1, XB + 300 + 300, 0, 0, []), (q + 2, XB + 300 + 300, 0, 0, [])), q + 3, q + 4, q + 5) (nCell + L1.length) [] := ⟨⟨_, _, _, hl2, fun b hb hx z => by
    have := fp_old hP b z hx
    rcases hb with e | e
    · omega
    · rw [e] at hx; omega, fun e he => absurd he List.not_mem_nil⟩, fun e he => absurd he List.not_mem_nil, List.Pairwise.nil⟩
  unfold gn_Law_law
  rw [if_pos (by omega), nw_x]
  refine Ok.ad (c := 1) (s := 10) (by omega) (by omega) ?_
  rw [e1, bnO_s]
  refine Ok.ad (c := 6) (s := 33) (by omega) (by omega) ?_
  dsimp only
  rw [if_pos (by omega), nw_x]
  refine Ok.ad (c := 1) (s := 3) (by omega) (by omega) ?_
  rw [e2, bnO_s]
  refine Ok.ad (c := 0) (s := 0) (Nat.zero_le _) (Nat.zero_le _) ?_
  dsimp only
  refine Ok.bind (l_same hP2 hG hT hC.2.1 (by omega)) (by omega) (by omega) ?_
  rintro v cc ss ⟨L3, rfl, s3, l3⟩
  have hP3 := hP2.sf0 s3
  have hO3 := hO2.sf0 s3
  dsimp only
  rw [if_pos rfl]
  refine Ok.bind (l_pages4 hP3 hG hT (by omega)) (by omega) (by omega) ?_
  rintro v cc ss ⟨S4, L4, rfl, pt4, ⟨o4, d4⟩, hP4, s4, l4⟩
  have hO4 := hO3.sf0 s4
  have hC4 := hC.off o4 (by omega)
  have dd := d4 h3
  have eU := (cl_undo pt4 (fun j j0 j1 => by omega) hC4).1 rfl
  have eD : fn_FP_describedByte 0 99 S4 = some (-1) := by
    unfold fn_FP_describedByte
    rw [if_neg (by decide), tg_0_5, if_pos (by omega)]
  have eTi : fn_FP_tightest 0 S4 = some (-1) := cl_tightest pt4 hG
  obtain ⟨jn, hj⟩ := JnW.ex (W := emV 1 16)
  obtain ⟨S5, eM, o5⟩ := cl_matching hj pt4
  have eM : fn_FP_matching 0 S4 = some (0, S5) := eM
  dsimp only
  rw [if_pos rfl, FP_ec, bnO_s, o4.rd (by omega), e6, if_pos rfl, FP_ep, bnO_s, o4.rd (by omega), e7, if_pos rfl, eU, bnO_s]
  dsimp only
  rw [if_neg Bool.false_ne_true, eD, bnO_s, if_pos rfl, eTi, bnO_s, if_pos rfl, eM, bnO_s]
  dsimp only
  rw [if_pos rfl]
  have hI : Iv (7 * 0) (200000 * ((0 : Int).toNat + 1)) S5 L4 (nCell + L.length) (nCell + L1.length) := ⟨_, emV 1 16, 0, hs, [], ⟨rfl, hP4, ⟨hG, by decide, by decide, fun f f0 f1 => by
    have f1 : f < 2 * 1 := f1
    rw [emV_16 f0 f1]; decide⟩⟩, ⟨pt4.off o5 (by omega), hC4.off o5 (by omega), by rw [o5.rd (by omega), o4.rd (by omega), h1]; exact Int.le_refl _⟩, ⟨HHs.nil, fun e he => absurd he List.not_mem_nil, hO4⟩, by show L4.length ≤ 200000 * (0 + 1); omega⟩
  have lp40 := l_loop hsc 40 FU 0 S5 L4 (nCell + L.length) (by decide) (Int.le_refl _) (FU_big (by decide)) hI
  rw [bC_40, bT_40] at lp40
  refine Ok.bindT (C1 := 343055) (T1 := 4923600) (o := lo2_Law_law_93 sc (nCell + L1.length) FU (Value.ref (nCell + L.length), 0, (S5, L4))) (Q := fun _ => True) lp40 (by omega) (by omega) (fun e _ => ?_)
  exact Ok.ret ⟨_, rfl⟩
end Lp40
