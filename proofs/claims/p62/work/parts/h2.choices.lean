/-! CHOICES: the whole question -/
section Choices
variable {S : St} {L L0 K : List PC} {P : PA} {W : Vw}
theorem cl_matching {jn : (Int → Bool) → Int → Bool} (hj : JnW W jn) (h : PT S 5 W) : ∃ S', fn_FP_matching 0 S = some ((mtN W jn (nA W)).1, S') ∧ Off S S' 508 512 := by
  obtain ⟨S', e, o⟩ := S_matched hj h
  refine ⟨S', ?_, o⟩
  unfold fn_FP_matching
  rw [tg_0_2, e, bnO_s]
theorem reas_out {a p : Int} (h : ¬ (1 ≤ p ∧ p ≤ pgs W)) : reas W a p = 1 := by
  unfold reas
  rw [if_neg (show ¬ isP W p = true from fun z => h (of_decide_eq_true z))]
theorem chcs_all (hV : Val W) {a : Int} : wr (sumR (fun q => if reas W a q = 0 then 1 else 0) 0 (pgs W + 2).toNat) = chcs W a := by
  have pb := hV.pg
  unfold chcs sumP
  rw [show (pgs W + 2).toNat = ((pgs W).toNat + 1) + 1 by omega, sumR_snoc]
  show wr (((if reas W a 0 = 0 then (1 : Int) else 0) + sumR (fun q => if reas W a q = 0 then 1 else 0) (0 + 1) (pgs W).toNat) + (if reas W a (0 + (((pgs W).toNat + 1 : Nat) : Int)) = 0 then 1 else 0)) = _
  rw [reas_out (p := 0) (by omega), reas_out (p := 0 + (((pgs W).toNat + 1 : Nat) : Int)) (by omega)]
  congr 1
  rw [if_neg (by decide), Int.zero_add, Int.add_zero, Int.zero_add]
theorem l_ch41 {a2 a3 a4 k : Int} {x : Nat} (h : HP K P W) (hG : Good W) (hT : PT S 5 W) (hk : 0 ≤ k ∧ k < nA W) (hx : (xA P)[k.toNat]? = some x) : ∀ (n N : Nat) (p : Int), p + n = pgs W + 2 → 0 ≤ p → n < N →
    Ok (lp (fun go q => lb2_Law_choices_41 (pT P) a2 a3 a4 k x go q.1 q.2.1 q.2.2.1 q.2.2.2) N (wr (sumR (fun q => if reas W k q = 0 then 1 else 0) 0 p.toNat), p, (S, K))) n (6 * n) (fun v => v = .inr (chcs W k, (S, K)))
  | 0, N + 1, p, hp, h0, _ => by
    have hV := hG.1
    have pb := hV.pg
    rw [lp_succ]
    show Ok (lb2_Law_choices_41 (pT P) a2 a3 a4 k x _ (wr (sumR (fun q => if reas W k q = 0 then 1 else 0) 0 p.toNat)) p S K) _ _ _
    unfold lb2_Law_choices_41
    rw [if_pos h.k, l_pages h hV, bnO_s, nm_x, wr_s (z := pgs W + 1) (by omega) (by omega), if_pos (by omega), show p = pgs W + 2 by omega, chcs_all hV]
    exact Ok.ret rfl
  | n + 1, N + 1, p, hp, h0, hN => by
    have hV := hG.1
    have bz := hV.z
    have pb := hV.pg
    have i1 : wr (p + 1) = p + 1 := wr_s (by omega) (by omega)
    have ih := l_ch41 (a2 := a2) (a3 := a3) (a4 := a4) h hG hT hk hx n N (p + 1) (by omega) (by omega) (by omega)
    rw [show (p + 1).toNat = p.toNat + 1 by omega, sumR_snoc, show (0 : Int) + (p.toNat : Int) = p by omega, ← wr_add] at ih
    rw [lp_succ]
    show Ok (lb2_Law_choices_41 (pT P) a2 a3 a4 k x _ (wr (sumR (fun q => if reas W k q = 0 then 1 else 0) 0 p.toNat)) p S K) _ _ _
    unfold lb2_Law_choices_41
    rw [if_pos h.k, l_pages h hV, bnO_s, nm_x, wr_s (z := pgs W + 1) (by omega) (by omega), if_neg (by omega), if_pos h.k, l_reason (S := S) h hV hk hx (p := p) (by unfold inR; omega), bnO_s]
    refine Ok.ad (c := 0) (s := 0) (Nat.zero_le _) (Nat.zero_le _) ?_
    dsimp only
    rw [c_reason hT hG (by unfold inR; omega) (by unfold inR; omega) hk, bnO_s]
    dsimp only
    rw [if_pos rfl]
    refine Ok.ad (c := 1) (s := 6) (by omega) (by omega) ?_
    rw [if_pos rfl]
    by_cases c : reas W k p = 0
    · rw [if_pos c] at ih
      rw [if_pos c, nm_x, nm_x, i1]
      exact ih.mono (by omega) (by omega) (fun _ z => z)
    · rw [if_neg c] at ih
      rw [if_neg c, nm_x, nm_x, i1]
      exact ih.mono (by omega) (by omega) (fun _ z => z)
def fwE (s : Int × Int) : Int := if s.1 = -1 then 99 else s.2
theorem l_ch9 {a2 : Int} (h : HP K P W) (hG : Good W) (hT : PT S 5 W) : ∀ (n N k : Nat) (s : Int × Int), (k : Int) + n = nA W → n < N → s = itR (tiS W) 0 k (-1, 0) → (s.1 = -1 ∨ (0 ≤ s.1 ∧ s.2 ≤ 64)) →
    Ok (lp (fun go q => lb2_Law_choices_9 (pT P) a2 go q.1 q.2.1 q.2.2.1 q.2.2.2.1 q.2.2.2.2) N (s.1, fwE s, (k : Int), (S, K))) (67 * n) (402 * n) (fun v => v = .inr (tgh W, (S, K)))
  | 0, N + 1, k, s, hk, _, es, _ => by
    have hV := hG.1
    rw [lp_succ]
    show Ok (lb2_Law_choices_9 (pT P) a2 _ s.1 (fwE s) (k : Int) S K) _ _ _
    unfold lb2_Law_choices_9
    rw [h.fA, bnO_s, rfB_r, if_pos h.kA, h.cA, bnO_s, if_pos (by omega)]
    refine Ok.ret ?_
    unfold tgh
    rw [es, show (nA W).toNat = k by omega]
  | n + 1, N + 1, k, s, hk, hN, es, hs => by
    have hV := hG.1
    have bz := hV.z
    have pb := hV.pg
    have hka : 0 ≤ (k : Int) ∧ (k : Int) < nA W := by omega
    obtain ⟨x, hx, hg, hy⟩ := h.ad hka
    obtain ⟨kk, -, -, -, -, -, f5, -⟩ := ad_f hV hka hy
    have v := hV.2.1 k hka.1 hka.2
    have i1 : wr ((k : Int) + 1) = ((k + 1 : Nat) : Int) := wr_s (by omega) (by omega)
    have cb := chcs_b hV (a := (k : Int))
    have es' : tiS W k s = itR (tiS W) 0 (k + 1) (-1, 0) := by rw [es, itR_snoc, Int.zero_add]
    have hs' : (tiS W k s).1 = -1 ∨ (0 ≤ (tiS W k s).1 ∧ (tiS W k s).2 ≤ 64) := by
      unfold tiS
      split
      · split
        · exact .inr ⟨by show 0 ≤ (k : Int); omega, cb.2⟩
        · exact hs
      · exact hs
    have ih := l_ch9 (a2 := a2) h hG hT n N (k + 1) (tiS W k s) (by omega) (by omega) es' hs'
    have q := l_ch41 (S := S) (a2 := a2) (a3 := s.1) (a4 := fwE s) h hG hT hka hx (pgs W + 2).toNat FU 0 (by omega) (Int.le_refl _) (FU_big (by omega))
    rw [lp_succ]
    show Ok (lb2_Law_choices_9 (pT P) a2 _ s.1 (fwE s) (k : Int) S K) _ _ _
    unfold lb2_Law_choices_9
    rw [h.fA, bnO_s, rfB_r, if_pos h.kA, h.cA, bnO_s, if_neg (by omega), bnO_s, rfB_r, if_pos h.kA, hg, bnO_s, rfB_r, if_pos kk]
    refine Ok.bindT (C1 := 66) (T1 := 396) (Q := fun e => e = (chcs W k, (S, K))) (q.mono (by omega) (by omega) (fun v z => ⟨_, z, rfl⟩)) (by omega) (by omega) ?_
    rintro e rfl
    dsimp only
    rw [c_choices hT hG (by unfold inR; omega) hka, bnO_s]
    dsimp only
    rw [if_pos rfl]
    refine Ok.ad (c := 1) (s := 6) (by omega) (by omega) ?_
    rw [if_pos rfl, f5, bnO_s]
    have fin : ∀ (b1 b2 : Int), b1 = (tiS W k s).1 → b2 = fwE (tiS W k s) → Ok (lp (fun go q => lb2_Law_choices_9 (pT P) a2 go q.1 q.2.1 q.2.2.1 q.2.2.2.1 q.2.2.2.2) N (b1, b2, ((k + 1 : Nat) : Int), (S, K))) (67 * (n + 1) - 66 - 1) (402 * (n + 1) - 396 - 6) (fun v => v = .inr (tgh W, (S, K))) := fun b1 b2 e1 e2 => by
      rw [e1, e2]
      exact ih.mono (by omega) (by omega) (fun _ z => z)
    by_cases c1 : 0 < at_ W 6 k
    · have et : tiS W k s = s := by unfold tiS; rw [if_neg (by omega)]
      rw [if_pos c1, nm_x, i1]
      exact fin _ _ (by rw [et]) (by rw [et])
    · rw [if_neg c1]
      have c0 : at_ W 6 k = 0 := by omega
      by_cases c2 : chcs W k < fwE s
      · have et : tiS W k s = ((k : Int), chcs W k) := by
          unfold tiS
          rw [if_pos c0, if_pos]
          unfold fwE at c2
          by_cases z : s.1 = -1
          · exact .inl z
          · rw [if_neg z] at c2; exact .inr c2
        rw [if_pos c2, nm_x, i1]
        refine fin _ _ (by rw [et]) ?_
        rw [et]
        unfold fwE
        exact (if_neg (by show ¬ (k : Int) = -1; omega)).symm
      · have et : tiS W k s = s := by
          unfold tiS
          rw [if_pos c0, if_neg]
          rintro (z | z)
          · unfold fwE at c2
            rw [if_pos z] at c2
            omega
          · unfold fwE at c2
            by_cases y : s.1 = -1
            · rw [if_pos y] at c2; omega
            · rw [if_neg y] at c2; omega
        rw [if_neg c2, nm_x, i1]
        exact fin _ _ (by rw [et]) (by rw [et])
theorem l_ch160 {a2 a3 k : Int} (h : HP K P W) (hG : Good W) (hT : PT S 5 W) (hk : 0 ≤ k ∧ k < nS W) : ∀ (n N : Nat) (p : Int), p + n = pgs W + 2 → 0 ≤ p → n < N →
    Ok (lp (fun go q => lb2_Law_choices_160 (pT P) a2 a3 k go q.1 q.2.1 q.2.2) N (p, (S, K))) n (6 * n) (fun v => v = .inr (S, K))
  | 0, N + 1, p, hp, h0, _ => by
    have hV := hG.1
    have pb := hV.pg
    rw [lp_succ]
    show Ok (lb2_Law_choices_160 (pT P) a2 a3 k _ p S K) _ _ _
    unfold lb2_Law_choices_160
    rw [if_pos h.k, l_pages h hV, bnO_s, nm_x, wr_s (z := pgs W + 1) (by omega) (by omega), if_pos (by omega)]
    exact Ok.ret rfl
  | n + 1, N + 1, p, hp, h0, hN => by
    have hV := hG.1
    have bz := hV.z
    have pb := hV.pg
    have i1 : wr (p + 1) = p + 1 := wr_s (by omega) (by omega)
    obtain ⟨x, hx, hg, hy⟩ := h.st hk
    have kk : isK K x 11 = true := isK_s hy (by decide)
    have ih := l_ch160 (a2 := a2) (a3 := a3) h hG hT hk n N (p + 1) (by omega) (by omega) (by omega)
    rw [lp_succ]
    show Ok (lb2_Law_choices_160 (pT P) a2 a3 k _ p S K) _ _ _
    unfold lb2_Law_choices_160
    rw [if_pos h.k, l_pages h hV, bnO_s, nm_x, wr_s (z := pgs W + 1) (by omega) (by omega), if_neg (by omega), c_storyReason hT hG (by unfold inR; omega) (by unfold inR; omega) hk, bnO_s]
    dsimp only
    rw [if_pos rfl]
    refine Ok.ad (c := 1) (s := 6) (by omega) (by omega) ?_
    rw [h.fS, bnO_s, rfB_r, if_pos h.kS, hg, bnO_s, rfB_r, if_pos kk, if_pos h.k, l_storyReason (S := S) h hV hk hx (p := p) (by unfold inR; omega), bnO_s]
    refine Ok.ad (c := 0) (s := 0) (Nat.zero_le _) (Nat.zero_le _) ?_
    dsimp only
    rw [if_pos rfl, nm_x, i1]
    exact ih.mono (by omega) (by omega) (fun _ z => z)
theorem l_ch145 {a2 a3 : Int} (h : HP K P W) (hG : Good W) (hT : PT S 5 W) : ∀ (n N k : Nat), (k : Int) + n = nS W → n < N →
    Ok (lp (fun go q => lb2_Law_choices_145 (pT P) a2 a3 go q.1 q.2.1 q.2.2) N ((k : Int), (S, K))) (66 * n) (396 * n) (fun v => v = .inr (S, K))
  | 0, N + 1, k, hk, _ => by
    rw [lp_succ]
    show Ok (lb2_Law_choices_145 (pT P) a2 a3 _ (k : Int) S K) _ _ _
    unfold lb2_Law_choices_145
    rw [h.fS, bnO_s, rfB_r, if_pos h.kS, h.cS, bnO_s, if_pos (by omega)]
    exact Ok.ret rfl
  | n + 1, N + 1, k, hk, hN => by
    have hV := hG.1
    have bz := hV.z
    have pb := hV.pg
    have i1 : wr ((k : Int) + 1) = ((k + 1 : Nat) : Int) := wr_s (by omega) (by omega)
    have ih := l_ch145 (a2 := a2) (a3 := a3) h hG hT n N (k + 1) (by omega) (by omega)
    have q := l_ch160 (S := S) (a2 := a2) (a3 := a3) h hG hT (k := (k : Int)) (by omega) (pgs W + 2).toNat FU 0 (by omega) (Int.le_refl _) (FU_big (by omega))
    rw [lp_succ]
    show Ok (lb2_Law_choices_145 (pT P) a2 a3 _ (k : Int) S K) _ _ _
    unfold lb2_Law_choices_145
    rw [h.fS, bnO_s, rfB_r, if_pos h.kS, h.cS, bnO_s, if_neg (by omega)]
    refine Ok.bindT (C1 := 66) (T1 := 396) (Q := fun e => e = (S, K)) (q.mono (by omega) (by omega) (fun v z => ⟨_, z, rfl⟩)) (by omega) (by omega) ?_
    rintro e rfl
    dsimp only
    rw [nm_x, i1]
    exact ih.mono (by omega) (by omega) (fun _ z => z)
theorem l_ch233 {a2 : Int} {c5 : Nat} (hc : nCell + L0.length ≤ c5) : ∀ (n N t : Nat) (K : List PC), t + n = 65 → n < N → Sf F0_ L0 K → RowI K c5 65 (fun j => if j < t then -1 else 0) →
    ∃ K', lp (fun go q => lb2_Law_choices_233 (pT P) a2 c5 go q.1 q.2.1 q.2.2) N ((t : Int), (S, K)) = some ((S, K'), 0, 0) ∧ Sf F0_ L0 K' ∧ RowI K' c5 65 (fun _ => -1) ∧ K'.length = K.length
  | 0, N + 1, t, K, ht, _, hs, hr => by
    refine ⟨K, ?_, hs, hr.eq (fun w hw => if_pos (by omega)), rfl⟩
    rw [lp_succ]
    show lb2_Law_choices_233 (pT P) a2 c5 _ (t : Int) S K = _
    unfold lb2_Law_choices_233
    rw [if_pos (by omega)]
  | n + 1, N + 1, t, K, ht, hN, hs, hr => by
    have i1 : wr ((t : Int) + 1) = ((t + 1 : Nat) : Int) := wr_s (by omega) (by omega)
    obtain ⟨K1, e1, r1, c, w1⟩ := hr.put (w := (t : Int)) ⟨by omega, by omega⟩ (-1)
    obtain ⟨K', e2, q⟩ := l_ch233 (a2 := a2) hc n N (t + 1) K1 (by omega) (by omega) (hs.w w1 (.inr hc)) (r1.eq (fun w hw => by
      show (if w = ((t : Int)).toNat then (-1 : Int) else if w < t then -1 else 0) = if w < t + 1 then -1 else 0
      by_cases d : w = ((t : Int)).toNat
      · rw [if_pos d, if_pos (by omega)]
      · rw [if_neg d]
        by_cases d2 : w < t
        · rw [if_pos d2, if_pos (by omega)]
        · rw [if_neg d2, if_neg (by omega)]))
    refine ⟨K', ?_, q.1, q.2.1, q.2.2.trans w1.1⟩
    rw [lp_succ, ← e2]
    show lb2_Law_choices_233 (pT P) a2 c5 _ (t : Int) S K = _
    unfold lb2_Law_choices_233
    rw [if_neg (by omega), e1, bnO_s, nm_x, i1]
theorem l_ch258 {a2 : Int} {c5 : Nat} {jn : (Int → Bool) → Int → Bool} (hj : JnW W jn) (h0 : HP L0 P W) (hV : Val W) (hc : nCell + L0.length ≤ c5) : ∀ (n N k : Nat) (K : List PC) (w : Nat → Int), (k : Int) + n = nA W → n < N → Sf F0_ L0 K → RowI K c5 65 w → WokJ W w → MtQ W w (fun _ => false) (mtN W jn k).2 → K.length + n < 600000000 →
    Ok (lp (fun go q => lb2_Law_choices_258 (pT P) a2 c5 go q.1 q.2.1 q.2.2.1 q.2.2.2) N ((mtN W jn k).1, (k : Int), (S, K))) n (65 * n) (fun v => ∃ K', v = ((mtN W jn (nA W)).1, (S, K')) ∧ Sf F0_ L0 K' ∧ K'.length ≤ K.length + n)
  | 0, N + 1, k, K, w, hk, _, hs, hr, hw, hM, hL => by
    have h := h0.sf0 hs
    rw [lp_succ]
    show Ok (lb2_Law_choices_258 (pT P) a2 c5 _ (mtN W jn k).1 (k : Int) S K) _ _ _
    unfold lb2_Law_choices_258
    rw [h.fA, bnO_s, rfB_r, if_pos h.kA, h.cA, bnO_s, if_pos (by omega), show (k : Int) = nA W by omega]
    exact Ok.ret ⟨K, rfl, hs, Nat.le_refl _⟩
  | n + 1, N + 1, k, K, w, hk, hN, hs, hr, hw, hM, hL => by
    have bz := hV.z
    have pb := hV.pg
    have h := h0.sf0 hs
    have hka : 0 ≤ (k : Int) ∧ (k : Int) < nA W := by omega
    obtain ⟨x, hx, hg, hy⟩ := h.ad hka
    obtain ⟨kk, f0, -, -, -, -, f5, -⟩ := ad_f hV hka hy
    have i1 : wr ((k : Int) + 1) = ((k + 1 : Nat) : Int) := wr_s (by omega) (by omega)
    have mi := mtN_i (W := W) (jn := jn) hka.1
    have ms : mtN W jn ((k + 1 : Nat) : Int) = mtS W jn k (mtN W jn k) := by
      rw [show ((k + 1 : Nat) : Int) = (k : Int) + 1 by omega, mtN_s hka.1]
    have skip : ¬ (at_ W 0 k = 4 ∧ at_ W 6 k = 0) → Ok (nm (wr ((k : Int) + 1)) fun v95 => lp (fun go q => lb2_Law_choices_258 (pT P) a2 c5 go q.1 q.2.1 q.2.2.1 q.2.2.2) N ((mtN W jn k).1, v95, (S, K))) (n + 1) (65 * (n + 1)) (fun v => ∃ K', v = ((mtN W jn (nA W)).1, (S, K')) ∧ Sf F0_ L0 K' ∧ K'.length ≤ K.length + (n + 1)) := fun hn => by
      have e : mtN W jn ((k + 1 : Nat) : Int) = mtN W jn k := by
        rw [ms]
        unfold mtS
        rw [decide_eq_false hn, Bool.false_and, if_neg Bool.false_ne_true]
      have ih := l_ch258 (a2 := a2) hj h0 hV hc n N (k + 1) K w (by omega) (by omega) hs hr hw (by rw [e]; exact hM) (by omega)
      rw [e] at ih
      rw [nm_x, i1]
      refine ih.mono (by omega) (by omega) (fun v z => ?_)
      obtain ⟨K', z1, z2, z3⟩ := z
      exact ⟨K', z1, z2, by omega⟩
    rw [lp_succ]
    show Ok (lb2_Law_choices_258 (pT P) a2 c5 _ (mtN W jn k).1 (k : Int) S K) _ _ _
    unfold lb2_Law_choices_258
    rw [h.fA, bnO_s, rfB_r, if_pos h.kA, h.cA, bnO_s, if_neg (by omega), bnO_s, rfB_r, if_pos h.kA, hg, bnO_s, rfB_r, if_pos kk, f0, bnO_s]
    by_cases c1 : at_ W 0 k = 4
    · rw [if_pos c1, bnO_s, rfB_r, if_pos h.kA, hg, bnO_s, rfB_r, if_pos kk, f5, bnO_s]
      by_cases c2 : at_ W 6 k = 0
      · obtain ⟨n1, r1⟩ := RowB.new (K := K) (m := 65) (by omega)
        have s1 : Sf F0_ L0 (K ++ [(102, List.replicate 65 (.int 0))]) := hs.n n1
        have l1 : (K ++ [(102, List.replicate 65 (Value.int 0))]).length = K.length + 1 := n1.2.1
        have h1 := h0.sf0 s1
        have ul := unI_le (W := W) (s := fun _ => false)
        obtain ⟨b, K', w', s', e, e1, e2, e3, e4, e5⟩ := l_joins (c2 := c5) (c3 := nCell + K.length) h0 hV hc (by have := hs.1; omega) 70 S (K ++ [(102, List.replicate 65 (.int 0))]) (k : Int) w (fun _ => false) (fun _ => false) (mtN W jn k).2 s1 (hr.sf0 n1.sf0) r1 hka (by omega) hw hM (mi.2 k (Int.le_refl _)) (fun _ _ _ z => absurd z Bool.false_ne_true)
        have eb := jn_top hj hV hka hw hM (mi.2 k (Int.le_refl _)) e5
        rw [if_pos c2, if_pos (by decide), if_pos (by omega), nw_x]
        refine Ok.ad (c := 1) (s := 65) (by omega) (by omega) ?_
        show Ok (if isK (K ++ [(102, List.replicate 65 (Value.int 0))]) (pT P) 12 = true then (bnO (gr_LP_joins 70 (pT P) (k : Int) c5 (nCell + K.length) S (K ++ [(102, List.replicate 65 (Value.int 0))])) fun p101 => adC p101.2.1 p101.2.2 (if p101.1.1 = true then (nm (wr ((mtN W jn k).1 + 1)) fun v106 => nm (wr ((k : Int) + 1)) fun v107 => lp (fun go q => lb2_Law_choices_258 (pT P) a2 c5 go q.1 q.2.1 q.2.2.1 q.2.2.2) N (v106, v107, (p101.1.2.1, p101.1.2.2))) else (nm (wr ((mtN W jn k).1 + 0)) fun v104 => nm (wr ((k : Int) + 1)) fun v105 => lp (fun go q => lb2_Law_choices_258 (pT P) a2 c5 go q.1 q.2.1 q.2.2.1 q.2.2.2) N (v104, v105, (p101.1.2.1, p101.1.2.2))))) else none) _ _ _
        rw [if_pos h1.k, e, bnO_s]
        refine Ok.ad (c := 0) (s := 0) (Nat.zero_le _) (Nat.zero_le _) ?_
        dsimp only
        obtain ⟨-, ⟨rfl, p1, p2⟩ | ⟨rfl, p1, p2, p3⟩⟩ := e5
        · have em : mtN W jn ((k + 1 : Nat) : Int) = ((mtN W jn k).1 + 1, fun x => (mtN W jn k).2 x || decide (x = (k : Int))) := by
            rw [ms]
            unfold mtS
            rw [decide_eq_true ⟨c1, c2⟩, ← eb]; rfl
          have ih := l_ch258 (a2 := a2) hj h0 hV hc n N (k + 1) K' w' (by omega) (by omega) e1 e3 p1 (by rw [em]; exact p2) (by omega)
          rw [em] at ih
          rw [if_pos rfl, nm_x, nm_x, i1, wr_s (z := (mtN W jn k).1 + 1) (by omega) (by omega)]
          refine ih.mono (by omega) (by omega) (fun v z => ?_)
          obtain ⟨K2, z1, z2, z3⟩ := z
          exact ⟨K2, z1, z2, by omega⟩
        · have em : mtN W jn ((k + 1 : Nat) : Int) = mtN W jn k := by
            rw [ms]
            unfold mtS
            rw [← eb, Bool.and_false, if_neg Bool.false_ne_true]
          rw [p1] at e3
          have ih := l_ch258 (a2 := a2) hj h0 hV hc n N (k + 1) K' w (by omega) (by omega) e1 e3 hw (by rw [em]; exact hM) (by omega)
          rw [em] at ih
          rw [if_neg Bool.false_ne_true, nm_x, nm_x, i1, Int.add_zero, wr_s (z := (mtN W jn k).1) (by omega) (by omega)]
          refine ih.mono (by omega) (by omega) (fun v z => ?_)
          obtain ⟨K2, z1, z2, z3⟩ := z
          exact ⟨K2, z1, z2, by omega⟩
      · rw [if_neg c2]
        exact skip (fun z => c2 z.2)
    · rw [if_neg c1]
      exact skip (fun z => c1 z.1)
theorem l_choices {y : Int} (h : HP L P W) (hG : Good W) (hS : nS W ≤ 3) (hT : PT S 5 W) (hy : 0 ≤ y ∧ y < 2147483648) (hL : L.length < 200000000) :
    Ok (gn_Law_choices (pT P) y S L) 19625 152873 (fun v => ∃ S1 L', v = (true, (S1, L')) ∧ Off S S1 507 512 ∧ HP L' P W ∧ Sf (fpP P) L L' ∧ L'.length ≤ L.length + 19625) := by
  have hV := hG.1
  have bz := hV.z
  have pb := hV.pg
  obtain ⟨jn, hj⟩ := JnW.ex (W := W)
  have q1 := l_ch9 (S := S) (a2 := y) h hG hT (nA W).toNat FU 0 (-1, 0) (by omega) (FU_big (by omega)) rfl (.inl rfl)
  unfold gn_Law_choices
  refine Ok.bindT (C1 := 2680) (T1 := 16080) (Q := fun e => e = (tgh W, (S, L))) (q1.mono (by omega) (by omega) (fun v z => ⟨_, z, rfl⟩)) (by omega) (by omega) ?_
  rintro e rfl
  dsimp only
  have q2 := l_ch145 (S := S) (a2 := y) (a3 := tgh W) h hG hT (nS W).toNat FU 0 (by omega) (FU_big (by omega))
  refine Ok.bindT (C1 := 198) (T1 := 1188) (Q := fun e => e = (S, L)) (q2.mono (by omega) (by omega) (fun v z => ⟨_, z, rfl⟩)) (by omega) (by omega) ?_
  rintro e rfl
  dsimp only
  rw [cl_tightest hT hG, bnO_s, if_pos rfl, if_pos (by decide), if_pos (by omega), nw_x]
  refine Ok.ad (c := 1) (s := 65) (by omega) (by omega) ?_
  obtain ⟨n1, r1⟩ := RowI.new (K := L) (m := 65) (by omega)
  have s1 : Sf F0_ L (L ++ [(100, List.replicate 65 (.int 0))]) := n1.sf0
  have l1 : (L ++ [(100, List.replicate 65 (Value.int 0))]).length = L.length + 1 := n1.2.1
  obtain ⟨K2, e2, s2, r2, l2⟩ := l_ch233 (P := P) (S := S) (a2 := y) (c5 := nCell + L.length) (Nat.le_refl _) 65 FU 0 (L ++ [(100, List.replicate 65 (.int 0))]) rfl (FU_big (by decide)) s1 (r1.eq (fun w _ => (if_neg (Nat.not_lt_zero w)).symm))
  show Ok (bnO (lo2_Law_choices_233 (pT P) y (nCell + L.length) FU (0, (S, L ++ [(100, List.replicate 65 (Value.int 0))]))) _) _ _ _
  rw [show lo2_Law_choices_233 (pT P) y (nCell + L.length) FU (0, (S, L ++ [(100, List.replicate 65 (Value.int 0))])) = some ((S, K2), 0, 0) from e2, bnO_s]
  refine Ok.ad (c := 0) (s := 0) (Nat.zero_le _) (Nat.zero_le _) ?_
  dsimp only
  have hM0 : MtQ W (fun _ => -1) (fun _ => false) (mtN W jn ((0 : Nat) : Int)).2 := ⟨fun _ _ _ _ => .inl rfl, fun _ _ _ _ _ _ _ _ _ z => absurd rfl z, fun a _ _ z => by
    have z : (fun _ : Int => false) a = true := z
    exact absurd z Bool.false_ne_true⟩
  have q3 := l_ch258 (S := S) (a2 := y) (c5 := nCell + L.length) hj h hV (Nat.le_refl _) (nA W).toNat FU 0 K2 (fun _ => -1) (by omega) (FU_big (by omega)) s2 r2 (fun q _ _ => by show -1 ≤ (-1 : Int) ∧ (-1 : Int) < nA W; omega) hM0 (by omega)
  refine Ok.bind (C1 := 40) (T1 := 2600) (o := lo2_Law_choices_258 (pT P) y (nCell + L.length) FU (0, 0, (S, K2))) (q3.mono (by omega) (by omega) (fun _ z => z)) (by omega) (by omega) ?_
  rintro v cc ss ⟨K3, rfl, s3, l3⟩
  dsimp only
  obtain ⟨S4, e4, o4⟩ := cl_matching hj hT
  have hT4 := hT.off o4 (by omega)
  have h3 := h.sf0 s3
  have s3' : Sf (fpP P) L K3 := s3.mono (fun _ z => z.elim)
  rw [e4, bnO_s]
  dsimp only
  rw [if_pos rfl, h3.fA, bnO_s, rfB_r, if_pos h3.kA, k_isEmpty h3.lA, bnO_s]
  by_cases c : (pA P).2.2.2.2 = []
  · rw [if_pos (decide_eq_true c)]
    exact Ok.ret ⟨S4, K3, rfl, o4.mono (by omega) (by omega), h3, s3', by omega⟩
  · rw [if_neg (by rw [decide_eq_true_eq]; exact c)]
    have hA : 0 < nA W := by
      have e : ((xA P).length : Int) = nA W := h.2.1.1
      have p : 0 < (xA P).length := List.length_pos_iff.mpr c
      omega
    refine Ok.bind (l_evictions (S := S4) h3 hG hT4 hA hy (by omega)) (by omega) (by omega) ?_
    rintro v cc ss ⟨S5, K5, rfl, o5, h5, s5, l5⟩
    dsimp only
    rw [if_pos rfl]
    exact Ok.ret ⟨S5, K5, rfl, (o4.mono (by omega) (by omega)).trans (o5.mono (by omega) (by omega)), h5, s3'.trans s5, by omega⟩
end Choices
