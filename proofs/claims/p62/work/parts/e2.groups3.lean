/-! GROUPS: revenue by group and the sum of near rivals -/
theorem tri_low {f : Int → Int → Int} (h0 : ∀ a, f a a = 0) : ∀ m : Nat, sumR (fun a => sumR (fun b => f a b) 0 m) 0 m = sumR (fun a => sumR (fun b => f a b + f b a) 0 a.toNat) 0 m
  | 0 => rfl
  | m + 1 => by
    have ih := tri_low h0 m
    have e1 : sumR (fun a => sumR (fun b => f a b) 0 (m + 1)) 0 m = sumR (fun a => sumR (fun b => f a b) 0 m) 0 m + sumR (fun a => f a m) 0 m := by
      rw [← sumR_add]
      exact sumR_congr (fun j _ _ => by rw [sumR_snoc, Int.zero_add])
    have e2 : sumR (fun b => f m b + f b m) 0 m = sumR (fun b => f m b) 0 m + sumR (fun a => f a m) 0 m := by rw [← sumR_add]
    rw [sumR_snoc (w := fun a => sumR (fun b => f a b) 0 (m + 1)), sumR_snoc (w := fun a => sumR (fun b => f a b + f b a) 0 a.toNat), e1, ih]
    simp only [Int.zero_add, Int.toNat_natCast]
    rw [sumR_snoc (w := fun b => f m b), Int.zero_add, h0, e2]
    omega
section Groups3
variable {S : St} {L : List PC} {P : PA} {W : Vw}
theorem cl_groupOn (h : PT S 5 W) {a y : Int} (c : 0 ≤ a ∧ a ≤ 9) (d : 0 ≤ y ∧ y ≤ pgs W / 2) : fn_FP_groupOn 0 a y S = some (0, grp W a y) := by
  have b := h.pl.b
  have e7 : g S 5 1 = pgs W := h.pl.gp
  have eg : g S 32 (a * 33 + y).toNat = grp W a y := h.gr c ⟨d.1, by omega⟩
  unfold fn_FP_groupOn
  rw [F_needGroup, if_pos c, bnO_s, if_pos rfl, if_neg (by omega), tg_0_3, e7, nm_x, td_n (by omega), wr_s (by omega) (by omega), if_pos d.2, if_pos (by omega : 0 ≤ a * 33 + y ∧ a * 33 + y < 330), tg_5_7, eg]
theorem nrP_eq (hV : Val W) {k j : Int} (hk : 0 ≤ k ∧ k < nA W) (hj : 0 ≤ j ∧ j < nA W) : nrP W k j = nrM W k j + nrM W j k := by
  have vk := hV.2.1 k hk.1 hk.2
  have vj := hV.2.1 j hj.1 hj.2
  unfold nrP nrM i_abs
  by_cases c1 : at_ W 1 k ≤ 0
  · rw [if_pos c1, if_pos (by omega)]
    by_cases c2 : at_ W 1 j = 0
    · rw [if_pos (by omega)]; rfl
    · by_cases c3 : at_ W 6 j ≤ 0 ∨ at_ W 6 k ≤ 0 ∨ at_ W 1 j = 0
      · rw [if_pos c3]; rfl
      · rw [if_neg c3, if_neg (by omega)]; rfl
  · rw [if_neg c1]
    by_cases c2 : at_ W 1 j = at_ W 1 k
    · rw [if_pos c2, c2]
      simp only [eq_self, if_true]
      by_cases c3 : at_ W 6 k ≤ 0
      · rw [if_pos c3, if_pos (by omega), if_pos (by omega)]; rfl
      · rw [if_neg c3]
        by_cases c4 : at_ W 6 j ≤ 0
        · rw [if_pos c4, if_pos (by omega), if_pos (by omega)]; rfl
        · rw [if_neg c4, if_neg (by omega : ¬ (at_ W 6 k ≤ 0 ∨ at_ W 6 j ≤ 0 ∨ at_ W 1 k = 0)), if_neg (by omega : ¬ (at_ W 6 j ≤ 0 ∨ at_ W 6 k ≤ 0 ∨ at_ W 1 k = 0))]
          split <;> (try split) <;> (try split) <;> (try split) <;> omega
    · rw [if_neg c2]
      rw [if_neg (show ¬ at_ W 1 k = at_ W 1 j from fun q => c2 q.symm)]
      by_cases c3 : at_ W 6 k ≤ 0 ∨ at_ W 6 j ≤ 0 ∨ at_ W 1 k = 0
      · rw [if_pos c3]
        split <;> rfl
      · rw [if_neg c3]
        split <;> rfl
def nrS (W : Vw) (k : Nat) : Int := sumR (fun a => sumR (fun j => nrP W a j) 0 a.toNat) 0 k
theorem nrS_s {k : Nat} : nrS W (k + 1) = nrS W k + sumR (fun j => nrP W k j) 0 k := by
  show sumR _ 0 (k + 1) = _
  rw [sumR_snoc, Int.zero_add, Int.toNat_natCast]
  rfl
theorem nrS_eq (hV : Val W) : nrS W (nA W).toNat = nrN W := by
  have b := hV.z
  have e := tri_low (f := fun a b => nrM W a b) (fun a => nrM_0) (nA W).toNat
  show sumR _ 0 _ = sumR (fun a => sumR (fun b => nrM W a b) 0 (nA W).toNat) 0 (nA W).toNat
  rw [e]
  refine sumR_congr (fun k h1 h2 => ?_)
  show sumR _ 0 _ = sumR _ 0 _
  exact sumR_congr (fun j h3 h4 => nrP_eq hV ⟨h1, by omega⟩ ⟨h3, by omega⟩)
def rgW (W : Vw) (y i : Int) : Int := if at_ W 6 i ≤ 0 then 0 else if y = -1 then at_ W 4 i else if at_ W 1 i = y then at_ W 4 i else 0
def rgF (W : Vw) (k : Nat) (y : Nat) : Int := wr (sumR (rgW W (y : Int)) 0 k)
theorem rgF_s {k y : Nat} : rgF W (k + 1) y = wr (rgF W k y + rgW W y k) := by
  unfold rgF
  rw [sumR_snoc, Int.zero_add, wr_add]
theorem rgF_end {y : Int} (hy : 0 ≤ y) : rgF W (nA W).toNat y.toNat = revB W y := by
  unfold rgF revB sumA
  rw [Int.toNat_of_nonneg hy]
  rfl
theorem l_grp11 {c4 : Nat} (h : HP L P W) (hV : Val W) (hc : nCell + L.length ≤ c4) : ∀ (n N k : Nat) (K : List PC), (k : Int) + n = nA W → n < N → Sf F0_ L K → RowI K c4 10 (rgF W k) →
    ∃ K', lp (fun go p => lb2_Law_groups_11 (pT P) c4 go p.1 p.2.1 p.2.2.1 p.2.2.2) N (wr (nrS W k), (k : Int), (S, K)) = some ((wr (nrS W (nA W).toNat), (S, K')), 0, 0) ∧ Sf F0_ L K' ∧ RowI K' c4 10 (rgF W (nA W).toNat) ∧ K'.length = K.length
  | 0, N + 1, k, K, hk, _, hs, hr => by
    have ek : (nA W).toNat = k := by omega
    refine ⟨K, ?_, hs, by rw [ek]; exact hr, rfl⟩
    have h1 := h.sf0 hs
    rw [lp_succ, ek]
    show lb2_Law_groups_11 (pT P) c4 _ (wr (nrS W k)) (k : Int) S K = _
    unfold lb2_Law_groups_11
    rw [h1.fA, bnO_s, rfB_r, if_pos h1.kA, h1.cA, bnO_s, if_pos (by omega)]
  | n + 1, N + 1, k, K, hk, hN, hs, hr => by
    have b := hV.z
    have h1 := h.sf0 hs
    have hki : 0 ≤ (k : Int) ∧ (k : Int) < nA W := by omega
    obtain ⟨x, hx, hg, hy⟩ := h1.ad hki
    obtain ⟨kk, f0, f1, f2, f3, f4, f5, f6⟩ := ad_f hV hki hy
    have v := hV.2.1 k hki.1 hki.2
    have hgr : 0 ≤ at_ W 1 k ∧ at_ W 1 k < ((10 : Nat) : Int) := by omega
    have ha := hr.at hgr (wr_in _)
    have i1 : wr ((k : Int) + 1) = ((k + 1 : Nat) : Int) := wr_s (by omega) (by omega)
    -- the row's next state, whatever is added
    have step : ∀ z : Int, z = rgW W (at_ W 1 k) k → ∃ K1, ast K 100 c4 (at_ W 1 k) (V (wr (rgF W k (at_ W 1 k).toNat + z))) = some K1 ∧ Sf F0_ L K1 ∧ RowI K1 c4 10 (rgF W (k + 1)) ∧ K1.length = K.length := by
      intro z hz
      obtain ⟨K1, e1, r1, c, w1⟩ := hr.put hgr (wr (rgF W k (at_ W 1 k).toNat + z))
      refine ⟨K1, e1, hs.w w1 (.inr hc), r1.eq (fun w hw => ?_), w1.1⟩
      rw [rgF_s]
      by_cases q : w = (at_ W 1 k).toNat
      · rw [if_pos q, q, hz, Int.toNat_of_nonneg hgr.1]
      · rw [if_neg q]
        have q2 : rgW W (w : Int) k = 0 := by
          unfold rgW
          split
          · rfl
          · rw [if_neg (by omega), if_neg (by omega)]
        rw [q2, Int.add_zero]
        exact (wr_id (wr_in _)).symm
    have near : ∀ K1, Sf F0_ L K1 → lo2_Law_groups_68 (pT P) c4 k x S K1 FU (wr (nrS W k), 0) = some (wr (nrS W (k + 1))) := by
      intro K1 h2
      have q := l_near68 (S := S) (h.sf0 h2) hV (c4 := c4) hki hx (wr_in (nrS W k))
      rw [q, wr_add, nrS_s, Int.toNat_natCast]
    by_cases c : at_ W 6 k ≤ 0
    · obtain ⟨K1, e1, s1, r1, l1⟩ := step 0 (by unfold rgW; rw [if_pos c])
      obtain ⟨K', e2, s2, r2, l2⟩ := l_grp11 h hV hc n N (k + 1) K1 (by omega) (by omega) s1 r1
      refine ⟨K', ?_, s2, r2, l2.trans l1⟩
      rw [lp_succ, ← e2]
      show lb2_Law_groups_11 (pT P) c4 _ (wr (nrS W k)) (k : Int) S K = _
      unfold lb2_Law_groups_11
      rw [h1.fA, bnO_s, rfB_r, if_pos h1.kA, h1.cA, bnO_s, if_neg (by omega), bnO_s, rfB_r, if_pos h1.kA, hg, bnO_s, rfB_r, if_pos kk, f1, bnO_s, ha, bnO_s, f5, bnO_s, if_pos c, nm_x, e1, bnO_s, near K1 s1, bnO_s, nm_x, i1]
    · obtain ⟨K1, e1, s1, r1, l1⟩ := step (at_ W 4 k) (by unfold rgW; rw [if_neg c, if_neg (by omega), if_pos rfl])
      obtain ⟨K', e2, s2, r2, l2⟩ := l_grp11 h hV hc n N (k + 1) K1 (by omega) (by omega) s1 r1
      refine ⟨K', ?_, s2, r2, l2.trans l1⟩
      rw [lp_succ, ← e2]
      show lb2_Law_groups_11 (pT P) c4 _ (wr (nrS W k)) (k : Int) S K = _
      unfold lb2_Law_groups_11
      rw [h1.fA, bnO_s, rfB_r, if_pos h1.kA, h1.cA, bnO_s, if_neg (by omega), bnO_s, rfB_r, if_pos h1.kA, hg, bnO_s, rfB_r, if_pos kk, f1, bnO_s, ha, bnO_s, f5, bnO_s, if_neg c, f3, bnO_s, nm_x, e1, bnO_s, near K1 s1, bnO_s, nm_x, i1]
theorem l_grp200 {c4 : Nat} {a3 y : Int} (h : HP L P W) (hG : Good W) (hT : PT S 5 W) (hy : 0 ≤ y ∧ y ≤ 9) : ∀ (n N : Nat) (sp : Int) (K : List PC), sp + n = pgs W / 2 + 1 → 0 ≤ sp → n < N → Sf F0_ L K → K.length + n < 700000000 →
    Ok (lp (fun go p => lb2_Law_groups_200 (pT P) a3 c4 y go p.1 p.2.1 p.2.2.1 p.2.2.2) N (wr (sumR (fun s => if grp W y s ≤ 0 then 0 else 1) 0 sp.toNat), sp, (S, K))) (3 * n) (16 * n) (fun v => ∃ K', v = .inr (sprs W y, (S, K')) ∧ Sf F0_ K K' ∧ K'.length ≤ K.length + n)
  | 0, N + 1, sp, K, hk, h0, _, hs, hK => by
    have hV := hG.1
    have b := hV.pg
    have h1 := h.sf0 hs
    rw [lp_succ]
    show Ok (lb2_Law_groups_200 (pT P) a3 c4 y _ _ sp S K) _ _ _
    unfold lb2_Law_groups_200
    rw [if_pos h1.k, l_pages h1 hV, bnO_s, nm_x, td_n (by omega), wr_s (by omega) (by omega), if_pos (by omega)]
    refine Ok.ret ⟨K, ?_, Sf.refl, Nat.le_refl _⟩
    unfold sprs
    rw [show (pgs W / 2 + 1).toNat = sp.toNat by omega]
  | n + 1, N + 1, sp, K, hk, h0, hN, hs, hK => by
    have hV := hG.1
    have b := hV.pg
    have h1 := h.sf0 hs
    obtain ⟨t, K1, e1, n1⟩ := k_iter (S := S) h1.lA (by omega)
    obtain ⟨K2, e2, l2, s2⟩ := l_grp1 (S := S) h1 hV (c4 := c4) (a3 := a3) (g := y) (a6 := wr (sumR (fun s => if grp W y s ≤ 0 then 0 else 1) 0 sp.toNat)) (sp := sp) n1.sf0 (by rw [n1.1]; exact Nat.le_refl _) ⟨_, n1.at⟩
    have hs2 := hs.trans s2
    have ll : K2.length = K.length + 1 := l2.trans n1.2.1
    have es : sumR (fun s => if grp W y s ≤ 0 then (0 : Int) else 1) 0 (sp + 1).toNat = sumR (fun s => if grp W y s ≤ 0 then 0 else 1) 0 sp.toNat + (if grp W y sp ≤ 0 then 0 else 1) := by
      rw [show (sp + 1).toNat = sp.toNat + 1 by omega, sumR_snoc, show (0 : Int) + (sp.toNat : Int) = sp by omega]
    have ih := l_grp200 (c4 := c4) (a3 := a3) h hG hT hy n N (sp + 1) K2 (by omega) (by omega) (by omega) hs2 (by omega)
    rw [es] at ih
    rw [lp_succ]
    show Ok (lb2_Law_groups_200 (pT P) a3 c4 y _ _ sp S K) _ _ _
    unfold lb2_Law_groups_200
    rw [if_pos h1.k, l_pages h1 hV, bnO_s, nm_x, td_n (by omega), wr_s (z := pgs W / 2) (by omega) (by omega), if_neg (by omega), h1.fA, bnO_s, rfB_r, if_pos h1.kA, e1, bnO_s]
    refine Ok.ad (c := 1) (s := 4) (by omega) (by omega) ?_
    dsimp only
    rw [rfB_r, e2, bnO_s]
    refine Ok.ad (c := 0) (s := 0) (Nat.zero_le _) (Nat.zero_le _) ?_
    dsimp only
    rw [grp_eq]
    have i1 : wr (sp + 1) = sp + 1 := wr_s (by omega) (by omega)
    have done : ∀ z, z = (if grp W y sp ≤ 0 then (0 : Int) else 1) → Ok (bnO (fn_FP_groupOn 0 y sp S) fun p104 => if p104.1 = 0 then (adC 2 12 (if p104.2 = grp W y sp then (nm (wr (sp + 1)) fun v105 => lp (fun go p => lb2_Law_groups_200 (pT P) a3 c4 y go p.1 p.2.1 p.2.2.1 p.2.2.2) N (wr (wr (sumR (fun s => if grp W y s ≤ 0 then 0 else 1) 0 sp.toNat) + z), v105, (S, K2))) else (some (.inl (false, (S, K2)), 0, 0)))) else none) (3 * (n + 1) - 1 - 0) (16 * (n + 1) - 4 - 0) (fun v => ∃ K', v = .inr (sprs W y, (S, K')) ∧ Sf F0_ K K' ∧ K'.length ≤ K.length + (n + 1)) := by
      intro z hz
      rw [cl_groupOn hT hy ⟨h0, by omega⟩, bnO_s, if_pos rfl]
      refine Ok.ad (by omega) (by omega) ?_
      rw [if_pos rfl, nm_x, i1, wr_add, hz]
      refine ih.mono (by omega) (by omega) (fun v q => ?_)
      obtain ⟨K', q1, q2, q3⟩ := q
      exact ⟨K', q1, s2.trans q2, by omega⟩
    by_cases c : grp W y sp ≤ 0
    · rw [if_pos c, nm_x]
      exact done 0 (by rw [if_pos c])
    · rw [if_neg c, nm_x]
      exact done 1 (by rw [if_neg c])
theorem l_grp187 {c4 : Nat} {a3 : Int} (h : HP L P W) (hG : Good W) (hT : PT S 5 W) (hc : nCell + L.length ≤ c4) : ∀ (n N y : Nat) (K : List PC), y + n = 10 → n < N → Sf F0_ L K → RowI K c4 10 (rgF W (nA W).toNat) → K.length + 33 * n < 600000000 →
    Ok (lp (fun go p => lb2_Law_groups_187 (pT P) a3 c4 go p.1 p.2.1 p.2.2) N ((y : Int), (S, K))) (101 * n) (540 * n) (fun v => ∃ K', v = .inr (S, K') ∧ Sf F0_ L K' ∧ K'.length ≤ K.length + 33 * n)
  | 0, N + 1, y, K, hk, _, hs, hr, hK => by
    rw [lp_succ]
    show Ok (lb2_Law_groups_187 (pT P) a3 c4 _ (y : Int) S K) _ _ _
    unfold lb2_Law_groups_187
    rw [if_pos (by omega)]
    exact Ok.ret ⟨K, rfl, hs, Nat.le_refl _⟩
  | n + 1, N + 1, y, K, hk, hN, hs, hr, hK => by
    have hV := hG.1
    have b := hV.pg
    have b64 := hT.pl.b
    have hy : 0 ≤ (y : Int) ∧ (y : Int) ≤ 9 := by omega
    have h2 := l_grp200 (S := S) (c4 := c4) (a3 := a3) h hG hT hy (pgs W / 2 + 1).toNat FU 0 K (by omega) (Int.le_refl _) (FU_big (by omega)) hs (by omega)
    rw [lp_succ]
    show Ok (lb2_Law_groups_187 (pT P) a3 c4 _ (y : Int) S K) _ _ _
    unfold lb2_Law_groups_187
    rw [if_neg (by omega)]
    refine Ok.bindT (C1 := 99) (T1 := 528) (Q := fun e => ∃ K', e = (sprs W y, (S, K')) ∧ Sf F0_ K K' ∧ K'.length ≤ K.length + 33) (h2.mono (by omega) (by omega) (fun v q => ?_)) (by omega) (by omega) (fun e q => ?_)
    · obtain ⟨K', q1, q2, q3⟩ := q
      exact ⟨_, q1, K', rfl, q2, by omega⟩
    · obtain ⟨K', rfl, q2, q3⟩ := q
      have hr2 := hr.sf0 q2
      have ha := hr2.at (w := (y : Int)) ⟨hy.1, by omega⟩ (wr_in _)
      rw [rgF_end hy.1] at ha
      have ih := l_grp187 (c4 := c4) (a3 := a3) h hG hT hc n N (y + 1) K' (by omega) (by omega) (hs.trans q2) hr2 (by omega)
      rw [c_spreadsOf hT hG (by unfold inR; omega) hy, bnO_s, if_pos rfl]
      refine Ok.ad (by omega) (by omega) ?_
      rw [if_pos rfl, c_revenueOfGroup hT hG (by unfold inR; omega) hy, bnO_s, if_pos rfl]
      refine Ok.ad (by omega) (by omega) ?_
      rw [ha, bnO_s, if_pos rfl, nm_x, wr_s (z := (y : Int) + 1) (by omega) (by omega), show (y : Int) + 1 = ((y + 1 : Nat) : Int) by omega]
      refine ih.mono (by omega) (by omega) (fun v q => ?_)
      obtain ⟨K2, p1, p2, p3⟩ := q
      exact ⟨K2, p1, p2, by omega⟩
end Groups3
