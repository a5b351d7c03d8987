/-! CHANGES: the law's method that makes them -/
section Chg7
variable {S : St} {L K : List PC} {P : PA} {W : Vw} {n : Int} {hs : Int → Vw} {a p k : Int} {x : Nat}
theorem md_b {y m : Int} (hy : 0 ≤ y) (hm : 0 < m) : y.tmod m = y % m ∧ 0 ≤ y % m ∧ y % m < m := ⟨Int.tmod_eq_emod_of_nonneg hy, Int.emod_nonneg _ (by omega), Int.emod_lt_of_pos _ hm⟩
theorem nlB_r {β : Type} {x : Nat} {a b : Option β} : nlB (Value.ref x) a b = b := rfl
theorem e_A (h : HP L P W) : gn_AL_isEmpty (pA P).1 S L = some (decide (nA W = 0)) := by
  rw [k_isEmpty h.lA]
  have e : ((xA P).length : Int) = nA W := h.2.1.1
  congr 1
  by_cases c : xA P = []
  · rw [decide_eq_true (show (pA P).2.2.2.2 = [] from c), decide_eq_true (by rw [c] at e; exact e.symm)]
  · rw [decide_eq_false (show ¬ (pA P).2.2.2.2 = [] from c), decide_eq_false (fun q => c (List.eq_nil_of_length_eq_zero (by omega)))]
theorem e_S (h : HP L P W) : gn_AL_isEmpty (pS P).1 S L = some (decide (nS W = 0)) := by
  rw [k_isEmpty h.lS]
  have e : ((xS P).length : Int) = nS W := h.2.1.2.1
  congr 1
  by_cases c : xS P = []
  · rw [decide_eq_true (show (pS P).2.2.2.2 = [] from c), decide_eq_true (by rw [c] at e; exact e.symm)]
  · rw [decide_eq_false (show ¬ (pS P).2.2.2.2 = [] from c), decide_eq_false (fun q => c (List.eq_nil_of_length_eq_zero (by omega)))]
theorem e_B (h : HP L P W) : gn_AL_isEmpty (pB P).1 S L = some (decide (nB W = 0)) := by
  rw [k_isEmpty h.lB]
  have e : ((xB P).length : Int) = nB W := h.2.1.2.2
  congr 1
  by_cases c : xB P = []
  · rw [decide_eq_true (show (pB P).2.2.2.2 = [] from c), decide_eq_true (by rw [c] at e; exact e.symm)]
  · rw [decide_eq_false (show ¬ (pB P).2.2.2.2 = [] from c), decide_eq_false (fun q => c (List.eq_nil_of_length_eq_zero (by omega)))]
/-- room for a standby as if it was not placed -/
theorem lf_upB (hV : Val W) (hk : 0 ≤ k ∧ k < nB W) (hp : 1 ≤ p) : lf (up W 13 k.toNat 0) p = lefO W p (-1) k := by
  have es : stOn (up W 13 k.toNat 0) p (-1) = stOn W p (-1) := by
    unfold stOn
    rw [nS_up (by decide)]
    exact fstR_congr (fun s _ _ => by rw [cov_up (by decide) (by decide)])
  unfold lf lefO
  rw [es]
  by_cases c : stOn W p (-1) = -1
  · rw [if_pos c, if_pos c]
    unfold room sumA sumB
    rw [nA_up (by decide), nB_up (by decide)]
    have eA : sumR (fun a => -szA (up W 13 k.toNat 0) p (-1) a) 0 (nA W).toNat = sumR (fun a => -szA W p (-1) a) 0 (nA W).toNat := sumR_congr (fun j _ _ => by
      unfold szA
      rw [at_upn (k' := 6) (by decide), at_upn (k' := 0) (by decide)])
    have eB : sumR (fun b => -szB (up W 13 k.toNat 0) p (-1) b) 0 (nB W).toNat = sumR (fun b => -szB W p k b) 0 (nB W).toNat := sumR_congr (fun j j0 j1 => by
      unfold szB
      rw [at_upn (k' := 12) (by decide), at_upe j0 hk.1]
      by_cases e : j = k
      · rw [if_pos e, if_neg (fun q => by have := q.2; omega), if_neg (fun q => q.1 e)]
      · rw [if_neg e]
        by_cases f : at_ W 13 j = p
        · rw [if_pos ⟨by omega, f⟩, if_pos ⟨e, f⟩]
        · rw [if_neg (fun q => f q.2), if_neg (fun q => f q.2)])
    rw [eA, eB]
  · rw [if_neg c, if_neg c]
theorem l_c469 {a2 a3 a4 a6 a8 : Int} {c7 : Value} {C T : Nat} (h : HP L P W) (hL : L.length < 300000000) (hG : Good W) (hT : PT S 5 W) (hc : HCl S n hs) (hp : 0 ≤ p ∧ p ≤ pgs W) (h3 : 0 ≤ a3 ∧ a3 < 2147483648) (hC : 20 ≤ C) (hTT : 100 ≤ T) (hO : Ok (gn_Law_others (pT P) a2 a3 a4 a6 c7 a8 S L) C T (ChR S L P W n hs)) :
    Ok (jf2_Law_changes_469 (pT P) a2 a3 a4 p a6 c7 a8 S L) C T (ChR S L P W n hs) := by
  have hV := hG.1
  have bz := hV.z
  have bp := hV.pg
  have nx := l_c626 h hL hG hT hc hp h3 hC hTT hO
  unfold jf2_Law_changes_469
  by_cases c8 : a2 = 8
  · rw [if_pos c8, h.fB, bnO_s, rfB_r, if_pos h.kB, e_B h, bnO_s]
    by_cases c : nB W = 0
    · rw [decide_eq_true c, if_pos rfl]
      exact nx
    · have hk := md_b h3.1 (m := nB W) (by omega)
      have hk2 : 0 ≤ a3 % nB W ∧ a3 % nB W < nB W := ⟨hk.2.1, hk.2.2⟩
      obtain ⟨x, hx, hg, hxc⟩ := h.sb hk2
      obtain ⟨kk, f0, f5⟩ := sb_f hV hk2 hxc
      obtain ⟨L1, e1, w1⟩ := pf_s hxc (f := 5) (Nat.le_of_ble_eq_true rfl) (V 0)
      have h1 := h.updB hx w1
      have hV1 : Val (up W 13 (a3 % nB W).toNat 0) := (Good_setB hG hk2 (p := 0) ⟨Int.le_refl _, by omega⟩ (.inl rfl)).1
      have hx1 := w1.at
      have v13 := hV.2.2.2.1 (a3 % nB W) hk2.1 hk2.2
      have f01 : gfI L1 x 11 0 = some (at_ W 12 (a3 % nB W)) := gfI_s hx1 (f := 0) (by
        show some (V (W 12 (a3 % nB W).toNat)) = _
        rfl) (by unfold inR; omega)
      have fin := l_c579 (S := S) (n := n) (hs := hs) (c0 := (0, [])) h hG hT hc hk2 hx (p := p) (by unfold inR; omega) w1
      have fin : Ok (jf2_Law_changes_579 p (a3 % nB W) x (at_ W 13 (a3 % nB W)) (useR W (a3 % nB W) p) S L1) C T (ChR S L P W n hs) := fin.mono (by omega) (by omega) (fun _ q => q)
      have prU : ∀ q, prP (up W 13 (a3 % nB W).toNat 0) q = prP W q := fun q => by
        unfold prP
        rw [fOf_up (by decide), at_upn (by decide)]
      have pgU : pgs (up W 13 (a3 % nB W).toNat 0) = pgs W := pgs_up (by decide)
      rw [decide_eq_false c, if_neg Bool.false_ne_true, bnO_s, rfB_r, if_pos h.kB, h.cB, bnO_s, if_pos (by omega), nm_x, hk.1, wr_s (z := a3 % nB W) (by omega) (by omega), bnO_s, rfB_r, if_pos h.kB, hg, bnO_s, rfB_r, if_pos kk, f5, bnO_s, e1, bnO_s]
      by_cases d1 : 1 ≤ p
      · have ip : isP W p = true := decide_eq_true ⟨d1, hp.2⟩
        have el := l_left (S := S) h1 hV1 (p := p)
        rw [lf_upB hV hk2 d1] at el
        have es := l_isShut (S := S) h1 hV1 (p := p) d1 (by rw [pgU]; exact hp.2)
        rw [prU] at es
        rw [if_pos d1, if_pos h1.k, es, bnO_s]
        unfold useR at fin
        rw [if_pos ip] at fin
        by_cases d2 : prP W p = true
        · rw [if_pos d2] at fin ⊢
          exact fin
        · rw [if_neg d2] at fin ⊢
          by_cases d3 : at_ W 13 (a3 % nB W) ≤ 0
          · have n2 : ¬ (isP W (at_ W 13 (a3 % nB W)) = true ∧ prP W (at_ W 13 (a3 % nB W)) = true) := fun q => by have := isP_b q.1; omega
            rw [if_neg n2] at fin
            rw [if_pos d3, if_pos h1.k, el, bnO_s, f01, bnO_s]
            by_cases d4 : at_ W 12 (a3 % nB W) ≤ lefO W p (-1) (a3 % nB W)
            · rw [if_neg (by omega)] at fin
              rw [if_pos d4]
              exact fin
            · rw [if_pos (by omega)] at fin
              rw [if_neg d4]
              exact fin
          · have ip2 : isP W (at_ W 13 (a3 % nB W)) = true := decide_eq_true (by omega)
            have es2 := l_isShut (S := S) h1 hV1 (p := at_ W 13 (a3 % nB W)) (by omega) (by rw [pgU]; omega)
            rw [prU] at es2
            rw [if_neg d3, if_pos h1.k, es2, bnO_s]
            by_cases d5 : prP W (at_ W 13 (a3 % nB W)) = true
            · rw [if_pos ⟨ip2, d5⟩] at fin
              rw [if_pos d5]
              exact fin
            · rw [if_neg (fun q => d5 q.2)] at fin
              rw [if_neg d5, if_pos h1.k, el, bnO_s, f01, bnO_s]
              by_cases d4 : at_ W 12 (a3 % nB W) ≤ lefO W p (-1) (a3 % nB W)
              · rw [if_neg (by omega)] at fin
                rw [if_pos d4]
                exact fin
              · rw [if_pos (by omega)] at fin
                rw [if_neg d4]
                exact fin
      · have ip : ¬ isP W p = true := fun q => by have := isP_b q; omega
        rw [if_neg d1]
        unfold useR at fin
        rw [if_neg ip] at fin
        exact fin
  · rw [if_neg c8]
    exact nx
theorem l_c367 {a2 a3 a4 a6 a8 : Int} {c7 : Value} {C T : Nat} (h : HP L P W) (hL : L.length < 300000000) (hG : Good W) (hT : PT S 5 W) (hc : HCl S n hs) (hp : 0 ≤ p ∧ p ≤ pgs W) (h3 : 0 ≤ a3 ∧ a3 < 2147483648) (hC : 20 ≤ C) (hTT : 100 ≤ T) (hO : Ok (gn_Law_others (pT P) a2 a3 a4 a6 c7 a8 S L) C T (ChR S L P W n hs)) :
    Ok (jf2_Law_changes_367 (pT P) a2 a3 a4 p a6 c7 a8 S L) C T (ChR S L P W n hs) := by
  have hV := hG.1
  have bz := hV.z
  have bp := hV.pg
  have nx := l_c469 h hL hG hT hc hp h3 hC hTT hO
  unfold jf2_Law_changes_367
  by_cases c7 : a2 = 7
  · rw [if_pos c7, h.fS, bnO_s, rfB_r, if_pos h.kS, e_S h, bnO_s]
    by_cases c : nS W = 0
    · rw [decide_eq_true c, if_pos rfl]
      exact nx
    · have hk := md_b h3.1 (m := nS W) (by omega)
      have hk2 : 0 ≤ a3 % nS W ∧ a3 % nS W < nS W := ⟨hk.2.1, hk.2.2⟩
      obtain ⟨x, hx, hg, hxc⟩ := h.st hk2
      have sf := st_f hV hk2 hxc
      have v := hV.2.2.1 (a3 % nS W) hk2.1 hk2.2
      have fin := fun b hb => l_c430 (S := S) (n := n) (hs := hs) h hG hT hc hk2 hx b hb
      rw [decide_eq_false c, if_neg Bool.false_ne_true, bnO_s, rfB_r, if_pos h.kS, h.cS, bnO_s, if_pos (by omega), nm_x, hk.1, wr_s (z := a3 % nS W) (by omega) (by omega), bnO_s, rfB_r, if_pos h.kS, hg, bnO_s, rfB_r, if_pos sf.1, sf.2.2.2.2.2.2.1, bnO_s]
      by_cases d : at_ W 11 (a3 % nS W) ≤ 0
      · rw [if_pos d]
        exact (fin false ⟨fun q => absurd q Bool.false_ne_true, fun q => absurd (.inl (by omega)) q⟩).mono (by omega) (by omega) (fun _ q => q)
      · rw [if_neg d, if_pos h.k, l_shut h hV hk2 hx, bnO_s]
        by_cases e : stPr W (a3 % nS W) = true
        · rw [if_pos e]
          exact (fin false ⟨fun q => absurd q Bool.false_ne_true, fun q => absurd (.inr e) q⟩).mono (by omega) (by omega) (fun _ q => q)
        · rw [if_neg e]
          exact (fin true ⟨fun _ q => q.elim (fun z => by omega) e, fun _ => rfl⟩).mono (by omega) (by omega) (fun _ q => q)
  · rw [if_neg c7]
    exact nx
theorem l_c178 {a2 a3 a4 a6 a8 : Int} {c7 : Value} {C T : Nat} (h : HP L P W) (hL : L.length < 300000000) (hG : Good W) (hT : PT S 5 W) (hc : HCl S n hs) (hp : 0 ≤ p ∧ p ≤ pgs W) (h3 : 0 ≤ a3 ∧ a3 < 2147483648) (hC : 20 ≤ C) (hTT : 100 ≤ T) (hO : Ok (gn_Law_others (pT P) a2 a3 a4 a6 c7 a8 S L) C T (ChR S L P W n hs))
    (h7 : (c7 = .null ∧ nA W = 0) ∨ ∃ x, c7 = Value.ref x ∧ (xA P)[a8.toNat]? = some x ∧ 0 ≤ a8 ∧ a8 < nA W) :
    Ok (jf2_Law_changes_178 (pT P) a2 a3 a4 p a6 c7 a8 S L) C T (ChR S L P W n hs) := by
  have hV := hG.1
  have bz := hV.z
  have bp := hV.pg
  have nx := l_c367 (a2 := a2) h hL hG hT hc hp h3 hC hTT hO
  unfold jf2_Law_changes_178
  by_cases c6 : 6 ≤ a2
  · rw [if_pos c6]
    by_cases e6 : a2 = 6
    · rw [if_pos e6]
      rcases h7 with ⟨rfl, _⟩ | ⟨x, rfl, hx, k0, k1⟩
      · exact nx
      · have hk2 : 0 ≤ a8 ∧ a8 < nA W := ⟨k0, k1⟩
        have hxc := h.1.2.2.1 _ _ hx
        have af := ad_f hV hk2 hxc
        have v := hV.2.1 a8 k0 k1
        have fin := fun b hb => l_c328 (S := S) (n := n) (hs := hs) h hG hT hc hk2 hx b hb
        rw [nlB_r, rfB_r, af.2.2.2.2.2.2.1, bnO_s]
        by_cases d : at_ W 6 a8 ≤ 0
        · rw [if_pos d]
          exact (fin false ⟨fun q => absurd q Bool.false_ne_true, fun q => absurd (.inl (by omega)) q⟩).mono (by omega) (by omega) (fun _ q => q)
        · rw [if_neg d, bnO_s, if_pos h.k, l_isShut h hV (by omega) (by omega), bnO_s]
          by_cases e : prP W (at_ W 6 a8) = true
          · rw [if_pos e]
            exact (fin false ⟨fun q => absurd q Bool.false_ne_true, fun q => absurd (.inr e) q⟩).mono (by omega) (by omega) (fun _ q => q)
          · rw [if_neg e]
            exact (fin true ⟨fun _ q => q.elim (fun z => by omega) e, fun _ => rfl⟩).mono (by omega) (by omega) (fun _ q => q)
    · rw [if_neg e6]
      exact nx
  · rw [if_neg c6, h.fS, bnO_s, rfB_r, if_pos h.kS, e_S h, bnO_s]
    by_cases c : nS W = 0
    · rw [decide_eq_true c, if_pos rfl, if_neg (by omega : ¬ a2 = 6)]
      exact nx
    · have hk := md_b h3.1 (m := nS W) (by omega)
      have hk2 : 0 ≤ a3 % nS W ∧ a3 % nS W < nS W := ⟨hk.2.1, hk.2.2⟩
      obtain ⟨x, hx, hg, hxc⟩ := h.st hk2
      have sf := st_f hV hk2 hxc
      have hip : inR p := by unfold inR; omega
      have fin := l_c250 (S := S) (n := n) (hs := hs) h hG hT hc hk2 hx hip
      have fin : Ok (jf2_Law_changes_250 p (a3 % nS W) x (layQ W (a3 % nS W) p) S L) C T (ChR S L P W n hs) := fin.mono (by omega) (by omega) (fun _ q => q)
      rw [decide_eq_false c, if_neg Bool.false_ne_true, bnO_s, rfB_r, if_pos h.kS, h.cS, bnO_s, if_pos (by omega), nm_x, hk.1, wr_s (z := a3 % nS W) (by omega) (by omega), bnO_s, rfB_r, if_pos h.kS, hg, bnO_s, rfB_r, if_pos sf.1, if_pos h.k, l_storyReason h hV hk2 hx hip, bnO_s]
      refine Ok.ad (c := 0) (s := 0) (Nat.zero_le _) (Nat.zero_le _) ?_
      dsimp only
      unfold layQ at fin
      by_cases d : layR W (a3 % nS W) p = 1
      · rw [if_pos d] at fin ⊢
        rw [d]
        exact fin
      · rw [if_neg d] at fin ⊢
        rw [if_pos h.k, l_shut h hV hk2 hx, bnO_s]
        by_cases e : stPr W (a3 % nS W) = true
        · rw [if_pos e] at fin ⊢
          exact fin
        · rw [if_neg e] at fin ⊢
          exact fin
theorem l_c82 {a2 a3 a4 a6 a8 : Int} {c7 : Value} {C T : Nat} (h : HP L P W) (hL : L.length < 300000000) (hG : Good W) (hT : PT S 5 W) (hc : HCl S n hs) (hp : 0 ≤ p ∧ p ≤ pgs W) (h3 : 0 ≤ a3 ∧ a3 < 2147483648) (hC : 20 ≤ C) (hTT : 100 ≤ T) (hO : Ok (gn_Law_others (pT P) a2 a3 a4 a6 c7 a8 S L) C T (ChR S L P W n hs))
    (h7 : (c7 = .null ∧ nA W = 0) ∨ ∃ x, c7 = Value.ref x ∧ (xA P)[a8.toNat]? = some x ∧ 0 ≤ a8 ∧ a8 < nA W) :
    Ok (jf2_Law_changes_82 (pT P) a2 a3 a4 p a6 c7 a8 S L) C T (ChR S L P W n hs) := by
  have hV := hG.1
  have bz := hV.z
  have bp := hV.pg
  have nx := l_c178 (a2 := a2) h hL hG hT hc hp h3 hC hTT hO h7
  unfold jf2_Law_changes_82
  by_cases c4 : 4 ≤ a2
  · rw [if_pos c4]
    exact nx
  · rw [if_neg c4]
    rcases h7 with ⟨rfl, _⟩ | ⟨x, rfl, hx, k0, k1⟩
    · exact nx
    · have hk2 : 0 ≤ a8 ∧ a8 < nA W := ⟨k0, k1⟩
      have hxc := h.1.2.2.1 _ _ hx
      have af := ad_f hV hk2 hxc
      have v := hV.2.1 a8 k0 k1
      have hip : inR p := by unfold inR; omega
      have fin := l_c136 (S := S) (n := n) (hs := hs) h hG hT hc hk2 hx hip
      have fin : Ok (jf2_Law_changes_136 p (Value.ref x) a8 (putR W a8 p) S L) C T (ChR S L P W n hs) := fin.mono (by omega) (by omega) (fun _ q => q)
      rw [nlB_r, rfB_r, if_pos h.k, l_reason h hV hk2 hx hip, bnO_s]
      refine Ok.ad (c := 0) (s := 0) (Nat.zero_le _) (Nat.zero_le _) ?_
      dsimp only
      unfold putR at fin
      by_cases d : reas W a8 p = 1
      · rw [if_pos d] at fin ⊢
        rw [d]
        exact fin
      · rw [if_neg d] at fin ⊢
        rw [af.2.2.2.2.2.2.1, bnO_s]
        by_cases e : at_ W 6 a8 ≤ 0
        · have n2 : ¬ (isP W (at_ W 6 a8) = true ∧ prP W (at_ W 6 a8) = true) := fun q => by have := isP_b q.1; omega
          rw [if_neg n2] at fin
          rw [if_pos e]
          exact fin
        · have ip2 : isP W (at_ W 6 a8) = true := decide_eq_true (by omega)
          rw [if_neg e, bnO_s, if_pos h.k, l_isShut h hV (by omega) (by omega), bnO_s]
          by_cases f : prP W (at_ W 6 a8) = true
          · rw [if_pos ⟨ip2, f⟩] at fin
            rw [if_pos f]
            exact fin
          · rw [if_neg (fun q => f q.2)] at fin
            rw [if_neg f]
            exact fin
/-- a change: what the law asks of the other changes is left as a premise -/
theorem l_chg {a2 a3 a4 : Int} {C T : Nat} (h : HP L P W) (hL : L.length < 300000000) (hG : Good W) (hT : PT S 5 W) (hc : HCl S n hs) (h3 : 0 ≤ a3 ∧ a3 < 2147483648) (h4 : 0 ≤ a4 ∧ a4 < 2147483648) (hC : 20 ≤ C) (hTT : 100 ≤ T)
    (hO : ∀ f c7 a8, 0 ≤ f ∧ f < frm W → ((c7 = .null ∧ nA W = 0) ∨ ∃ x, c7 = Value.ref x ∧ (xA P)[a8.toNat]? = some x ∧ 0 ≤ a8 ∧ a8 < nA W) → Ok (gn_Law_others (pT P) a2 a3 a4 f c7 a8 S L) C T (ChR S L P W n hs)) :
    Ok (gn_Law_changes (pT P) a2 a3 a4 S L) C T (ChR S L P W n hs) := by
  have hV := hG.1
  have bz := hV.z
  have bp := hV.pg
  have ef : frm W = 2 * sg W := rfl
  have m1 := md_b h4.1 (m := pgs W + 1) (by omega)
  have m0 : 0 ≤ a3.tdiv 40 ∧ a3.tdiv 40 < 2147483648 := by rw [Int.tdiv_eq_ediv_of_nonneg h3.1]; omega
  have m2 := md_b m0.1 (m := 2 * sg W) (by omega)
  have hp : 0 ≤ a4 % (pgs W + 1) ∧ a4 % (pgs W + 1) ≤ pgs W := by omega
  have hf : 0 ≤ a3.tdiv 40 % (2 * sg W) ∧ a3.tdiv 40 % (2 * sg W) < frm W := by omega
  unfold gn_Law_changes
  rw [if_pos h.k, l_pages h hV, bnO_s, nm_x, wr_s (z := pgs W + 1) (by omega) (by omega), if_pos (by omega), nm_x, m1.1, wr_s (z := a4 % (pgs W + 1)) (by omega) (by omega), h.gg hV, bnO_s, nm_x, wr_s (z := 2 * sg W) (by omega) (by omega), nm_x, wr_s (z := a3.tdiv 40) (by omega) (by omega), if_pos (by omega), nm_x, m2.1, wr_s (z := a3.tdiv 40 % (2 * sg W)) (by omega) (by omega), h.fA, bnO_s, rfB_r, if_pos h.kA, e_A h, bnO_s]
  by_cases c : nA W = 0
  · rw [decide_eq_true c, if_pos rfl, bnO_s, rfB_r, if_pos h.kA, e_A h, bnO_s, decide_eq_true c, if_pos rfl]
    exact l_c82 h hL hG hT hc hp h3 hC hTT (hO _ _ _ hf (.inl ⟨rfl, c⟩)) (.inl ⟨rfl, c⟩)
  · have hk := md_b h3.1 (m := nA W) (by omega)
    have hk2 : 0 ≤ a3 % nA W ∧ a3 % nA W < nA W := ⟨hk.2.1, hk.2.2⟩
    obtain ⟨x, hx, hg, hxc⟩ := h.ad hk2
    have af := ad_f hV hk2 hxc
    rw [decide_eq_false c, if_neg Bool.false_ne_true, bnO_s, bnO_s, rfB_r, if_pos h.kA, h.cA, bnO_s, if_pos (by omega), nm_x, hk.1, wr_s (z := a3 % nA W) (by omega) (by omega), rfB_r, if_pos h.kA, hg, bnO_s, rfB_r, if_pos af.1, bnO_s, rfB_r, if_pos h.kA, e_A h, bnO_s, decide_eq_false c, if_neg Bool.false_ne_true, bnO_s, rfB_r, if_pos h.kA, h.cA, bnO_s, if_pos (by omega), nm_x, hk.1, wr_s (z := a3 % nA W) (by omega) (by omega)]
    have h7 : ((Value.ref x : Value) = .null ∧ nA W = 0) ∨ ∃ y, (Value.ref x : Value) = Value.ref y ∧ (xA P)[(a3 % nA W).toNat]? = some y ∧ 0 ≤ a3 % nA W ∧ a3 % nA W < nA W := .inr ⟨x, rfl, hx, hk2.1, hk2.2⟩
    exact l_c82 h hL hG hT hc hp h3 hC hTT (hO _ _ _ hf h7) h7
end Chg7
