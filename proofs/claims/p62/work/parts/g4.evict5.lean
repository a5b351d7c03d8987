/-! EVICTION: all pages of one ad -/
theorem fstR_skip {p : Int → Bool} : ∀ {m n : Nat} {i : Int}, (∀ j, i ≤ j → j < i + m → p j = false) → fstR p i (m + n) = fstR p (i + m) n
  | 0, n, i, _ => by rw [Nat.zero_add, show i + ((0 : Nat) : Int) = i by omega]
  | m + 1, n, i, h => by
    rw [show m + 1 + n = (m + n) + 1 by omega]
    show (if p i = true then i else fstR p (i + 1) (m + n)) = _
    rw [h i (by omega) (by omega), if_neg Bool.false_ne_true, fstR_skip (fun j h1 h2 => h j (by omega) (by omega)), show i + 1 + (m : Int) = i + ((m + 1 : Nat) : Int) by omega]
section Evict5L
variable {S : St} {L L0 K : List PC} {P : PA} {W : Vw} {a p : Int}
theorem cl_eviction (h : PT S 5 W) (hG : Good W) (c : 0 ≤ a ∧ a < nA W) (c2 : 1 ≤ p ∧ p ≤ pgs W) : ∃ v T, fn_FP_eviction 0 a p S = some (0, v, T) ∧ Off S T 507 508 ∧ EvV W a p v := by
  obtain ⟨v, T, e1, o1, ev⟩ := ev_class h hG c c2
  refine ⟨v, T, ?_, o1, ev⟩
  unfold fn_FP_eviction
  rw [F_needAd h, if_pos c, bnO_s, if_pos rfl, F_needPage h, if_pos c2, bnO_s, if_pos rfl, tg_0_2, e1]; rfl
theorem cl_cheapest (h : PT S 5 W) (hG : Good W) (c : 0 ≤ a ∧ a < nA W) {e : Int → Int} (he : ∀ p, 1 ≤ p → p ≤ pgs W → EvV W a p (e p)) : ∃ T, fn_FP_cheapestPage 0 a S = some (0, (itR (cpF e) 1 (pgs W).toNat (-1, 1000000)).1, T) ∧ Off S T 507 508 := by
  have b := hG.1.pg
  obtain ⟨T, e1, o1⟩ := cp_class h hG c he
  rw [show (pgs W + 1 - 1).toNat = (pgs W).toNat by omega] at e1
  refine ⟨T, ?_, o1⟩
  unfold fn_FP_cheapestPage
  rw [F_needAd h, if_pos c, bnO_s, if_pos rfl, tg_0_2, e1]; rfl
def frG (W : Vw) (a f p : Int) : Bool := decide (f ≤ p) && decide (reas W a p = 0)
theorem frG_end (hV : Val W) {f : Int} (hf : -1000 ≤ f ∧ f ≤ 1000) : fstR (frG W a f) 1 (pgs W).toNat = fstP W a f := by
  have b := hV.pg
  unfold fstP i_max
  by_cases c : f ≤ 1
  · have e : (if f < 1 then (1 : Int) else f) = 1 := by split <;> omega
    rw [e]
    rw [show (pgs W + 1 - 1).toNat = (pgs W).toNat by omega]
    refine fstR_congr (fun j h1 h2 => ?_)
    show (decide (f ≤ j) && decide (reas W a j = 0)) = decide (reas W a j = 0)
    rw [decide_eq_true (show f ≤ j by omega), Bool.true_and]
  · have e : (if f < 1 then (1 : Int) else f) = f := if_neg (by omega)
    rw [e]
    by_cases d : f ≤ pgs W
    · rw [show (pgs W).toNat = (f - 1).toNat + (pgs W + 1 - f).toNat by omega, fstR_skip (fun j h1 h2 => by unfold frG; rw [decide_eq_false (by omega), Bool.false_and]), show (1 : Int) + ((f - 1).toNat : Int) = f by omega]
      refine fstR_congr (fun j h1 h2 => ?_)
      show (decide (f ≤ j) && decide (reas W a j = 0)) = decide (reas W a j = 0)
      rw [decide_eq_true (show f ≤ j by omega), Bool.true_and]
    · rw [show (pgs W + 1 - f).toNat = 0 by omega]
      have q := fstR_skip (p := frG W a f) (m := (pgs W).toNat) (n := 0) (i := 1) (fun j h1 h2 => by unfold frG; rw [decide_eq_false (by omega), Bool.false_and])
      rw [Nat.add_zero] at q
      rw [q]; rfl
def lstE (z : Int × Int) : Int := if z.1 = -1 then -1 else z.2
def Rz_ (z : Int × Int) : Prop := (z.1 = -1 ∧ z.2 = 1000000) ∨ (1 ≤ z.1 ∧ 0 ≤ z.2)
theorem Rz_s {e : Int → Int} {z : Int × Int} (h : Rz_ z) (hp : 1 ≤ p) (he : -1 ≤ e p ∧ e p ≤ 119880) : Rz_ (cpF e p z) := by
  unfold cpF
  by_cases c1 : e p = -1
  · rw [if_pos c1]; exact h
  · rw [if_neg c1]
    by_cases c2 : e p < z.2
    · rw [if_pos c2]
      exact .inr ⟨hp, by show 0 ≤ e p; omega⟩
    · rw [if_neg c2]; exact h
theorem jf112 {c1 : Nat} {a3 a7 a6 : Int} {e : Int → Int} {z : Int × Int} {go : Int × Int × Int × Int × LZ → Option (((Bool × LZ) ⊕ (Int × Int × LZ)) × Nat × Nat)} (h : Rz_ z) (hp : 1 ≤ p ∧ p ≤ 1000) (he : -1 ≤ e p ∧ e p ≤ 119880) :
    jf2_Law_evictions_112_33 c1 a3 a7 go z.1 (lstE z) a6 p (e p) S L = go ((cpF e p z).1, lstE (cpF e p z), a6, p + 1, (S, L)) := by
  have i1 : wr (p + 1) = p + 1 := wr_s (by omega) (by omega)
  unfold jf2_Law_evictions_112_33 cpF
  simp only [nm_x, i1]
  by_cases c1 : e p = -1
  · rw [if_pos (by omega), if_pos c1]
  · rw [if_neg (by omega), if_neg c1]
    have el : lstE (p, e p) = e p := by unfold lstE; exact if_neg (by show ¬ p = -1; omega)
    rcases h with ⟨h1, h2⟩ | ⟨h1, h2⟩
    · have e1 : lstE z = -1 := if_pos h1
      rw [e1, if_pos (by decide), if_pos (by omega), el]
    · have e1 : lstE z = z.2 := if_neg (by omega)
      rw [e1, if_neg (by omega)]
      by_cases c2 : e p < z.2
      · rw [if_pos c2, if_pos c2, el]
      · rw [if_neg c2, if_neg c2, e1]
theorem l_evs33 {e : Int → Int} {x : Nat} {f : Int} (hG : Good W) (ha : 0 ≤ a ∧ a < nA W) (he : ∀ p, 1 ≤ p → p ≤ pgs W → EvV W a p (e p)) (hf : -1000 ≤ f ∧ f ≤ 1000) (hT0 : PT S 5 W) :
    ∀ (n N : Nat) (p : Int) (S' : St) (K : List PC) (z : Int × Int), p + n = pgs W + 1 → 1 ≤ p → n < N → HP K P W → Off S S' 507 508 → z = itR (cpF e) 1 (p - 1).toNat (-1, 1000000) → Rz_ z → K.length + 259 * n < 400000000 →
    Ok (lp (fun go q => lb2_Law_evictions_33 (pT P) a f go q.1 q.2.1 q.2.2.1 q.2.2.2.1 q.2.2.2.2.1 q.2.2.2.2.2) N (z.1, lstE z, fstR (frG W a f) 1 (p - 1).toNat, p, (S', K))) (261 * n) (2077 * n) (fun v => ∃ S2 K', v = .inr ((itR (cpF e) 1 (pgs W).toNat (-1, 1000000)).1, fstR (frG W a f) 1 (pgs W).toNat, (S2, K')) ∧ Off S S2 507 508 ∧ HP K' P W ∧ Sf (fpP P) K K' ∧ K'.length ≤ K.length + 259 * n)
  | 0, N + 1, p, S', K, z, hk, h0, _, h, oS, ez, hz, hL => by
    have hV := hG.1
    rw [lp_succ]
    show Ok (lb2_Law_evictions_33 (pT P) a f _ z.1 (lstE z) (fstR (frG W a f) 1 (p - 1).toNat) p S' K) _ _ _
    unfold lb2_Law_evictions_33
    rw [if_pos h.k, l_pages h hV, bnO_s, if_pos (by omega)]
    refine Ok.ret ⟨S', K, ?_, oS, h, Sf.refl, Nat.le_refl _⟩
    rw [ez, show (p - 1).toNat = (pgs W).toNat by omega]
  | n + 1, N + 1, p, S', K, z, hk, h0, hN, h, oS, ez, hz, hL => by
    have hV := hG.1
    have pb := hV.pg
    have hp : 1 ≤ p ∧ p ≤ pgs W := by omega
    have i1 : wr (p + 1) = p + 1 := wr_s (by omega) (by omega)
    have hT := hT0.off oS (by omega)
    obtain ⟨x, hx, hg, hy⟩ := h.ad ha
    have kk : isK K x 11 = true := isK_s hy (by decide)
    have eb := (he p hp.1 hp.2).bd hG
    have ez' : cpF e p z = itR (cpF e) 1 (p + 1 - 1).toNat (-1, 1000000) := by
      rw [ez, show (p + 1 - 1).toNat = (p - 1).toNat + 1 by omega, itR_snoc, show (1 : Int) + ((p - 1).toNat : Int) = p by omega]
    have ef : fstR (frG W a f) 1 (p + 1 - 1).toNat = if fstR (frG W a f) 1 (p - 1).toNat = -1 then (if frG W a f p = true then p else -1) else fstR (frG W a f) 1 (p - 1).toNat := by
      rw [show (p + 1 - 1).toNat = (p - 1).toNat + 1 by omega, fst_snoc (by omega), show (1 : Int) + ((p - 1).toNat : Int) = p by omega]
    have fb : fstR (frG W a f) 1 (p - 1).toNat = -1 ∨ 0 ≤ fstR (frG W a f) 1 (p - 1).toNat := by
      rcases fstR_spec (p := frG W a f) (n := (p - 1).toNat) (i := 1) (by omega) with ⟨q, -⟩ | ⟨q, -⟩
      · exact .inl q
      · exact .inr (by omega)
    rw [lp_succ]
    show Ok (lb2_Law_evictions_33 (pT P) a f _ z.1 (lstE z) (fstR (frG W a f) 1 (p - 1).toNat) p S' K) _ _ _
    unfold lb2_Law_evictions_33
    rw [if_pos h.k, l_pages h hV, bnO_s, if_neg (by omega), h.fA, bnO_s, rfB_r, if_pos h.kA, hg, bnO_s, rfB_r, if_pos kk, if_pos h.k]
    refine Ok.bind (l_eviction (S := S') h hG ha hp hx (by omega)) (by omega) (by omega) ?_
    rintro v cc ss ⟨w, K1, rfl, ev, h1, s1, l1⟩
    dsimp only
    obtain ⟨v2, T, e2, o2, ev2⟩ := cl_eviction hT hG ha hp
    have q1 : w = e p := ev.uni hG (he p hp.1 hp.2)
    have q2 : v2 = e p := ev2.uni hG (he p hp.1 hp.2)
    subst q1
    subst q2
    rw [e2, bnO_s]
    dsimp only
    rw [if_pos rfl]
    refine Ok.ad (c := 2) (s := 12) (by omega) (by omega) ?_
    rw [if_pos rfl]
    have oS2 : Off S T 507 508 := oS.trans o2
    have go1 : ∀ a6, a6 = fstR (frG W a f) 1 (p + 1 - 1).toNat → Ok (lp (fun go q => lb2_Law_evictions_33 (pT P) a f go q.1 q.2.1 q.2.2.1 q.2.2.2.1 q.2.2.2.2.1 q.2.2.2.2.2) N ((cpF e p z).1, lstE (cpF e p z), a6, p + 1, (T, K1))) (261 * (n + 1) - 259 - 2) (2077 * (n + 1) - 2065 - 12) (fun v => ∃ S2 K', v = .inr ((itR (cpF e) 1 (pgs W).toNat (-1, 1000000)).1, fstR (frG W a f) 1 (pgs W).toNat, (S2, K')) ∧ Off S S2 507 508 ∧ HP K' P W ∧ Sf (fpP P) K K' ∧ K'.length ≤ K.length + 259 * (n + 1)) := fun a6 e6 => by
      rw [e6]
      refine (l_evs33 (x := x) hG ha he hf hT0 n N (p + 1) T K1 (cpF e p z) (by omega) (by omega) (by omega) h1 oS2 ez' (Rz_s hz hp.1 eb) (by omega)).mono (by omega) (by omega) (fun v q => ?_)
      obtain ⟨S2, K', q1, q2, q3, q4, q5⟩ := q
      exact ⟨S2, K', q1, q2, q3, s1.trans q4, by omega⟩
    by_cases c1 : 0 ≤ fstR (frG W a f) 1 (p - 1).toNat
    · rw [if_pos c1, jf112 hz (by omega) eb]
      exact go1 _ (by rw [ef, if_neg (by omega)])
    · have c1' : fstR (frG W a f) 1 (p - 1).toNat = -1 := by omega
      rw [if_neg c1]
      rw [if_pos c1'] at ef
      by_cases c2 : p < f
      · rw [if_pos c2, jf112 hz (by omega) eb]
        refine go1 _ ?_
        rw [ef, c1']
        unfold frG
        rw [decide_eq_false (by omega), Bool.false_and, if_neg Bool.false_ne_true]
      · obtain ⟨x', hx', hg', hy'⟩ := h1.ad ha
        have kk' : isK K1 x' 11 = true := isK_s hy' (by decide)
        have hre := l_reason (S := T) h1 hV ha hx' (p := p) (by unfold inR; omega)
        rw [if_neg c2, h1.fA, bnO_s, rfB_r, if_pos h1.kA, hg', bnO_s, rfB_r, if_pos kk', if_pos h1.k, hre, bnO_s]
        refine Ok.ad (c := 0) (s := 0) (Nat.zero_le _) (Nat.zero_le _) ?_
        dsimp only
        by_cases c3 : reas W a p = 0
        · rw [if_pos c3]
          have ef' : fstR (frG W a f) 1 (p + 1 - 1).toNat = p := by
            rw [ef]
            unfold frG
            rw [decide_eq_true (show f ≤ p by omega), decide_eq_true c3]
            rfl
          have g := go1 p ef'.symm
          rw [← jf112 (S := T) (L := K1) (c1 := pT P) (a3 := a) (a7 := f) (a6 := p) (go := lp (fun go q => lb2_Law_evictions_33 (pT P) a f go q.1 q.2.1 q.2.2.1 q.2.2.2.1 q.2.2.2.2.1 q.2.2.2.2.2) N) hz (p := p) (by omega) eb] at g
          unfold jf2_Law_evictions_112_33 at g
          exact g.mono (by omega) (by omega) (fun _ z => z)
        · rw [if_neg c3, jf112 hz (by omega) eb]
          refine (go1 _ ?_).mono (by omega) (by omega) (fun _ z => z)
          rw [ef, c1']
          unfold frG
          rw [decide_eq_false c3, Bool.and_false, if_neg Bool.false_ne_true]
theorem l_evictions {y : Int} (h : HP L P W) (hG : Good W) (hT : PT S 5 W) (hA : 0 < nA W) (hy : 0 ≤ y ∧ y < 2147483648) (hL : L.length < 300000000) :
    Ok (gn_Law_evictions (pT P) y S L) 16706 132940 (fun v => ∃ S1 L', v = (true, (S1, L')) ∧ Off S S1 507 508 ∧ HP L' P W ∧ Sf (fpP P) L L' ∧ L'.length ≤ L.length + 16576) := by
  have hV := hG.1
  have b := hV.z
  have pb := hV.pg
  have k0 := Int.emod_nonneg y (b := nA W) (by omega)
  have k1 := Int.emod_lt_of_pos y (b := nA W) hA
  have d1 : 0 ≤ y / 40 ∧ y / 40 ≤ y := ⟨by omega, by omega⟩
  have m1 : 0 ≤ y / 40 % 70 ∧ y / 40 % 70 < 70 := by omega
  have ex : ∀ p : Int, ∃ v : Int, 1 ≤ p → p ≤ pgs W → EvV W (y % nA W) p v := fun p => by
    by_cases d : 1 ≤ p ∧ p ≤ pgs W
    · obtain ⟨v, _, _, _, ev⟩ := ev_class hT hG ⟨k0, k1⟩ d
      exact ⟨v, fun _ _ => ev⟩
    · exact ⟨0, fun h1 h2 => absurd ⟨h1, h2⟩ d⟩
  obtain ⟨e, he⟩ := Classical.axiomOfChoice ex
  unfold gn_Law_evictions
  rw [h.fA, bnO_s, rfB_r, if_pos h.kA, h.cA, bnO_s, if_pos hA, nm_x, tm_n hy.1, wr_s (z := y % nA W) (by omega) (by omega), nm_x, td_n hy.1, wr_s (z := y / 40) (by omega) (by omega), nm_x, tm_n d1.1, wr_s (z := y / 40 % 70 - 2) (by omega) (by omega)]
  have q := l_evs33 (S := S) (x := 0) (f := y / 40 % 70 - 2) hG ⟨k0, k1⟩ he (by omega) hT (pgs W).toNat FU 1 S L (-1, 1000000) (by omega) (Int.le_refl _) (FU_big (by omega)) h Off.refl rfl (.inl ⟨rfl, rfl⟩) (by omega)
  refine Ok.bindT (C1 := 16704) (T1 := 132928) (Q := fun v => ∃ S2 K', v = ((itR (cpF e) 1 (pgs W).toNat (-1, 1000000)).1, fstR (frG W (y % nA W) (y / 40 % 70 - 2)) 1 (pgs W).toNat, (S2, K')) ∧ Off S S2 507 508 ∧ HP K' P W ∧ Sf (fpP P) L K' ∧ K'.length ≤ L.length + 16576) (q.mono (by omega) (by omega) (fun v z => ?_)) (by omega) (by omega) (fun v z => ?_)
  · obtain ⟨S2, K', z1, z2, z3, z4, z5⟩ := z
    exact ⟨_, z1, S2, K', rfl, z2, z3, z4, by omega⟩
  · obtain ⟨S2, K', rfl, z2, z3, z4, z5⟩ := z
    have hT2 := hT.off z2 (by omega)
    obtain ⟨T, e3, o3⟩ := cl_cheapest hT2 hG ⟨k0, k1⟩ he
    have hT3 := hT2.off o3 (by omega)
    dsimp only
    rw [e3, bnO_s]
    dsimp only
    rw [if_pos rfl]
    refine Ok.ad (c := 1) (s := 6) (by omega) (by omega) ?_
    rw [if_pos rfl, c_firstPage hT3 hG (by unfold inR; omega) (by unfold inR; omega) ⟨k0, k1⟩, bnO_s]
    dsimp only
    rw [if_pos rfl]
    refine Ok.ad (c := 1) (s := 6) (by omega) (by omega) ?_
    rw [frG_end hV (by omega), if_pos rfl]
    exact Ok.ret ⟨T, K', rfl, z2.trans o3, z3, z4, z5⟩
end Evict5L
