/-! A PLAN DRAWN FROM THE SCRIPT: its ads -/
section PlanA
variable {S : St} {L0 K K' : List PC} {P : PA} {U U0 : Vw} {t t0 : Nat} {tx0 : List Int}
theorem nwV_k {lo hi ci : Nat} {n : Int} {F : Nat → Int} {k i : Nat} (h17 : k ≠ 17) (h : (lo ≤ k ∧ k < hi) → (i : Int) ≠ n) : nwV U lo hi ci n F k i = U k i := by
  unfold nwV
  rw [if_neg (fun q => h q.1 q.2), if_neg (fun q => h17 q.1)]
theorem nwV_y {lo hi ci : Nat} {n : Int} {F : Nat → Int} {k i : Nat} (h : lo ≤ k ∧ k < hi) (he : (i : Int) = n) : nwV U lo hi ci n F k i = F k := by
  unfold nwV
  rw [if_pos ⟨h, he⟩]
theorem nwV_lo {lo hi ci : Nat} {n : Int} {F : Nat → Int} (hh : hi ≤ 17) (hc : ci ≠ 6) : lo_ (nwV U lo hi ci n F) = lo_ U := by
  show nwV U lo hi ci n F 17 6 = U 17 6
  unfold nwV
  rw [if_neg (fun q => by omega), if_neg (fun q => hc q.2.symm)]
theorem nwA_v (hV : Val U) {F : Nat → Int} : (adV (nwA U F) (nA U).toNat = itV (F 0) (F 1) (F 3) (F 4) (F 5) (F 6) (F 2)) ∧ (∀ i : Nat, (i : Int) < nA U → adV (nwA U F) i = adV U i) ∧ (∀ i, stV (nwA U F) i = stV U i) ∧ (∀ i, sbV (nwA U F) i = sbV U i) ∧ lo_ (nwA U F) = lo_ U ∧ ∀ k i : Nat, 14 ≤ k → k < 17 → nwA U F k i = U k i := by
  have b := hV.z
  have en : (((nA U).toNat : Nat) : Int) = nA U := by omega
  refine ⟨?_, fun i hi => ?_, fun i => ?_, fun i => ?_, nwV_lo (by decide) (by decide), fun k i h1 h2 => nwV_k (by omega) (fun q => by omega)⟩
  · unfold adV nwA
    rw [nwV_y (lo := 0) (hi := 7) (k := 0) (by decide) en, nwV_y (lo := 0) (hi := 7) (k := 1) (by decide) en, nwV_y (lo := 0) (hi := 7) (k := 3) (by decide) en, nwV_y (lo := 0) (hi := 7) (k := 4) (by decide) en, nwV_y (lo := 0) (hi := 7) (k := 5) (by decide) en, nwV_y (lo := 0) (hi := 7) (k := 6) (by decide) en, nwV_y (lo := 0) (hi := 7) (k := 2) (by decide) en]
  · unfold adV nwA
    rw [nwV_k (k := 0) (by decide) (fun _ => by omega), nwV_k (k := 1) (by decide) (fun _ => by omega), nwV_k (k := 3) (by decide) (fun _ => by omega), nwV_k (k := 4) (by decide) (fun _ => by omega), nwV_k (k := 5) (by decide) (fun _ => by omega), nwV_k (k := 6) (by decide) (fun _ => by omega), nwV_k (k := 2) (by decide) (fun _ => by omega)]
  · unfold stV nwA
    rw [nwV_k (k := 7) (by decide) (fun q => by omega), nwV_k (k := 9) (by decide) (fun q => by omega), nwV_k (k := 10) (by decide) (fun q => by omega), nwV_k (k := 11) (by decide) (fun q => by omega), nwV_k (k := 8) (by decide) (fun q => by omega)]
  · unfold sbV nwA
    rw [nwV_k (k := 12) (by decide) (fun q => by omega), nwV_k (k := 13) (by decide) (fun q => by omega)]
theorem fp_aA {r : Nat} {m : Int} {cp x : Nat} (hr : r = (pA P).2.1 ∨ r = nCell + K'.length) {b : Nat} (q : fpP (aA P r m cp x) b) : fpP P b ∨ b = nCell + K'.length ∨ b = x := by
  rcases q with q | q | q | q | q | q | q | q
  · exact .inl (.inl q)
  · rcases q with q | q
    · exact .inl (.inr (.inl (.inl q)))
    · rcases hr with e' | e'
      · exact .inl (.inr (.inl (.inr (Eq.trans q e'))))
      · exact .inr (.inl (Eq.trans q e'))
  · exact .inl (.inr (.inr (.inl q)))
  · exact .inl (.inr (.inr (.inr (.inl q))))
  · exact .inl (.inr (.inr (.inr (.inr (.inl q)))))
  · have q : b ∈ xA P ++ [x] := q
    rcases List.mem_append.mp q with q | q
    · exact .inl (.inr (.inr (.inr (.inr (.inr (.inl q))))))
    · exact .inr (.inr (List.mem_singleton.mp q))
  · exact .inl (.inr (.inr (.inr (.inr (.inr (.inr (.inl q)))))))
  · exact .inl (.inr (.inr (.inr (.inr (.inr (.inr (.inr q)))))))
theorem it_newC {s y c d p r : Int} : ((((((dfl 11).set 0 (V s)).set 1 (V y)).set 6 (V c)).set 2 (V d)).set 3 (V p)).set 4 (V r) = itV s y d p r 0 c := rfl
theorem txl_ad {s y c d p r : Int} (i1 : s < 10) (i2 : y < 10) (i3 : c < 10) (i4 : d < 10) (i6 : r < 100) : (txS (sAd s y c d p r)).length ≤ 18 := by
  obtain ⟨q13, q14, q15, q16, q17, q18, q19, q20, q21, q22, q23⟩ := litLen
  have d1 := dg1 i1
  have d2 := dg1 i2
  have d3 := dg1 i3
  have d4 := dg1 i4
  have d5 := dgl (z := p)
  have d6 := dg2 i6
  show (litB 18 ++ dg s ++ litB 14 ++ dg y ++ litB 14 ++ dg c ++ litB 14 ++ dg d ++ litB 14 ++ dg p ++ litB 14 ++ dg r ++ litB 15).length ≤ 18
  simp only [List.length_append]
  omega
/-- an ad made, put into the list, and written -/
theorem l_pl266 {sc : SC} {a2 a3 k y s gr c : Int} {ss : List Stm} {M C T x : Nat} {K1 : List PC} {go : Value × Int × LZ → Option ((Value × LZ) × Nat × Nat)} {R : Value × LZ → Prop} (hG0 : Good U0) (ht0 : tm U0 = 0) (h : BI L0 K P t0 t U0 tx0 ss M) (hM : M + 18 ≤ 700) (hK : K.length < 200000000) (n1 : N1 K K1 x (11, ((dfl 11).set 0 (V s)).set 1 (V gr)))
    (hy : 0 ≤ y ∧ y < 2147483648) (hs : s = 1 ∨ s = 2 ∨ s = 4) (hgr : 0 ≤ gr ∧ gr ≤ 4) (hc : c = 0 ∨ c = 1) (hn : nA (apL U0 ss) < 18) (hk0 : 0 ≤ k ∧ k < 100)
    (hk : ∀ K' t' P' st, BI L0 K' P' t0 t' U0 tx0 (ss ++ [st]) (M + 18) → pS P' = pS P → pB P' = pB P → (xA P').length = (xA P).length + 1 → K'.length ≤ K.length + 725 → st.1 ≠ 5 → Ok (go (Value.ref t', k + 1, (S, K'))) C T R) :
    Ok (jf2_Law_plan_266_175 sc t0 a2 a3 go (Value.ref t) k y x c x S K1) (C + 58) (5 * M + 82 + 73 + T) R := by
  have hG := (GoodL hG0 ht0 h.1.2.1).1
  have hV := hG.1
  have bz := hV.z
  have hT := h.1.2.2
  obtain ⟨d, hd⟩ : ∃ d, d = y / 80 % 5 % 3 := ⟨_, rfl⟩
  obtain ⟨p, hpp⟩ : ∃ p, p = 1 + y / 400 % 300 := ⟨_, rfl⟩
  obtain ⟨r, hr⟩ : ∃ r, r = y / 120000 % 3 * (y / 7 % 20) := ⟨_, rfl⟩
  have db : 0 ≤ d ∧ d ≤ 2 := by omega
  have pb : 1 ≤ p ∧ p ≤ 300 := by omega
  have rb : 0 ≤ r ∧ r ≤ 38 := by
    have u0 : 0 ≤ y / 120000 % 3 ∧ y / 120000 % 3 ≤ 2 := by omega
    have u1 : 0 ≤ y / 7 % 20 ∧ y / 7 % 20 ≤ 19 := by omega
    have : y / 120000 % 3 = 0 ∨ y / 120000 % 3 = 1 ∨ y / 120000 % 3 = 2 := by omega
    rw [hr]
    rcases this with e | e | e <;> rw [e] <;> omega
  have td : ∀ z : Int, y.tdiv z = y / z := fun z => Int.tdiv_eq_ediv_of_nonneg hy.1
  have tm_ : ∀ a z : Int, 0 ≤ a → a.tmod z = a % z := fun a z ha => Int.tmod_eq_emod_of_nonneg ha
  obtain ⟨L1, e1, w1⟩ := pf_s n1.at (f := 6) (Nat.le_of_ble_eq_true rfl) (V c)
  obtain ⟨L2, e2, w2⟩ := pf_s w1.at (f := 2) (Nat.le_of_ble_eq_true rfl) (V d)
  obtain ⟨L3, e3, w3⟩ := pf_s w2.at (f := 3) (Nat.le_of_ble_eq_true rfl) (V p)
  obtain ⟨L4, e4, w4⟩ := pf_s w3.at (f := 4) (Nat.le_of_ble_eq_true rfl) (V r)
  have nn := ((n1.w w1).w w2).w w3 |>.w w4
  have hx := nn.at
  rw [it_newC] at hx
  have s4 : Sf F0_ K L4 := Sf.refl.n nn
  have l4 := nn.2.1
  have xe := nn.1
  have h4 := h.1.1.sf0 s4
  have hxn : ¬ fpP P x := fun q => by
    rcases fp_lt h.1.1.1 _ q with ⟨c, e⟩ | e
    · have := hp_lt e; omega
    · rw [xe] at e; unfold nCell XB at e; omega
  have items : ∀ z ∈ xA P, okE L4 (Value.ref z) = true := fun z hz => by
    obtain ⟨i, hi⟩ := List.mem_iff_getElem?.mp hz
    exact okE_i (h4.1.2.2.1 i z hi) (.inl rfl)
  have hlA : (xA P).length = (nA (apL U0 ss)).toNat := by have := h.1.1.2.1.1; omega
  obtain ⟨L5, r', m', cp', c5, s5, e5, b5, hl5, hr5, hf5, g5, g5'⟩ := k_addAny (S := S) h4.lA (okE_i hx (.inl rfl)) items (by show (xA P).length ≤ 49; omega) (by omega)
  obtain ⟨v1, v2, v3, v4, v5, v6⟩ := nwA_v (U := apL U0 ss) (F := fAd s gr c d p r) hV
  obtain ⟨n1', n2, n3, n4, n5, n6⟩ := nwA_n (V := apL U0 ss) (F := fAd s gr c d p r)
  have h5 : HP L5 (aA P r' m' cp' x) (apS (apL U0 ss) (sAd s gr c d p r)) := h4.addA (W' := nwA (apL U0 ss) (fAd s gr c d p r)) g5 hl5 hf5 hr5 hx hxn (by rw [hlA, v1]; rfl) v2 v3 v4 ⟨n1', n2, n3, n4, n5, n6, v5⟩ v6
  have hx5 : hp L5 x = some (11, itV s gr d p r 0 c) := add_keep h4.lA hr5 hf5 hx (by decide)
  have sP : Sf (fpP P) K L5 := ⟨by omega, fun b hb hF => by
    rw [hf5 b (fun e => hF (.inr (.inl (.inl e)))) (fun e => ?_), s4.2 b hb id]
    rcases hr5 with e' | e'
    · exact hF (.inr (.inl (.inr (e.trans e'))))
    · omega⟩
  have ht5 := h.2.1.1.fp h.1.1 sP
  have fA4 := h4.fA
  rw [hT] at fA4
  have i1 : wr (k + 1) = k + 1 := wr_s (by omega) (by omega)
  have tc := tx_cost (N := M + 18) (m := M) (d := 18) rfl (by decide) (by omega)
  have hbl := h.2.1.2
  have fin : ∀ t' K', StH K' t' (tx0 ++ txL ss ++ txS (sAd s gr c d p r)) → nCell + L5.length ≤ t' → Sf F0_ L5 K' → K'.length ≤ L5.length + (M + 18) → Ok (go (Value.ref t', k + 1, (S, K'))) C T R := fun t' K' y1 y2 y3 y4 =>
    hk K' t' (aA P r' m' cp' x) (sAd s gr c d p r) (h.step (s := sAd s gr c d p r) (d := 18) ⟨hn, hs, hgr, hc, db, pb, rb⟩ h5 rfl sP (fun b q => by
      rcases fp_aA hr5 q with q | q | q
      · exact .inl q
      · exact .inr (by omega)
      · exact .inr (by omega)) h.2.2.2 y3 y1 (txl_ad (by omega) (by omega) (by omega) (by omega) (by omega))) rfl rfl (by show (xA P ++ [x]).length = _; rw [List.length_append]; rfl) (by omega) (show (1 : Nat) ≠ 5 from by decide)
  unfold jf2_Law_plan_266_175
  rw [if_pos hc, e1, bnO_s, nm_x, td 80, wr_s (z := y / 80) (by omega) (by omega), nm_x, tm_ (y / 80) 5 (by omega), wr_s (z := y / 80 % 5) (by omega) (by omega), nm_x, tm_ (y / 80 % 5) 3 (by omega), wr_s (z := y / 80 % 5 % 3) (by omega) (by omega), ← hd, e2, bnO_s, nm_x, td 400, wr_s (z := y / 400) (by omega) (by omega), nm_x, tm_ (y / 400) 300 (by omega), wr_s (z := 1 + y / 400 % 300) (by omega) (by omega), ← hpp, e3, bnO_s, nm_x, td 120000, wr_s (z := y / 120000) (by omega) (by omega), nm_x, td 7, wr_s (z := y / 7) (by omega) (by omega), nm_x, tm_ (y / 120000) 3 (by omega), tm_ (y / 7) 20 (by omega), ← hr, wr_s (z := r) (by omega) (by omega), e4, bnO_s, fA4, bnO_s, rfB_r, if_pos h4.kA, e5, bnO_s]
  refine Ok.ad (c := c5) (s := s5) (by omega) (by omega) ?_
  dsimp only
  rcases hc with rfl | rfl
  · refine (tx_ad0 (N := M + 18) (C := C) (T := T) (y := gr) (p := p) ht5 rfl hx5 (by omega) (by omega) (by omega) (by omega) (by omega) (dg1 (by omega)) (dg1 (by omega)) (dg1 (by omega)) dgl (dg2 (by omega)) (dg1 (by decide)) (by omega) (by omega) (by omega) (fun t' K' u v y1 y2 y3 y4 => ?_)).mono (by omega) (by omega) (fun _ q => q)
    rw [nm_x, i1]
    exact fin t' K' y1 y2 y3 y4
  · refine (tx_ad1 (N := M + 18) (C := C) (T := T) (y := gr) (p := p) ht5 rfl hx5 (by omega) (by omega) (by omega) (by omega) (by omega) (dg1 (by omega)) (dg1 (by omega)) (dg1 (by omega)) dgl (dg2 (by omega)) (dg1 (by decide)) (by omega) (by omega) (by omega) (fun t' K' u v y1 y2 y3 y4 => ?_)).mono (by omega) (by omega) (fun _ q => q)
    rw [nm_x, i1]
    exact fin t' K' y1 y2 y3 y4
end PlanA
