/-! A PLAN DRAWN FROM THE SCRIPT: its stories -/
section PlanS
variable {S : St} {L0 K K' : List PC} {P : PA} {U U0 : Vw} {t t0 : Nat} {tx0 : List Int}
theorem nwS_v (hV : Val U) {F : Nat → Int} : (stV (nwS U F) (nS U).toNat = itV (F 7) 0 (F 9) 0 (F 10) (F 11) (F 8)) ∧ (∀ i : Nat, (i : Int) < nS U → stV (nwS U F) i = stV U i) ∧ (∀ i, adV (nwS U F) i = adV U i) ∧ (∀ i, sbV (nwS U F) i = sbV U i) ∧ lo_ (nwS U F) = lo_ U ∧ ∀ k i : Nat, 14 ≤ k → k < 17 → nwS U F k i = U k i := by
  have b := hV.z
  have en : (((nS U).toNat : Nat) : Int) = nS U := by omega
  refine ⟨?_, fun i hi => ?_, fun i => ?_, fun i => ?_, nwV_lo (by decide) (by decide), fun k i h1 h2 => nwV_k (by omega) (fun q => by omega)⟩
  · unfold stV nwS
    rw [nwV_y (lo := 7) (hi := 12) (k := 7) (by decide) en, nwV_y (lo := 7) (hi := 12) (k := 9) (by decide) en, nwV_y (lo := 7) (hi := 12) (k := 10) (by decide) en, nwV_y (lo := 7) (hi := 12) (k := 11) (by decide) en, nwV_y (lo := 7) (hi := 12) (k := 8) (by decide) en]
  · unfold stV nwS
    rw [nwV_k (k := 7) (by decide) (fun _ => by omega), nwV_k (k := 9) (by decide) (fun _ => by omega), nwV_k (k := 10) (by decide) (fun _ => by omega), nwV_k (k := 11) (by decide) (fun _ => by omega), nwV_k (k := 8) (by decide) (fun _ => by omega)]
  · unfold adV nwS
    rw [nwV_k (k := 0) (by decide) (fun q => by omega), nwV_k (k := 1) (by decide) (fun q => by omega), nwV_k (k := 3) (by decide) (fun q => by omega), nwV_k (k := 4) (by decide) (fun q => by omega), nwV_k (k := 5) (by decide) (fun q => by omega), nwV_k (k := 6) (by decide) (fun q => by omega), nwV_k (k := 2) (by decide) (fun q => by omega)]
  · unfold sbV nwS
    rw [nwV_k (k := 12) (by decide) (fun q => by omega), nwV_k (k := 13) (by decide) (fun q => by omega)]
theorem fp_aS {r : Nat} {m : Int} {cp x : Nat} (hr : r = (pS P).2.1 ∨ r = nCell + K'.length) {b : Nat} (q : fpP (aS P r m cp x) b) : fpP P b ∨ b = nCell + K'.length ∨ b = x := by
  rcases q with q | q | q | q | q | q | q | q
  · exact .inl (.inl q)
  · exact .inl (.inr (.inl q))
  · rcases q with q | q
    · exact .inl (.inr (.inr (.inl (.inl q))))
    · rcases hr with e' | e'
      · exact .inl (.inr (.inr (.inl (.inr (Eq.trans q e')))))
      · exact .inr (.inl (Eq.trans q e'))
  · exact .inl (.inr (.inr (.inr (.inl q))))
  · exact .inl (.inr (.inr (.inr (.inr (.inl q)))))
  · exact .inl (.inr (.inr (.inr (.inr (.inr (.inl q))))))
  · have q : b ∈ xS P ++ [x] := q
    rcases List.mem_append.mp q with q | q
    · exact .inl (.inr (.inr (.inr (.inr (.inr (.inr (.inl q)))))))
    · exact .inr (.inr (List.mem_singleton.mp q))
  · exact .inl (.inr (.inr (.inr (.inr (.inr (.inr (.inr q)))))))
theorem row_ne (h : HP K P U) {L : List PC} (hle : K.length ≤ L.length) {r : Nat} (hr : r = nCell + L.length) (z : r < XB) : r ≠ (pB P).2.1 := fun e => by
  rcases h.lB.2.2 with ⟨e2, _⟩ | ⟨vs, e2, _⟩
  · omega
  · have := hp_lt e2; omega
theorem it_newS {s c d r : Int} : ((((dfl 11).set 0 (V s)).set 6 (V c)).set 2 (V d)).set 4 (V r) = itV s 0 d 0 r 0 c := rfl
theorem txl_st {s c d r : Int} (i1 : s < 10) (i3 : c < 10) (i4 : d < 10) (i6 : r < 100) : (txS (sSt s c d r)).length ≤ 15 := by
  obtain ⟨q13, q14, q15, q16, q17, q18, q19, q20, q21, q22, q23⟩ := litLen
  have d1 := dg1 i1
  have d3 := dg1 i3
  have d4 := dg1 i4
  have d6 := dg2 i6
  show (litB 19 ++ dg s ++ litB 14 ++ dg c ++ litB 14 ++ dg d ++ litB 14 ++ dg r ++ litB 15).length ≤ 15
  simp only [List.length_append]
  omega
/-- a story made, put into the list, and written -/
theorem l_pl517 {sc : SC} {a2 a3 k y s c : Int} {ss : List Stm} {M C T x : Nat} {K1 : List PC} {go : Value × Int × LZ → Option ((Value × LZ) × Nat × Nat)} {R : Value × LZ → Prop} (hG0 : Good U0) (ht0 : tm U0 = 0) (h : BI L0 K P t0 t U0 tx0 ss M) (hM : M + 15 ≤ 700) (hK : K.length < 200000000) (n1 : N1 K K1 x (11, (dfl 11).set 0 (V s)))
    (hy : 0 ≤ y ∧ y < 2147483648) (hs : 1 ≤ s ∧ s ≤ 4) (hc : c = 0 ∨ c = 1) (hn : nS (apL U0 ss) < 3) (hk0 : 0 ≤ k ∧ k < 100)
    (hk : ∀ K' t' P' st, BI L0 K' P' t0 t' U0 tx0 (ss ++ [st]) (M + 15) → xA P' = xA P → pB P' = pB P → (xS P').length = (xS P).length + 1 → K'.length ≤ K.length + 725 → st.1 ≠ 5 → Ok (go (Value.ref t', k + 1, (S, K'))) C T R) :
    Ok (jf2_Law_plan_517_456 sc t0 a2 a3 go (Value.ref t) k y x c x S K1) (C + 58) (5 * M + 82 + 73 + T) R := by
  have hG := (GoodL hG0 ht0 h.1.2.1).1
  have hV := hG.1
  have bz := hV.z
  have hT := h.1.2.2
  obtain ⟨d, hd⟩ : ∃ d, d = y / 20 % 5 % 3 := ⟨_, rfl⟩
  obtain ⟨r, hr⟩ : ∃ r, r = y / 100 % 2 * (y / 200 % 25) := ⟨_, rfl⟩
  have db : 0 ≤ d ∧ d ≤ 2 := by omega
  have rb : 0 ≤ r ∧ r ≤ 24 := by
    have u1 : 0 ≤ y / 200 % 25 ∧ y / 200 % 25 ≤ 24 := by omega
    have : y / 100 % 2 = 0 ∨ y / 100 % 2 = 1 := by omega
    rw [hr]
    rcases this with e | e <;> rw [e] <;> omega
  have td : ∀ z : Int, y.tdiv z = y / z := fun z => Int.tdiv_eq_ediv_of_nonneg hy.1
  have tm_ : ∀ a z : Int, 0 ≤ a → a.tmod z = a % z := fun a z ha => Int.tmod_eq_emod_of_nonneg ha
  obtain ⟨L1, e1, w1⟩ := pf_s n1.at (f := 6) (Nat.le_of_ble_eq_true rfl) (V c)
  obtain ⟨L2, e2, w2⟩ := pf_s w1.at (f := 2) (Nat.le_of_ble_eq_true rfl) (V d)
  obtain ⟨L4, e4, w4⟩ := pf_s w2.at (f := 4) (Nat.le_of_ble_eq_true rfl) (V r)
  have nn := ((n1.w w1).w w2).w w4
  have hx := nn.at
  rw [it_newS] at hx
  have s4 : Sf F0_ K L4 := Sf.refl.n nn
  have l4 := nn.2.1
  have xe := nn.1
  have h4 := h.1.1.sf0 s4
  have hxn : ¬ fpP P x := fun q => by
    rcases fp_lt h.1.1.1 _ q with ⟨c, e⟩ | e
    · have := hp_lt e; omega
    · rw [xe] at e; unfold nCell XB at e; omega
  have items : ∀ z ∈ xS P, okE L4 (Value.ref z) = true := fun z hz => by
    obtain ⟨i, hi⟩ := List.mem_iff_getElem?.mp hz
    exact okE_i (h4.1.2.2.2.1 i z hi) (.inl rfl)
  have hlA : (xS P).length = (nS (apL U0 ss)).toNat := by have := h.1.1.2.1.2.1; omega
  obtain ⟨L5, r', m', cp', c5, s5, e5, b5, hl5, hr5, hf5, g5, g5'⟩ := k_addAny (S := S) h4.lS (okE_i hx (.inl rfl)) items (by show (xS P).length ≤ 49; omega) (by omega)
  obtain ⟨v1, v2, v3, v4, v5, v6⟩ := nwS_v (U := apL U0 ss) (F := fSt s c d r) hV
  obtain ⟨n1', n2, n3, n4, n5, n6⟩ := nwS_n (V := apL U0 ss) (F := fSt s c d r)
  have h5 : HP L5 (aS P r' m' cp' x) (apS (apL U0 ss) (sSt s c d r)) := h4.addS (W' := nwS (apL U0 ss) (fSt s c d r)) g5 hl5 hf5 hr5 h.2.2.2 hx hxn (by rw [hlA, v1]; rfl) v2 v3 v4 ⟨n1', n2, n3, n4, n5, n6, v5⟩ v6
  have hx5 : hp L5 x = some (11, itV s 0 d 0 r 0 c) := add_keep h4.lS hr5 hf5 hx (by decide)
  have sP : Sf (fpP P) K L5 := ⟨by omega, fun b hb hF => by
    rw [hf5 b (fun e => hF (.inr (.inr (.inl (.inl e))))) (fun e => ?_), s4.2 b hb id]
    rcases hr5 with e' | e'
    · exact hF (.inr (.inr (.inl (.inr (e.trans e')))))
    · omega⟩
  have ht5 := h.2.1.1.fp h.1.1 sP
  have fA4 := h4.fS
  rw [hT] at fA4
  have i1 : wr (k + 1) = k + 1 := wr_s (by omega) (by omega)
  have tc := tx_cost (N := M + 15) (m := M) (d := 15) rfl (by decide) (by omega)
  have hbl := h.2.1.2
  have fin : ∀ t' K', StH K' t' (tx0 ++ txL ss ++ txS (sSt s c d r)) → nCell + L5.length ≤ t' → Sf F0_ L5 K' → K'.length ≤ L5.length + (M + 15) → Ok (go (Value.ref t', k + 1, (S, K'))) C T R := fun t' K' y1 y2 y3 y4 =>
    hk K' t' (aS P r' m' cp' x) (sSt s c d r) (h.step (s := sSt s c d r) (d := 15) ⟨hn, hs, hc, db, rb⟩ h5 rfl sP (fun b q => by
      rcases fp_aS hr5 q with q | q | q
      · exact .inl q
      · exact .inr (by omega)
      · exact .inr (by omega)) (fun z => by
      rcases hr5 with e' | e'
      · have z : r' < XB := z
        show r' ≠ _
        rw [e'] at z ⊢
        exact h.2.2.2 z
      · exact row_ne h.1.1 (by omega) e' z) y3 y1 (txl_st (by omega) (by omega) (by omega) (by omega))) rfl rfl (by show (xS P ++ [x]).length = _; rw [List.length_append]; rfl) (by omega) (show (2 : Nat) ≠ 5 from by decide)
  unfold jf2_Law_plan_517_456
  rw [if_pos hc, e1, bnO_s, nm_x, td 20, wr_s (z := y / 20) (by omega) (by omega), nm_x, tm_ (y / 20) 5 (by omega), wr_s (z := y / 20 % 5) (by omega) (by omega), nm_x, tm_ (y / 20 % 5) 3 (by omega), wr_s (z := y / 20 % 5 % 3) (by omega) (by omega), ← hd, e2, bnO_s, nm_x, td 100, wr_s (z := y / 100) (by omega) (by omega), nm_x, td 200, wr_s (z := y / 200) (by omega) (by omega), nm_x, tm_ (y / 100) 2 (by omega), tm_ (y / 200) 25 (by omega), ← hr, wr_s (z := r) (by omega) (by omega), e4, bnO_s, fA4, bnO_s, rfB_r, if_pos h4.kS, e5, bnO_s]
  refine Ok.ad (c := c5) (s := s5) (by omega) (by omega) ?_
  dsimp only
  rcases hc with rfl | rfl
  · refine (tx_st0 (N := M + 15) (C := C) (T := T) (y := 0) (p := 0) ht5 rfl hx5 (by omega) (by omega) (by omega) (dg1 (by omega)) (dg1 (by omega)) (dg2 (by omega)) (dg1 (by decide)) (by omega) (by omega) (by omega) (fun t' K' u v y1 y2 y3 y4 => ?_)).mono (by omega) (by omega) (fun _ q => q)
    rw [nm_x, i1]
    exact fin t' K' y1 y2 y3 y4
  · refine (tx_st1 (N := M + 15) (C := C) (T := T) (y := 0) (p := 0) ht5 rfl hx5 (by omega) (by omega) (by omega) (dg1 (by omega)) (dg1 (by omega)) (dg2 (by omega)) (dg1 (by decide)) (by omega) (by omega) (by omega) (fun t' K' u v y1 y2 y3 y4 => ?_)).mono (by omega) (by omega) (fun _ q => q)
    rw [nm_x, i1]
    exact fin t' K' y1 y2 y3 y4
end PlanS
