/-! OTHER CHANGES: an ad more in the law's plan -/
section Oth4
variable {S : St} {L L' : List PC} {P : PA} {W W' : Vw} {n : Int} {hs : Int → Vw}
def aA (P : PA) (r : Nat) (m : Int) (cp x : Nat) : PA := (pT P, (((pA P).1, r, m, cp, xA P ++ [x]), pS P, pB P), pC P, pP P, pK P)
theorem nodup_mid {xs ys : List Nat} {x : Nat} (h : (xs ++ ys).Nodup) (h1 : x ∉ xs) (h2 : x ∉ ys) : (xs ++ [x] ++ ys).Nodup := by
  rw [List.append_assoc]
  refine (List.Perm.nodup_iff (List.perm_middle (a := x) (l₁ := xs) (l₂ := ys))).mpr ?_
  refine List.nodup_cons.mpr ⟨fun q => ?_, h⟩
  rcases List.mem_append.mp q with q | q
  · exact h1 q
  · exact h2 q
theorem HP.addA {x r' cp' : Nat} {m' : Int} {v : List Value} (h : HP L P W) (hlen : L.length ≤ L'.length) (hl : LsH L' (pA P).1 r' m' cp' (xA P ++ [x])) (hf : ∀ b, b ≠ (pA P).1 → b ≠ r' → hp L' b = hp L b) (hr : r' = (pA P).2.1 ∨ r' = nCell + L.length)
    (hx : hp L x = some (11, v)) (hxn : ¬ fpP P x) (v1 : v = adV W' (xA P).length) (vA : ∀ i : Nat, (i : Int) < nA W → adV W' i = adV W i) (vS : ∀ i, stV W' i = stV W i) (vB : ∀ i, sbV W' i = sbV W i)
    (vn : nA W' = nA W + 1 ∧ nS W' = nS W ∧ nB W' = nB W ∧ sg W' = sg W ∧ pe W' = pe W ∧ tm W' = tm W ∧ lo_ W' = lo_ W) (vF : ∀ k i : Nat, 14 ≤ k → k < 17 → W' k i = W k i) : HP L' (aA P r' m' cp' x) W' := by
  have keep : ∀ {b k : Nat} {vs : List Value}, hp L b = some (k, vs) → (k ≠ 13 ∧ k ≠ 103) → hp L' b = some (k, vs) := fun hb hk => add_keep h.lA hr hf hb hk
  obtain ⟨n1, n2, n3, n4, n5, n6, n7⟩ := vn
  obtain ⟨⟨q1, q2, q3⟩, q4, q5, q6⟩ := h.2.2.2
  have sf : Sf (fun b => b = (pA P).1 ∨ b = r') L L' := ⟨hlen, fun b _ hb => hf b (fun e => hb (.inl e)) (fun e => hb (.inr e))⟩
  have hrow : ∀ (A : LA), LsA L A → (r' < XB → r' ≠ A.2.1) ∨ (r' = (pA P).2.1) := fun A hA => by
    rcases hr with e | e
    · exact .inr e
    · refine .inl (fun hx2 => ?_)
      rcases hA.2.2 with ⟨e2, _⟩ | ⟨vs, e2, _⟩
      · omega
      · have := hp_lt e2; omega
  have lst : ∀ A : LA, LsA L A → A.1 ≠ (pA P).1 → ((pA P).2.1 < XB → (pA P).2.1 ≠ A.2.1) → LsA L' A := fun A hA ha hb => by
    refine LsH.sf hA sf (fun q => ?_) (fun q1 q2 => ?_)
    · rcases q with q | q
      · exact ha q
      · rcases hr with e | e
        · rcases h.lA.2.2 with ⟨e2, _⟩ | ⟨vs, e2, _⟩
          · have := (hp_bd hA.2.1).2.1; omega
          · rw [← e, ← q] at e2
            exact hp_ne hA.2.1 e2 (by decide) rfl
        · have := hp_lt hA.2.1; omega
    · rcases hA.2.2 with ⟨e2, _⟩ | ⟨vs, e2, _⟩
      · omega
      · rcases q2 with q | q
        · rw [q] at e2
          exact hp_ne h.lA.2.1 e2 (by decide) rfl
        · rcases hr with e | e
          · exact hb (by omega) (by omega)
          · have := hp_lt e2; omega
  have rw_ : ∀ {k r j : Nat}, RwH L k r W j → (k ≠ 13 ∧ k ≠ 103) → 14 ≤ j ∧ j < 17 → RwH L' k r W' j := fun hR hk hj => by
    obtain ⟨vs, e1, e2, e3⟩ := hR
    refine ⟨vs, keep e1 hk, e2, fun f hf => ?_⟩
    rw [n4] at hf
    rw [e3 f hf, vF _ _ hj.1 hj.2]
  obtain ⟨c1, c2, c3, c4, c5, c6, c7, c8⟩ := h.1
  refine ⟨⟨?_, ⟨hl, lst _ h.lS (fun e => q1 e.symm) (fun z => (q4 z).1), lst _ h.lB (fun e => q2 e.symm) (fun z => (q4 z).2)⟩, fun i y hy => ?_, fun i y hy => ?_, fun i y hy => ?_, rw_ c6 (by decide) (by decide), rw_ c7 (by decide) (by decide), rw_ c8 (by decide) (by decide)⟩, ⟨?_, ?_, ?_⟩, ?_, ⟨⟨q1, q2, q3⟩, fun z => ?_, q5, ?_⟩⟩
  · rw [n4, n5, n6, n7]
    exact keep c1 (by decide)
  · have hy : (xA P ++ [x])[i]? = some y := hy
    by_cases d : i < (xA P).length
    · rw [List.getElem?_append_left d] at hy
      rw [vA i (by have := h.2.1.1; omega)]
      exact keep (c3 i y hy) (by decide)
    · rw [List.getElem?_append_right (by omega)] at hy
      have : i - (xA P).length = 0 := by
        have := (List.getElem?_eq_some_iff.mp hy).1
        have e : [x].length = 1 := rfl
        omega
      rw [this] at hy
      have e : x = y := Option.some.inj hy
      have ei : i = (xA P).length := by omega
      rw [← e, ei, ← v1]
      exact keep hx (by decide)
  · rw [vS i]
    exact keep (c4 i y hy) (by decide)
  · rw [vB i]
    exact keep (c5 i y hy) (by decide)
  · show (((xA P ++ [x]).length : Nat) : Int) = _
    rw [List.length_append, n1, ← h.2.1.1]
    rfl
  · rw [n2]; exact h.2.1.2.1
  · rw [n3]; exact h.2.1.2.2
  · rw [n7]; exact h.2.2.1
  · have z : r' < XB := z
    refine ⟨?_, ?_⟩
    · rcases hrow _ h.lS with e | e
      · exact e z
      · show r' ≠ _
        rw [e] at z ⊢
        exact (q4 z).1
    · rcases hrow _ h.lB with e | e
      · exact e z
      · show r' ≠ _
        rw [e] at z ⊢
        exact (q4 z).2
  · show ((xA P ++ [x]) ++ xS P ++ xB P).Nodup
    rw [List.append_assoc]
    rw [List.append_assoc] at q6
    refine nodup_mid q6 (fun e => hxn (.inr (.inr (.inr (.inr (.inr (.inl e))))))) (fun e => ?_)
    rcases List.mem_append.mp e with e | e
    · exact hxn (.inr (.inr (.inr (.inr (.inr (.inr (.inl e)))))))
    · exact hxn (.inr (.inr (.inr (.inr (.inr (.inr (.inr e)))))))
theorem k_addAny {a r cp x : Nat} {m : Int} {xs : List Nat} (h : LsH L a r m cp xs) (hok : okE L (Value.ref x) = true) (hx : ∀ y ∈ xs, okE L (Value.ref y) = true) (hn : xs.length ≤ 49) (hL : L.length < 800000000) :
    ∃ L1 r' m' cp' c s, gn_AL_add a (Value.ref x) S L = some ((true, (S, L1)), c, s) ∧ (c ≤ 1 ∧ s ≤ 73) ∧ LsH L1 a r' m' cp' (xs ++ [x]) ∧ (r' = r ∨ r' = nCell + L.length) ∧ (∀ b, b ≠ a → b ≠ r' → hp L1 b = hp L b) ∧ L.length ≤ L1.length ∧ L1.length ≤ L.length + 1 := by
  by_cases c : xs.length < cp
  · obtain ⟨L1, e, h1, l1, f1⟩ := k_add (S := S) h hok c
    exact ⟨L1, r, _, cp, 0, 0, e, by omega, h1, .inl rfl, f1, by omega, by omega⟩
  · have hc : xs.length = cp := by have := h.1.2.1; omega
    obtain ⟨L1, e, h1, l1, f1⟩ := k_addG (S := S) h hok hx hc (by omega) hL
    refine ⟨L1, _, _, _, 1, nxc cp, e, ⟨Nat.le_refl _, ?_⟩, h1, .inr rfl, f1, by omega, by omega⟩
    unfold nxc
    split
    · omega
    · split <;> omega
end Oth4
section Oth5
variable {S : St} {L L' : List PC} {P : PA} {W W' : Vw} {n : Int} {hs : Int → Vw}
theorem shl_123 : i_shl 1 0 = 1 ∧ i_shl 1 1 = 2 ∧ i_shl 1 2 = 4 := by decide
theorem it_new {s y p r : Int} : ((((dfl 11).set 0 (V s)).set 1 (V y)).set 3 (V p)).set 4 (V r) = itV s y 0 p r 0 0 := rfl
theorem addV_v {s y p r : Int} (hV : Val W) : (adV (addV W s y p r) (nA W).toNat = itV s y 0 p r 0 0) ∧ (∀ i : Nat, (i : Int) < nA W → adV (addV W s y p r) i = adV W i) ∧ (∀ i, stV (addV W s y p r) i = stV W i) ∧ (∀ i, sbV (addV W s y p r) i = sbV W i) ∧ lo_ (addV W s y p r) = lo_ W ∧ ∀ k i : Nat, 14 ≤ k → k < 17 → addV W s y p r k i = W k i := by
  have b := hV.z
  have o : ∀ k i : Nat, k ≠ 17 → (k < 7 → (i : Int) ≠ nA W) → addV W s y p r k i = W k i := fun k i h1 h2 => by
    unfold addV
    rw [if_neg (fun q => h2 q.1 q.2), if_neg (fun q => h1 q.1)]
  have ne : ∀ k : Nat, k < 7 → addV W s y p r k (nA W).toNat = if k = 0 then s else if k = 1 then y else if k = 4 then p else if k = 5 then r else 0 := fun k hk => by
    unfold addV
    rw [if_pos ⟨hk, by omega⟩]
  refine ⟨?_, fun i hi => ?_, fun i => ?_, fun i => ?_, ?_, fun k i h1 h2 => o k i (by omega) (fun q => by omega)⟩
  · unfold adV
    rw [ne 0 (by decide), ne 1 (by decide), ne 3 (by decide), ne 4 (by decide), ne 5 (by decide), ne 6 (by decide), ne 2 (by decide)]
    rfl
  · unfold adV
    rw [o 0 i (by decide) (fun _ => by omega), o 1 i (by decide) (fun _ => by omega), o 3 i (by decide) (fun _ => by omega), o 4 i (by decide) (fun _ => by omega), o 5 i (by decide) (fun _ => by omega), o 6 i (by decide) (fun _ => by omega), o 2 i (by decide) (fun _ => by omega)]
  · unfold stV
    rw [o 7 i (by decide) (fun q => absurd q (by decide)), o 9 i (by decide) (fun q => absurd q (by decide)), o 10 i (by decide) (fun q => absurd q (by decide)), o 11 i (by decide) (fun q => absurd q (by decide)), o 8 i (by decide) (fun q => absurd q (by decide))]
  · unfold sbV
    rw [o 12 i (by decide) (fun q => absurd q (by decide)), o 13 i (by decide) (fun q => absurd q (by decide))]
  · show addV W s y p r 17 6 = W 17 6
    unfold addV
    rw [if_neg (fun q => absurd q.1 (by decide)), if_neg (fun q => absurd q.2 (by decide))]
theorem l_o563 {a3 a4 : Int} (h : HP L P W) (hG : Good W) (hT : PT S 5 W) (hc : HCl S n hs) (hL : L.length < 300000000) (h3 : 0 ≤ a3 ∧ a3 < 2147483648) (h4 : 0 ≤ a4 ∧ a4 < 2147483648) :
    Ok (jf2_Law_others_563 (pT P) a3 a4 S L) 3 86 (ChR S L P W n hs) := by
  have hV := hG.1
  have bz := hV.z
  have m3 := md_b h3.1 (m := 3) (by decide)
  have m10 := md_b h4.1 (m := 10) (by decide)
  have d10 : a4.tdiv 10 = a4 / 10 := Int.tdiv_eq_ediv_of_nonneg h4.1
  have d3 : a3.tdiv 3 = a3 / 3 := Int.tdiv_eq_ediv_of_nonneg h3.1
  have q10 : 0 ≤ a4 / 10 ∧ a4 / 10 < 2147483648 := by omega
  have q3 : 0 ≤ a3 / 3 ∧ a3 / 3 < 2147483648 := by omega
  have m999 := md_b q10.1 (m := 999) (by decide)
  have m30 := md_b q3.1 (m := 30) (by decide)
  obtain ⟨s, hs1⟩ : ∃ s, s = i_shl 1 (a3 % 3) := ⟨_, rfl⟩
  have hs2 : s = 1 ∨ s = 2 ∨ s = 4 := by
    have : a3 % 3 = 0 ∨ a3 % 3 = 1 ∨ a3 % 3 = 2 := by omega
    rcases this with e | e | e
    · rw [hs1, e]; exact .inl shl_123.1
    · rw [hs1, e]; exact .inr (.inl shl_123.2.1)
    · rw [hs1, e]; exact .inr (.inr shl_123.2.2)
  unfold jf2_Law_others_563
  rw [h.fA, bnO_s, rfB_r, if_pos h.kA, h.cA, bnO_s]
  by_cases c : nA W = 40
  · have e := (cl_addAd hT hG hc (s := 1) (y := 0) (p := 1) (r := 0) ⟨.inl rfl, by decide, by decide, by decide⟩).1 (by omega)
    rw [if_pos c, e, bnO_s]
    dsimp only
    rw [if_pos rfl]
    refine Ok.ad (c := 1) (s := 6) (by omega) (by omega) ?_
    rw [if_pos rfl]
    exact Ok.ret (ChR.no hT hc h Sf.refl (by omega))
  · have hn : nA W < 40 := by omega
    obtain ⟨hG', S', eC, hC⟩ := (cl_addAd hT hG hc (s := s) (y := a4 % 10) (p := 1 + a4 / 10 % 999) (r := a3 / 3 % 30) ⟨hs2, by omega, by omega, by omega⟩).2 hn
    have n0 := N1.of (L := L) (c := (11, dfl 11)) (by omega)
    obtain ⟨L1, e1, w1⟩ := pf_s n0.at (f := 0) (Nat.le_of_ble_eq_true rfl) (V s)
    obtain ⟨L2, e2, w2⟩ := pf_s w1.at (f := 1) (Nat.le_of_ble_eq_true rfl) (V (a4 % 10))
    obtain ⟨L3, e3, w3⟩ := pf_s w2.at (f := 3) (Nat.le_of_ble_eq_true rfl) (V (1 + a4 / 10 % 999))
    obtain ⟨L4, e4, w4⟩ := pf_s w3.at (f := 4) (Nat.le_of_ble_eq_true rfl) (V (a3 / 3 % 30))
    have nn := ((n0.w w1).w w2).w w3 |>.w w4
    have hx := nn.at
    rw [it_new] at hx
    have s4 : Sf F0_ L L4 := Sf.refl.n nn
    have l4 := nn.2.1
    have h4' := h.sf0 s4
    have hxn : ¬ fpP P (nCell + L.length) := fun q => by
      rcases fp_lt h.1 _ q with ⟨c, e⟩ | e
      · have := hp_lt e; omega
      · unfold nCell XB at e; omega
    have items : ∀ y ∈ xA P, okE L4 (Value.ref y) = true := fun y hy => by
      obtain ⟨i, hi⟩ := List.mem_iff_getElem?.mp hy
      exact okE_i (h4'.1.2.2.1 i y hi) (.inl rfl)
    obtain ⟨L5, r', m', cp', c5, s5, e5, b5, hl5, hr5, hf5, g5, g5'⟩ := k_addAny (S := S) h4'.lA (okE_i hx (.inl rfl)) items (by show (xA P).length ≤ 49; have := h.2.1.1; omega) (by omega)
    obtain ⟨v1, v2, v3, v4, v5, v6⟩ := addV_v (W := W) (s := s) (y := a4 % 10) (p := 1 + a4 / 10 % 999) (r := a3 / 3 % 30) hV
    obtain ⟨n1, n2, n3, n4, n5, n6⟩ := addV_n (W := W) (s := s) (y := a4 % 10) (p := 1 + a4 / 10 % 999) (r := a3 / 3 % 30)
    have hlx : (xA P).length = (nA W).toNat := by have := h.2.1.1; omega
    have h5 := h4'.addA (W' := addV W s (a4 % 10) (1 + a4 / 10 % 999) (a3 / 3 % 30)) g5 hl5 hf5 hr5 hx hxn (by rw [hlx]; exact v1.symm) v2 v3 v4 ⟨n1, n2, n3, n4, n5, n6, v5⟩ v6
    have hx5 : hp L5 (nCell + L.length) = some (11, itV s (a4 % 10) 0 (1 + a4 / 10 % 999) (a3 / 3 % 30) 0 0) := add_keep h4'.lA hr5 hf5 hx (by decide)
    rw [if_neg c, if_pos (by omega), nw_x]
    refine Ok.ad (c := 1) (s := 7) (by omega) (by omega) ?_
    rw [show gn_LI_init (nCell + L.length) S (L ++ [(11, dfl 11)]) = some () from rfl, bnO_s, m3.1, ← hs1, e1, bnO_s, nm_x, m10.1, wr_s (z := a4 % 10) (by omega) (by omega), e2, bnO_s, nm_x, d10, wr_s (z := a4 / 10) (by omega) (by omega), nm_x, m999.1, wr_s (z := 1 + a4 / 10 % 999) (by omega) (by omega), e3, bnO_s, nm_x, d3, wr_s (z := a3 / 3) (by omega) (by omega), nm_x, m30.1, wr_s (z := a3 / 3 % 30) (by omega) (by omega), e4, bnO_s, h4'.fA, bnO_s, rfB_r, if_pos h4'.kA, e5, bnO_s]
    refine Ok.ad (c := c5) (s := s5) (by omega) (by omega) ?_
    dsimp only
    rw [gfI_s hx5 (f := 0) rfl (by unfold inR; omega), bnO_s, gfI_s hx5 (f := 1) rfl (by unfold inR; omega), bnO_s, gfI_s hx5 (f := 3) rfl (by unfold inR; omega), bnO_s, gfI_s hx5 (f := 4) rfl (by unfold inR; omega), bnO_s, eC, bnO_s]
    dsimp only
    rw [if_pos rfl]
    refine Ok.ad (c := 1) (s := 6) (by omega) (by omega) ?_
    have fA5 : gfV L5 (pT P) 12 4 = some (Value.ref (pA P).1) := h5.fA
    have cA5 : gn_AL_size (pA P).1 S' L5 = some (nA W + 1) := by rw [← n1]; exact h5.cA
    have kA5 : isK L5 (pA P).1 13 = true := h5.kA
    rw [fA5, bnO_s, rfB_r, if_pos kA5, cA5, bnO_s, nm_x, wr_s (z := nA W + 1 - 1) (by omega) (by omega), if_pos (by omega)]
    refine Ok.ret ⟨1, S', L5, aA P r' m' cp' (nCell + L.length), _, ⟨rfl, rfl⟩, h5, ⟨by omega, fun b hb hF => ?_⟩, fun b q => ?_, by omega, .inr ⟨rfl, hG', ⟨⟨n2, n4⟩, by rw [n6]; omega, fun x _ _ => .inr (v6 16 x.toNat (by decide) (by decide))⟩, hC⟩⟩
    · rw [hf5 b (fun e => hF (.inr (.inl (.inl e)))) (fun e => ?_), s4.2 b hb id]
      rcases hr5 with e' | e'
      · exact hF (.inr (.inl (.inr (e.trans e'))))
      · omega
    · rcases q with q | q | q | q | q | q | q | q
      · exact .inl (.inl q)
      · rcases q with q | q
        · exact .inl (.inr (.inl (.inl q)))
        · rcases hr5 with e' | e'
          · exact .inl (.inr (.inl (.inr (Eq.trans q e'))))
          · have q : b = r' := q
            exact .inr (by omega)
      · exact .inl (.inr (.inr (.inl q)))
      · exact .inl (.inr (.inr (.inr (.inl q))))
      · exact .inl (.inr (.inr (.inr (.inr (.inl q)))))
      · have q : b ∈ xA P ++ [nCell + L.length] := q
        rcases List.mem_append.mp q with q | q
        · exact .inl (.inr (.inr (.inr (.inr (.inr (.inl q))))))
        · exact .inr (by rw [List.mem_singleton.mp q]; exact Nat.le_refl _)
      · exact .inl (.inr (.inr (.inr (.inr (.inr (.inr (.inl q)))))))
      · exact .inl (.inr (.inr (.inr (.inr (.inr (.inr (.inr q)))))))
end Oth5
