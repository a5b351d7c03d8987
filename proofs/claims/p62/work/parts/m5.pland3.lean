/-! A PLAN DRAWN FROM THE SCRIPT: its ads, one after another -/
section PlanA2
variable {S : St} {L0 : List PC} {U0 : Vw} {t0 : Nat} {tx0 : List Int}
theorem l_pl175 {sc : SC} {a2 x A : Int} (hsc : (nI sc.2).toInt = (sc.2 : Int)) (hG0 : Good U0) (ht0 : tm U0 = 0) (ha : 0 ≤ a2 ∧ a2 ≤ 5000) (hx : 0 ≤ x ∧ x < 2147483648) (hA : A = x / 4096 % 19) : ∀ (n N : Nat) (k : Int) (K : List PC) (P : PA) (t : Nat) (ss : List Stm) (M : Nat), k + n = A → 0 ≤ k → n < N → BI L0 K P t0 t U0 tx0 ss M → ((xA P).length : Int) = k → M + 18 * n ≤ 700 → K.length + 740 * n < 200000000 →
    Ok (lp (fun go q => lb2_Law_plan_175 sc t0 a2 x go q.1 q.2.1 q.2.2.1 q.2.2.2) N (Value.ref t, k, (S, K))) (60 * n) (plT 18 n M + 74 * n) (fun v => ∃ K' t' P' ss', v = (Value.ref t', (S, K')) ∧ BI L0 K' P' t0 t' U0 tx0 (ss ++ ss') (M + 18 * n) ∧ (pS P' = pS P ∧ pB P' = pB P ∧ (xA P').length = (xA P).length + n) ∧ K'.length ≤ K.length + 740 * n ∧ NP ss')
  | 0, N + 1, k, K, P, t, ss, M, hk, h0, _, h, hl, hM, hK => by
    rw [lp_succ]
    show Ok (lb2_Law_plan_175 sc t0 a2 x _ (Value.ref t) k S K) _ _ _
    unfold lb2_Law_plan_175
    rw [nm_x, Int.tdiv_eq_ediv_of_nonneg hx.1, wr_s (z := x / 4096) (by omega) (by omega), nm_x, Int.tmod_eq_emod_of_nonneg (by omega), wr_s (z := x / 4096 % 19) (by omega) (by omega), if_pos (by omega)]
    exact Ok.ret ⟨K, t, P, [], rfl, by rw [List.append_nil]; exact h, ⟨rfl, rfl, rfl⟩, Nat.le_refl _, NP_nil⟩
  | n + 1, N + 1, k, K, P, t, ss, M, hk, h0, hN, h, hl, hM, hK => by
    have hn := h.1.1.2.1.1
    have ple : plT 18 (n + 1) M = 5 * M + 90 + plT 18 n (M + 18) := rfl
    obtain ⟨ep, p0, p1⟩ := pk_ok hsc (k := a2 + 1 + k) (by omega) S K
    obtain ⟨y, hy⟩ : ∃ y, y = pkv sc (a2 + 1 + k) := ⟨_, rfl⟩
    rw [← hy] at ep p0 p1
    have td : ∀ z : Int, y.tdiv z = y / z := fun z => Int.tdiv_eq_ediv_of_nonneg p0
    have tm_ : ∀ a z : Int, 0 ≤ a → a.tmod z = a % z := fun a z ha => Int.tmod_eq_emod_of_nonneg ha
    have n0 := N1.of (L := K) (c := (11, dfl 11)) (by omega)
    rw [lp_succ]
    show Ok (lb2_Law_plan_175 sc t0 a2 x _ (Value.ref t) k S K) _ _ _
    obtain ⟨gg, hgg⟩ : ∃ gg, gg = lp (fun go q => lb2_Law_plan_175 sc t0 a2 x go q.1 q.2.1 q.2.2.1 q.2.2.2) N := ⟨_, rfl⟩
    rw [← hgg]
    have go1 : ∀ s : Int, s = 1 ∨ s = 2 ∨ s = 4 → Ok (jf2_Law_plan_235_175 sc t0 a2 x gg (Value.ref t) k y (nCell + K.length) s (nCell + K.length) S (K ++ [(11, dfl 11)])) (60 * (n + 1) - 1) (plT 18 (n + 1) M + 74 * (n + 1) - 7) (fun v => ∃ K' t' P' ss', v = (Value.ref t', (S, K')) ∧ BI L0 K' P' t0 t' U0 tx0 (ss ++ ss') (M + 18 * (n + 1)) ∧ (pS P' = pS P ∧ pB P' = pB P ∧ (xA P').length = (xA P).length + (n + 1)) ∧ K'.length ≤ K.length + 740 * (n + 1) ∧ NP ss') := fun s hs => by
      obtain ⟨L1, e1, w1⟩ := pf_s n0.at (f := 0) (Nat.le_of_ble_eq_true rfl) (V s)
      obtain ⟨L2, e2, w2⟩ := pf_s w1.at (f := 1) (Nat.le_of_ble_eq_true rfl) (V (y / 4 % 5))
      have nn := (n0.w w1).w w2
      have fin : ∀ c : Int, c = 0 ∨ c = 1 → Ok (jf2_Law_plan_266_175 sc t0 a2 x gg (Value.ref t) k y (nCell + K.length) c (nCell + K.length) S L2) (60 * (n + 1) - 1) (plT 18 (n + 1) M + 74 * (n + 1) - 7) (fun v => ∃ K' t' P' ss', v = (Value.ref t', (S, K')) ∧ BI L0 K' P' t0 t' U0 tx0 (ss ++ ss') (M + 18 * (n + 1)) ∧ (pS P' = pS P ∧ pB P' = pB P ∧ (xA P').length = (xA P).length + (n + 1)) ∧ K'.length ≤ K.length + 740 * (n + 1) ∧ NP ss') := fun c hc =>
        (l_pl266 (sc := sc) (a2 := a2) (a3 := x) (C := 60 * n) (T := plT 18 n (M + 18) + 74 * n) hG0 ht0 h (by omega) (by omega) nn ⟨p0, p1⟩ hs (gr := y / 4 % 5) (by omega) hc (by omega) (by omega) (fun K' t' P' st y1 y2 y3 y4 y5 y6 => by
          rw [hgg]
          refine (l_pl175 hsc hG0 ht0 ha hx hA n N (k + 1) K' P' t' (ss ++ [st]) (M + 18) (by omega) (by omega) (by omega) y1 (by omega) (by omega) (by omega)).mono (Nat.le_refl _) (Nat.le_refl _) (fun v z => ?_)
          obtain ⟨K2, t2, P2, ss', z1, z2, ⟨z3, z4, z5⟩, z6, z9⟩ := z
          refine ⟨K2, t2, P2, [st] ++ ss', z1, ?_, ⟨z3.trans y2, z4.trans y3, by omega⟩, by omega, NP_c y6 z9⟩
          rw [← List.append_assoc]
          exact z2.up (by omega))).mono (by omega) (by omega) (fun _ q => q)
      unfold jf2_Law_plan_235_175
      rw [e1, bnO_s, nm_x, td 4, wr_s (z := y / 4) (by omega) (by omega), nm_x, tm_ (y / 4) 5 (by omega), wr_s (z := y / 4 % 5) (by omega) (by omega), e2, bnO_s, nm_x, td 20, wr_s (z := y / 20) (by omega) (by omega), nm_x, tm_ (y / 20) 4 (by omega), wr_s (z := y / 20 % 4) (by omega) (by omega)]
      by_cases d : y / 20 % 4 = 0
      · rw [if_pos d]
        exact fin 1 (.inr rfl)
      · rw [if_neg d]
        exact fin 0 (.inl rfl)
    unfold lb2_Law_plan_175
    rw [nm_x, Int.tdiv_eq_ediv_of_nonneg hx.1, wr_s (z := x / 4096) (by omega) (by omega), nm_x, tm_ (x / 4096) 19 (by omega), wr_s (z := x / 4096 % 19) (by omega) (by omega), if_neg (by omega), nm_x, wr_s (z := a2 + 1 + k) (by omega) (by omega), ep, bnO_s, if_pos (by omega), nw_x]
    refine Ok.ad (c := 1) (s := 7) (by omega) (by omega) ?_
    rw [show gn_LI_init (nCell + K.length) S (K ++ [(11, dfl 11)]) = some () from rfl, bnO_s, nm_x, tm_ y 4 p0, wr_s (z := y % 4) (by omega) (by omega)]
    by_cases d0 : y % 4 = 0
    · rw [if_pos d0]
      exact go1 4 (.inr (.inr rfl))
    · rw [if_neg d0, nm_x]
      by_cases d1 : y % 4 = 1
      · rw [if_pos d1]
        exact go1 2 (.inr (.inl rfl))
      · rw [if_neg d1]
        exact go1 1 (.inl rfl)
end PlanA2
