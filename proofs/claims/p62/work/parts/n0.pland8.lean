/-! A PLAN DRAWN FROM THE SCRIPT: its ads put -/
section PlanP
variable {S : St} {L0 K K' : List PC} {P : PA} {U U0 : Vw} {t t0 : Nat} {tx0 : List Int}
theorem l_pl887 {sc : SC} {a2 : Int} (hsc : (nI sc.2).toInt = (sc.2 : Int)) (hG0 : Good U0) (ht0 : tm U0 = 0) (ha : 0 ≤ a2 ∧ a2 ≤ 5000) : ∀ (n N : Nat) (k : Int) (K : List PC) (t : Nat) (ss : List Stm) (M : Nat), ((xA P).length : Int) ≤ k + 2 * n → 0 ≤ k → k ≤ 50 → n < N → n ≤ 20 → BI L0 K P t0 t U0 tx0 ss M → M + 10 * n ≤ 700 → K.length + 720 * n < 200000000 → Z6 (apL U0 ss) k →
    Ok (lp (fun go q => lb2_Law_plan_887 sc t0 a2 go q.1 q.2.1 q.2.2.1 q.2.2.2) N (Value.ref t, k, (S, K))) (60 * n) (plT 10 n M) (fun v => ∃ K' t' ss', v = (Value.ref t', (S, K')) ∧ BI L0 K' P t0 t' U0 tx0 (ss ++ ss') (M + 10 * n) ∧ K'.length ≤ K.length + 720 * n)
  | n, N + 1, k, K, t, ss, M, hk, h0, hk2, hN, hn, h, hM, hK, hz => by
    have hG := (GoodL hG0 ht0 h.1.2.1).1
    have hV := hG.1
    have bz := hV.z
    have bp := hV.pg
    have hT := h.1.2.2
    have hlen := h.1.1.2.1.1
    have fA := h.1.1.fA
    rw [hT] at fA
    obtain ⟨gg, hgg⟩ : ∃ gg, gg = lp (fun go q => lb2_Law_plan_887 sc t0 a2 go q.1 q.2.1 q.2.2.1 q.2.2.2) N := ⟨_, rfl⟩
    rw [lp_succ]
    show Ok (lb2_Law_plan_887 sc t0 a2 _ (Value.ref t) k S K) _ _ _
    rw [← hgg]
    unfold lb2_Law_plan_887
    rw [fA, bnO_s, rfB_r, if_pos h.1.1.kA, h.1.1.cA, bnO_s]
    by_cases c : nA (apL U0 ss) ≤ k
    · rw [if_pos c]
      exact Ok.ret ⟨K, t, [], rfl, by rw [List.append_nil]; exact h.up (by omega), by omega⟩
    · obtain ⟨m, rfl⟩ : ∃ m, n = m + 1 := ⟨n - 1, by omega⟩
      have ple : plT 10 (m + 1) M = 5 * M + 90 + plT 10 m (M + 10) := rfl
      have pl := plT_le (d := 10) (n := m) (m := M)
      have i2 : wr (k + 2) = k + 2 := wr_s (by omega) (by omega)
      obtain ⟨ep, p0, p1⟩ := pk_ok hsc (k := a2 + 35 + k) (by omega) S K
      obtain ⟨y, hy⟩ : ∃ y, y = pkv sc (a2 + 35 + k) := ⟨_, rfl⟩
      rw [← hy] at ep p0 p1
      have md := md_b p0 (m := pgs (apL U0 ss)) (by omega)
      obtain ⟨p, hpp⟩ : ∃ p, p = 1 + y % pgs (apL U0 ss) := ⟨_, rfl⟩
      have pb : 1 ≤ p ∧ p ≤ pgs (apL U0 ss) := by omega
      have hka : 0 ≤ k ∧ k < nA (apL U0 ss) := by omega
      obtain ⟨x, hx, hg, hxc⟩ := h.1.1.ad hka
      have af := ad_f hV hka hxc
      have kT := h.1.1.k
      have pgT := l_pages (S := S) h.1.1 hV
      have rsT := l_reason (S := S) h.1.1 hV hka hx (p := p) (by unfold inR; omega)
      rw [hT] at kT pgT rsT
      rw [if_neg c, nm_x, wr_s (z := a2 + 35 + k) (by omega) (by omega), ep, bnO_s, if_pos kT, pgT, bnO_s, if_pos (by omega), nm_x, md.1, ← hpp, wr_s (z := p) (by omega) (by omega), bnO_s, rfB_r, if_pos h.1.1.kA, hg, bnO_s, rfB_r, if_pos af.1, if_pos kT, rsT, bnO_s]
      refine Ok.ad (c := 0) (s := 0) (Nat.zero_le _) (Nat.zero_le _) ?_
      dsimp only
      by_cases d : reas (apL U0 ss) k p = 0
      · obtain ⟨K1, e1, w1⟩ := pf_s hxc (f := 5) (Nat.le_of_ble_eq_true rfl) (V p)
        have h1 := h.1.1.updA (f := 5) (by decide) hx w1
        have s1 : Sf (fpP P) K K1 := Sf.refl.w w1 (.inl (fp_A hx))
        have ht1 := h.2.1.1.fp h.1.1 s1
        have tc := tx_cost (N := M + 10) (m := M) (d := 10) rfl (by decide) (by omega)
        have hbl := h.2.1.2
        have l1 := w1.1
        rw [if_pos d, fA, bnO_s, rfB_r, if_pos h.1.1.kA, hg, bnO_s, rfB_r, if_pos af.1, e1, bnO_s]
        refine (tx_pu (N := M + 10) (C := 60 * m) (T := plT 10 m (M + 10)) (k := k) (p := p) ht1 rfl (by omega) (by omega) (dg2 (by omega)) (dg2 (by omega)) (by omega) (by omega) (by omega) (fun t' K' u v y1 y2 y3 y4 => ?_)).mono (by omega) (by omega) (fun _ q => q)
        have h2 := h.step (s := sPu k p) (d := 10) ⟨hka, pb, d, hz k (Int.le_refl _) hka.2⟩ h1 rfl s1 (fun b q => .inl q) h.2.2.2 y3 y1 (txl_pu (by omega) (by omega))
        rw [nm_x, i2, hgg]
        refine (l_pl887 hsc hG0 ht0 ha m N (k + 2) K' t' (ss ++ [sPu k p]) (M + 10) (by omega) (by omega) (by omega) (by omega) (by omega) h2 (by omega) (by omega) (fun a q1 q2 => by
          rw [apL_s] at q2 ⊢
          have q2 : a < nA (up (apL U0 ss) 6 k.toNat p) := q2
          rw [nA_up (by decide)] at q2
          show at_ (up (apL U0 ss) 6 k.toNat p) 6 a = 0
          rw [at_upe (by omega) (by omega), if_neg (by omega)]
          exact hz a (by omega) q2)).mono (Nat.le_refl _) (Nat.le_refl _) (fun v z => ?_)
        obtain ⟨K2, t2, ss', z1, z2, z3⟩ := z
        refine ⟨K2, t2, [sPu k p] ++ ss', z1, ?_, by omega⟩
        rw [← List.append_assoc]
        exact z2.up (by omega)
      · rw [if_neg d, nm_x, i2, hgg]
        refine (l_pl887 hsc hG0 ht0 ha m N (k + 2) K t ss M (by omega) (by omega) (by omega) (by omega) (by omega) h (by omega) (by omega) (fun a q1 q2 => hz a (by omega) q2)).mono (by omega) (by omega) (fun v z => ?_)
        obtain ⟨K', t', ss', z1, z2, z3⟩ := z
        exact ⟨K', t', ss', z1, z2.up (by omega), by omega⟩
end PlanP
