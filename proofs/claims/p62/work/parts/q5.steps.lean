/-! THE LAW'S STEPS: an undoing, a change -/
section Stp
variable {sc : SC} {S : St} {L : List PC} {t c3 : Nat} {T : Int} {M : Nat} {a4 a5 a6 a7 st0 : Int} {C0 T0 : Nat} {R : (Bool × LZ) ⊕ LZ → Prop} {go : Value × Int × LZ → Option (((Bool × LZ) ⊕ (LZ)) × Nat × Nat)}
theorem snoc_ex {α : Type} : ∀ (l : List α), l ≠ [] → ∃ A x, l = A ++ [x]
  | [], h => absurd rfl h
  | [x], _ => ⟨[], x, rfl⟩
  | x :: y :: l, _ => by
    obtain ⟨A, z, e⟩ := snoc_ex (y :: l) (fun q => by cases q)
    exact ⟨x :: A, z, by rw [e]; rfl⟩
theorem l_undo (hI : Iv T M S L t c3) (h0 : 34 ≤ st0) (hM : M ≤ 50000000) (hk : ∀ S' L' t', Iv T M S' L' t' c3 → Ok (jf2_Law_law_415_93 sc c3 go (Value.ref t') a4 a6 a7 S' L') C0 T0 R) :
    Ok (jf2_Law_law_150_93 sc c3 go (Value.ref t) a4 a5 a6 a7 st0 S L) C0 T0 R := by
  obtain ⟨P, W, n, hs, H, ⟨rfl, hP, hQ⟩, ⟨hPT, hC, hi⟩, ⟨hH, hHq, hO⟩, hl⟩ := hI
  have hgd := hH.gd hHq
  have hU := cl_undo hPT hgd hC
  unfold jf2_Law_law_150_93
  rw [if_neg (by omega), if_pos h0, if_pos hO.k, hO.emp, bnO_s]
  by_cases c : H = []
  · have n0 : n = 0 := by rw [hH.1, c]; rfl
    rw [if_pos (decide_eq_true c), hU.1 n0, bnO_s]
    dsimp only
    rw [if_pos (show bi false = 0 from rfl)]
    exact hk S L _ ⟨P, W, n, hs, H, ⟨rfl, hP, hQ⟩, ⟨hPT, hC, hi⟩, ⟨hH, hHq, hO⟩, hl⟩
  · obtain ⟨H1, e, eH⟩ := snoc_ex H c
    subst eH
    obtain ⟨v1, v2⟩ := hH.pop
    have nl : (H1 ++ [e]).length = H1.length + 1 := by rw [List.length_append]; rfl
    have hn := hH.1
    have hn20 := hC.1.2
    obtain ⟨S', eU, o', pt', hc'⟩ := hU.2 (by omega)
    obtain ⟨L1, x1, -, -, x4, x5, x6⟩ := HsO.del (S := S) (H2 := []) hO hP
    have hO1 := x5 rfl
    rw [v1] at pt'
    have k12 : isK L1 (pT e.1) 12 = true := x4.k
    rw [if_neg (by rw [decide_eq_true_eq]; exact c), if_pos hO.k, hO.size, bnO_s, nm_x, nl, show ((H1.length + 1 : Nat) : Int) - 1 = (H1.length : Int) by omega, wr_s (z := (H1.length : Int)) (by omega) (by omega), if_pos hO.k, x1, bnO_s]
    refine Ok.ad (c := 0) (s := 0) (Nat.zero_le _) (Nat.zero_le _) ?_
    dsimp only
    rw [rfB_r, if_pos k12, eU, bnO_s]
    dsimp only
    rw [if_pos (show bi true = 1 from rfl)]
    exact hk S' L1 _ ⟨e.1, e.2, n - 1, hs, H1, ⟨rfl, x4, hHq e (List.mem_append_right _ List.mem_cons_self)⟩, ⟨pt', hc', by rw [o'.rd (by omega)]; exact hi⟩, ⟨v2, fun x hx => hHq x (List.mem_append_left _ hx), hO1⟩, by omega⟩
theorem l_change (hI : Iv T M S L t c3) (h0 : ¬ st0 = 0) (h34 : ¬ 34 ≤ st0) (hT : T ≤ 400) (hM : M ≤ 50000000) (h6 : 0 ≤ a6 ∧ a6 < 2147483648) (h7 : 0 ≤ a7 ∧ a7 < 2147483648) (hk : ∀ S' L', Iv (T + 7) (M + 1000) S' L' t c3 → Ok (jf2_Law_law_415_93 sc c3 go (Value.ref t) a4 a6 a7 S' L') C0 T0 R) :
    Ok (jf2_Law_law_150_93 sc c3 go (Value.ref t) a4 a5 a6 a7 st0 S L) (C0 + 550) (T0 + 2907) R := by
  obtain ⟨P, W, n, hs, H, ⟨rfl, hP, hQ⟩, ⟨hPT, hC, hi⟩, ⟨hH, hHq, hO⟩, hl⟩ := hI
  have hG := hQ.1
  have hn := hH.1
  have hn20 := hC.1
  unfold jf2_Law_law_150_93
  rw [if_neg h0, if_neg h34, rfB_r, if_pos hP.k]
  refine Ok.bind (l_copy hP hG.1 (by omega)) (by omega) (by omega) ?_
  rintro v cc ss ⟨L1, P1, rfl, hP1, s1, f1, l1⟩
  have hPb := hP.sf0 s1
  have hO1 := hO.sf0 s1
  dsimp only
  rw [nm_x, nm_x]
  refine Ok.bind (l_changes hPb (by omega) hG hPT hC h6 h7 (by have := hQ.2.2.1; omega)) (by omega) (by omega) ?_
  rintro v cc ss ⟨d, S2, L2, P2, W2, ⟨rfl, eT⟩, hP2, s2, f2, l2, hd⟩
  have hO2 := hO1.sf s2 f2
  have hP12 : HP L2 P1 W := hP1.sf s2.cut (fun b hb hF => by
    have q1 := f1 b hb
    have q2 := fp_old hP b hF.1 hF.2
    omega)
  have d1 : Dj P1 P2 := fun b hb hx q => by
    have q1 := f1 b hb
    rcases f2 b q with q | q
    · have := fp_old hP b q hx
      omega
    · have := fp_old hP1 b hb hx
      omega
  have de : ∀ e ∈ H, Dj e.1 P1 := fun e he b hb hx q => by
    have q1 := f1 b q
    have := fp_old (hO.2.1 e he).1 b hb hx
    omega
  have dl : ∀ b, fpP P1 b → b < XB → ∃ K : List PC, (∃ r m cp, LsH K c3 r m cp (H.map (fun e => pT e.1)) ∧ LsH L2 c3 r m cp (H.map (fun e => pT e.1))) ∧ nCell + K.length ≤ b := fun b hb hx => by
    obtain ⟨⟨r, m, cp, y1, y2, -⟩, -⟩ := hO
    have cx := (hp_bd y1.2.1).2.1
    exact ⟨L, ⟨r, m, cp, y1, (y1.sf s1 id (fun _ => id)).sf s2 (y2 c3 (.inl rfl) cx) (fun hx => y2 r (.inr rfl) hx)⟩, f1 b hb⟩
  dsimp only
  rcases hd with ⟨rfl, rfl, hCR⟩ | ⟨rfl, hG2, hKd, hCR⟩
  · rw [if_pos (Int.le_refl _), if_pos (Int.le_refl _), if_pos hO2.k, hO2.size, bnO_s, if_pos (by omega)]
    exact (hk S2 L2 ⟨P2, W2, n, hs, H, ⟨eT, hP2, hQ.mono (by omega)⟩, ⟨hCR.2.1, hCR.2.2, by rw [hCR.1.rd (by omega)]; exact hi⟩, ⟨hH, fun e he => (hHq e he).mono (by omega), hO2⟩, by omega⟩).mono (by omega) (by omega) (fun _ q => q)
  · obtain ⟨L3, c, s, e3, b3, hO3, hP3, l3⟩ := HsO.push (S := S2) hO2 hP2 hP12 d1 dl de (by omega) (by omega)
    have hl3 : (H ++ [(P1, W)]).length = H.length + 1 := by rw [List.length_append]; rfl
    have hq3 : ∀ e ∈ H ++ [(P1, W)], QV (T + 7) e.2 := fun e he => by
      rcases List.mem_append.mp he with q | q
      · exact (hHq e q).mono (by omega)
      · rw [List.mem_singleton.mp q]
        exact hQ.mono (by omega)
    have hQ2 := hQ.kd hG2 hKd
    have hi2 : 0 ≤ g S2 1 1 := by rw [hCR.1.rd (by omega)]; exact hi
    rw [if_pos (by decide), if_neg (by decide), if_pos hO2.k, e3, bnO_s]
    refine Ok.ad (c := c) (s := s) (by omega) (by omega) ?_
    dsimp only
    rw [if_pos hO3.k, hO3.size, bnO_s, hl3]
    by_cases c20 : n = 20
    · obtain ⟨e0, H', eH⟩ : ∃ e0 H', H = e0 :: H' := by
        cases H with
        | nil => exact absurd hn (by rw [c20]; decide)
        | cons e0 H' => exact ⟨e0, H', rfl⟩
      subst eH
      obtain ⟨L4, x1, x2, x3, -, -, x6⟩ := HsO.del (S := S2) (H1 := []) (e := e0) (H2 := H' ++ [(P1, W)]) hO3 hP3
      have x1 : gn_AL_remove c3 0 S2 L3 = some ((Value.ref (pT e0.1), (S2, L4)), 0, 0) := x1
      rw [if_neg (by omega), if_pos hO3.k, x1, bnO_s]
      refine Ok.ad (c := 0) (s := 0) (Nat.zero_le _) (Nat.zero_le _) ?_
      dsimp only
      exact (hk S2 L4 ⟨P2, W2, hpn n, hph n hs W, H' ++ [(P1, W)], ⟨eT, x3, hQ2⟩, ⟨hCR.2.1, hCR.2.2, hi2⟩, ⟨hH.push20 c20, fun e he => hq3 e (List.mem_cons_of_mem _ he), x2⟩, by omega⟩).mono (by omega) (by omega) (fun _ q => q)
    · rw [if_pos (by omega)]
      exact (hk S2 L3 ⟨P2, W2, hpn n, hph n hs W, H ++ [(P1, W)], ⟨eT, hP3, hQ2⟩, ⟨hCR.2.1, hCR.2.2, hi2⟩, ⟨hH.push (by omega), hq3, hO3⟩, by omega⟩).mono (by omega) (by omega) (fun _ q => q)
end Stp
