/-! matching: the reference's search -/
section Match7
variable {W : Vw} {M : Int → Bool} {k a0 q i v : Int} {T T0 T' : St}
def FitR (W : Vw) (T : St) : Prop := ∀ a q : Int, 0 ≤ a → a < nA W → 1 ≤ q → q ≤ pgs W → g T 521 (65 * a + q).toNat = bi (adjW W a q)
/-- what the search may count on -/
def MG (W : Vw) (M : Int → Bool) (T : St) : Prop := MV T W ∧ FitR W T ∧ MR W T M
theorem MG.off (h : MG W M T) (o : Off T T' 519 521) : MG W M T' := ⟨h.1.o6 (o.mono (by omega) (by omega)), fun a q a1 a2 q1 q2 => by rw [o.rd (by omega)]; exact h.2.1 a q a1 a2 q1 q2, h.2.2.eqv (fun f => o.rd (by omega))⟩
def AllQ (W : Vw) (T : St) (a0 i p : Int) : Prop := (∀ q : Int, 1 ≤ q → q ≤ pgs W → adjW W a0 q = true → g T 519 q.toNat ≠ -1) ∧ (∀ l : Int, 0 ≤ l → l < i → g T 518 (g T 520 l.toNat).toNat ≠ -1 ∧ ∀ q : Int, 1 ≤ q → q ≤ pgs W → adjW W (g T 518 (g T 520 l.toNat).toNat) q = true → g T 519 q.toNat ≠ -1) ∧ ∀ q : Int, 1 ≤ q → q < p → adjW W (g T 518 (g T 520 i.toNat).toNat) q = true → g T 519 q.toNat ≠ -1
theorem J_root (hG : MG W M T) (ha0 : 0 ≤ a0 ∧ a0 < nA W) (h9 : ∀ q : Int, 1 ≤ q → q ≤ pgs W → g T 519 q.toNat = -1) : ∃ k' T', lo_Mo_joins_27 514 a0 FU (0, 1, T) = some (k', T') ∧ Off T T' 519 521 ∧ BfR W T' a0 k' ∧ AllQ W T' a0 0 1 := by
  have hV := hG.1.2
  have b := hV.pg
  have bA := hV.1.1
  obtain ⟨⟨k', T'⟩, e, hI⟩ := lp_inv (body := fun go p0 => lb_Mo_joins_27 514 a0 go p0.1 p0.2.1 p0.2.2) (fun i (s : Int × St) => (s.1, i, s.2)) (fun s => s)
    (fun i s => 1 ≤ i ∧ Off T s.2 519 521 ∧ BfR W s.2 a0 s.1 ∧ (∀ q : Int, i ≤ q → q ≤ pgs W → g s.2 519 q.toNat = -1) ∧ ∀ q : Int, 1 ≤ q → q < i → adjW W a0 q = true → g s.2 519 q.toNat ≠ -1) (pgs W + 1)
    (fun go i s h hi => by
      have hG' := hG.off h.2.1
      show lb_Mo_joins_27 514 a0 go s.1 i s.2 = _
      unfold lb_Mo_joins_27
      rw [Mo_pageMany hG'.1, bnO_s, if_pos (by omega)])
    (fun go i s h hi => by
      have hG' := hG.off h.2.1
      have fi := hG'.2.1 a0 i ha0.1 ha0.2 h.1 (by omega)
      cases ea : adjW W a0 i with
      | false =>
        rw [ea] at fi
        refine ⟨s, ?_, by omega, h.2.1, h.2.2.1, fun q q1 q2 => h.2.2.2.1 q (by omega) q2, fun q q1 q2 hq => ?_⟩
        · show lb_Mo_joins_27 514 a0 go s.1 i s.2 = go (s.1, i + 1, s.2)
          unfold lb_Mo_joins_27
          rw [Mo_pageMany hG'.1, bnO_s, if_neg (by omega), if_pos (by omega : 0 ≤ 65 * a0 + i ∧ 65 * a0 + i < 2600), tg_514_10, fi, if_pos (show bi false = 0 from rfl), nm_x, wr_s (z := i + 1) (by omega) (by omega)]
        · by_cases z : q = i
          · rw [z, ea] at hq; exact absurd hq Bool.false_ne_true
          · exact h.2.2.2.2 q q1 (by omega) hq
      | true =>
        rw [ea] at fi
        obtain ⟨T1, hT1⟩ : ∃ T1, T1 = u (u s.2 519 i.toNat 0) 520 s.1.toNat i := ⟨_, rfl⟩
        obtain ⟨kl, -, o, b', w', r', -⟩ := h.2.2.1.add hV (q := i) (v := 0) ⟨h.1, by omega⟩ (h.2.2.2.1 i (Int.le_refl _) (by omega)) (.inl ⟨rfl, ea⟩) hT1
        have k0 := h.2.2.1.1.1
        refine ⟨(s.1 + 1, T1), ?_, by omega, h.2.1.trans o, b', fun q q1 q2 => ?_, fun q q1 q2 hq => ?_⟩
        · show lb_Mo_joins_27 514 a0 go s.1 i s.2 = go (s.1 + 1, i + 1, T1)
          unfold lb_Mo_joins_27
          rw [Mo_pageMany hG'.1, bnO_s, if_neg (by omega), if_pos (by omega : 0 ≤ 65 * a0 + i ∧ 65 * a0 + i < 2600), tg_514_10, fi, if_neg (show ¬ bi true = 0 by decide), if_pos (by omega : 0 ≤ i ∧ i < 65), nm_x, if_pos (by omega : 0 ≤ s.1 ∧ s.1 < 65), nm_x, nm_x, nm_x, tg_514_8, tg_514_9, wr_s (z := s.1 + 1) (by omega) (by omega), wr_s (z := i + 1) (by omega) (by omega), ← hT1]
        · show g T1 519 q.toNat = -1
          rw [r' q (by omega), if_neg (by omega)]
          exact h.2.2.2.1 q (by omega) q2
        · show g T1 519 q.toNat ≠ -1
          rw [r' q (by omega)]
          by_cases z : q = i
          · rw [if_pos z]; decide
          · rw [if_neg z]; exact h.2.2.2.2 q q1 (by omega) hq)
    (pgs W + 1 - 1).toNat FU 1 (0, T) ⟨Int.le_refl _, Off.refl, ⟨⟨by omega, fun j j0 j1 => by omega, fun i j i0 i1 i2 => by omega, fun j j0 j1 => by omega⟩, fun p p1 p2 => .inl (h9 p p1 p2)⟩, h9, fun q q1 q2 => by omega⟩ (by omega) rfl (FU_lt (by omega))
  exact ⟨k', T', e, hI.2.1, hI.2.2.1, ⟨fun q q1 q2 => hI.2.2.2.2 q q1 (by omega), fun l l0 l1 => by omega, fun q q1 q2 => by omega⟩⟩
theorem J_page (hG : MG W M T) (hB : BfR W T a0 k) (hi : 0 ≤ i ∧ i < k) (hA : AllQ W T a0 i 1) (hf : g T 518 (g T 520 i.toNat).toNat ≠ -1) {x1 x2 : Int} (hx2 : x2 = g T 520 i.toNat) : ∃ k' T', lo_Mo_joins_113 514 a0 x1 x2 FU (k, 1, T) = some (k', T') ∧ k ≤ k' ∧ Off T T' 519 521 ∧ BfR W T' a0 k' ∧ AllQ W T' a0 (i + 1) 1 := by
  have hV := hG.1.2
  have b := hV.pg
  have bA := hV.1.1
  have wi := hB.1.2.1 i hi.1 hi.2
  rw [← hx2] at wi
  obtain ⟨⟨k', T'⟩, e, hI⟩ := lp_inv (body := fun go p0 => lb_Mo_joins_113 514 a0 x1 x2 go p0.1 p0.2.1 p0.2.2) (fun p (s : Int × St) => (s.1, p, s.2)) (fun s => s)
    (fun p s => 1 ≤ p ∧ k ≤ s.1 ∧ Off T s.2 519 521 ∧ BfR W s.2 a0 s.1 ∧ (∀ l : Int, 0 ≤ l → l ≤ i → g s.2 520 l.toNat = g T 520 l.toNat) ∧ AllQ W s.2 a0 i p) (pgs W + 1)
    (fun go p s h hp => by
      have hG' := hG.off h.2.2.1
      show lb_Mo_joins_113 514 a0 x1 x2 go s.1 p s.2 = _
      unfold lb_Mo_joins_113
      rw [Mo_pageMany hG'.1, bnO_s, if_pos (by omega)])
    (fun go p s h hp => by
      have hG' := hG.off h.2.2.1
      have wi' : g s.2 520 i.toNat = x2 := by rw [h.2.2.2.2.1 i hi.1 (Int.le_refl _), hx2]
      have e8 : ∀ f, g s.2 518 f = g T 518 f := fun f => h.2.2.1.rd (by omega)
      obtain ⟨y, hy⟩ : ∃ y, y = g s.2 518 x2.toNat := ⟨_, rfl⟩
      have yn : y ≠ -1 := by rw [hy, e8, hx2]; exact hf
      have yr := (hG'.2.2.1 x2 wi.1 wi.2).resolve_left (by rw [← hy]; exact yn)
      rw [← hy] at yr
      have fi := hG'.2.1 y p yr.1.1 yr.1.2 h.1 (by omega)
      by_cases c1 : g s.2 519 p.toNat = -1
      · cases ea : adjW W y p with
        | false =>
          rw [ea] at fi
          refine ⟨s, ?_, by omega, h.2.1, h.2.2.1, h.2.2.2.1, h.2.2.2.2.1, h.2.2.2.2.2.1, h.2.2.2.2.2.2.1, fun q q1 q2 hq => ?_⟩
          · show lb_Mo_joins_113 514 a0 x1 x2 go s.1 p s.2 = go (s.1, p + 1, s.2)
            unfold lb_Mo_joins_113
            rw [Mo_pageMany hG'.1, bnO_s, if_neg (by omega), if_pos (by omega : 0 ≤ p ∧ p < 65), tg_514_8, if_pos c1, if_pos (by omega : 0 ≤ x2 ∧ x2 < 65), tg_514_7, ← hy, if_pos (by omega : 0 ≤ 65 * y + p ∧ 65 * y + p < 2600), tg_514_10, fi, if_pos (show bi false = 0 from rfl), nm_x, wr_s (z := p + 1) (by omega) (by omega)]
          · by_cases z : q = p
            · rw [wi', ← hy, z, ea] at hq; exact absurd hq Bool.false_ne_true
            · exact h.2.2.2.2.2.2.2 q q1 (by omega) hq
        | true =>
          rw [ea] at fi
          obtain ⟨T1, hT1⟩ : ∃ T1, T1 = u (u s.2 519 p.toNat x2) 520 s.1.toNat p := ⟨_, rfl⟩
          obtain ⟨kl, v0, o, b', w', r', e8'⟩ := h.2.2.2.1.add hV (q := p) (v := x2) ⟨h.1, by omega⟩ c1 (.inr ⟨i, hi.1, by omega, wi'.symm, by rw [wi', ← hy]; exact yn, by rw [wi', ← hy]; exact ea⟩) hT1
          have k0 := h.2.2.2.1.1.1
          refine ⟨(s.1 + 1, T1), ?_, by omega, by show k ≤ s.1 + 1; omega, h.2.2.1.trans o, b', fun l l0 l1 => ?_, fun q q1 q2 hq => ?_, fun l l0 l1 => ?_, fun q q1 q2 hq => ?_⟩
          · show lb_Mo_joins_113 514 a0 x1 x2 go s.1 p s.2 = go (s.1 + 1, p + 1, T1)
            unfold lb_Mo_joins_113
            rw [Mo_pageMany hG'.1, bnO_s, if_neg (by omega), if_pos (by omega : 0 ≤ p ∧ p < 65), tg_514_8, if_pos c1, if_pos (by omega : 0 ≤ x2 ∧ x2 < 65), tg_514_7, ← hy, if_pos (by omega : 0 ≤ 65 * y + p ∧ 65 * y + p < 2600), tg_514_10, fi, if_neg (show ¬ bi true = 0 by decide), nm_x, if_pos (by omega : 0 ≤ s.1 ∧ s.1 < 65), nm_x, nm_x, nm_x, tg_514_9, wr_s (z := s.1 + 1) (by omega) (by omega), wr_s (z := p + 1) (by omega) (by omega), ← hT1]
          · show g T1 520 l.toNat = _
            rw [w' l l0 (by omega)]; exact h.2.2.2.2.1 l l0 l1
          · show g T1 519 q.toNat ≠ -1
            rw [r' q (by omega)]
            by_cases z : q = p
            · rw [if_pos z]; omega
            · rw [if_neg z]; exact h.2.2.2.2.2.1 q q1 q2 hq
          · show g T1 518 (g T1 520 l.toNat).toNat ≠ -1 ∧ _
            have hl := h.2.2.2.2.2.2.1 l l0 l1
            rw [w' l l0 (by omega), e8']
            refine ⟨hl.1, fun q q1 q2 hq => ?_⟩
            show g T1 519 q.toNat ≠ -1
            rw [r' q (by omega)]
            by_cases z : q = p
            · rw [if_pos z]; omega
            · rw [if_neg z]
              exact hl.2 q q1 q2 hq
          · have hq' : adjW W (g T1 518 (g T1 520 i.toNat).toNat) q = true := hq
            show g T1 519 q.toNat ≠ -1
            rw [w' i hi.1 (by omega), e8'] at hq'
            rw [r' q (by omega)]
            by_cases z : q = p
            · rw [if_pos z]; omega
            · rw [if_neg z]; exact h.2.2.2.2.2.2.2 q q1 (by omega) hq'
      · refine ⟨s, ?_, by omega, h.2.1, h.2.2.1, h.2.2.2.1, h.2.2.2.2.1, h.2.2.2.2.2.1, h.2.2.2.2.2.2.1, fun q q1 q2 hq => ?_⟩
        · show lb_Mo_joins_113 514 a0 x1 x2 go s.1 p s.2 = go (s.1, p + 1, s.2)
          unfold lb_Mo_joins_113
          rw [Mo_pageMany hG'.1, bnO_s, if_neg (by omega), if_pos (by omega : 0 ≤ p ∧ p < 65), tg_514_8, if_neg c1, nm_x, wr_s (z := p + 1) (by omega) (by omega)]
        · by_cases z : q = p
          · rw [z]; exact c1
          · exact h.2.2.2.2.2.2.2 q q1 (by omega) hq)
    (pgs W + 1 - 1).toNat FU 1 (k, T) ⟨Int.le_refl _, Int.le_refl _, Off.refl, hB, fun _ _ _ => rfl, hA⟩ (by omega) rfl (FU_lt (by omega))
  refine ⟨k', T', e, hI.2.1, hI.2.2.1, hI.2.2.2.1, hI.2.2.2.2.2.1, fun l l0 l1 => ?_, fun q q1 q2 => by omega⟩
  have aq := hI.2.2.2.2.2
  by_cases z : l = i
  · have wi' : g T' 520 i.toNat = x2 := by
      have := hI.2.2.2.2.1 i hi.1 (Int.le_refl _)
      rw [hx2]; exact this
    have e8 : g T' 518 x2.toNat = g T 518 x2.toNat := hI.2.2.1.rd (by omega)
    rw [z, wi']
    refine ⟨by rw [e8, hx2]; exact hf, fun q q1 q2 hq => aq.2.2 q q1 (by omega) ?_⟩
    show adjW W (g T' 518 (g T' 520 i.toNat).toNat) q = true
    rw [wi']; exact hq
  · exact aq.2.1 l l0 (by omega)
theorem J_queue (ha0 : 0 ≤ a0 ∧ a0 < nA W) (hM0 : M a0 = false) : ∀ (m : Nat) (k i : Int) (T : St) (n : Nat), 65 - i ≤ m → 0 ≤ i → i ≤ k → m < n → MG W M T → BfR W T a0 k → AllQ W T a0 i 1 →
    (∃ T', lp (fun go p0 => lb_Mo_joins_77 514 a0 go p0.1 p0.2.1 p0.2.2) n (k, i, T) = some (.inl (true, T')) ∧ Off T T' 518 521 ∧ MR W T' (fun x => M x || decide (x = a0))) ∨
    (∃ k' T', lp (fun go p0 => lb_Mo_joins_77 514 a0 go p0.1 p0.2.1 p0.2.2) n (k, i, T) = some (.inr T') ∧ Off T T' 519 521 ∧ MG W M T' ∧ BfR W T' a0 k' ∧ AllQ W T' a0 k' 1)
  | 0, k, i, T, n + 1, h1, h2, h3, _, hG, hB, hA => by
    have kb := hB.1.1
    omega
  | m + 1, k, i, T, n + 1, h1, h2, h3, h4, hG, hB, hA => by
    have hV := hG.1.2
    have b := hV.pg
    have kb := hB.1.1
    rw [lp_succ]
    by_cases c : i = k
    · refine .inr ⟨k, T, ?_, Off.refl, hG, hB, by rw [← c]; exact hA⟩
      show lb_Mo_joins_77 514 a0 _ k i T = _
      unfold lb_Mo_joins_77
      rw [if_pos (by omega)]
    · have wi := hB.1.2.1 i h2 (by omega)
      obtain ⟨q, hq⟩ : ∃ q, q = g T 520 i.toNat := ⟨_, rfl⟩
      by_cases c1 : g T 518 q.toNat = -1
      · obtain ⟨q', T1, e, o, r1, r2⟩ := gb_walk hV hB.1 ha0 hM0 100 i T FU h2 (by omega) (by omega) (Nat.le_of_lt (FU_lt (by omega))) (fun _ => rfl) (fun _ _ _ _ => rfl)
          (by
            rw [← hq]
            refine ⟨fun p p1 p2 _ => hG.2.2.1 p p1 p2, fun p p' p1 p2 p3 p4 _ _ => hG.2.2.2.1 p p' p1 p2 p3 p4, fun a a1 a2 a3 => ?_⟩
            obtain ⟨p, p1, p2, p3⟩ := hG.2.2.2.2 a a1 a2 a3
            exact ⟨p, p1, p2, fun z => by rw [z, c1] at p3; omega, p3⟩)
        rw [← hq] at wi e
        refine .inl ⟨u T1 518 q'.toNat a0, ?_, (o.mono (by omega) (by omega)).tu (by omega) (by omega), r2⟩
        show lb_Mo_joins_77 514 a0 _ k i T = _
        have e' : lo_Mo_givesBack_2 514 a0 FU (q, T) = some (q', T1) := e
        unfold lb_Mo_joins_77
        rw [if_neg (by omega), if_pos (by omega : 0 ≤ i ∧ i < 65), tg_514_9, ← hq, if_pos (by omega : 0 ≤ q ∧ q < 65), tg_514_7, if_pos c1]
        unfold fn_Mo_givesBack
        rw [e', bnO_s]
        show bnO (if 0 ≤ q' ∧ q' < 65 then _ else _) _ = _
        rw [if_pos (by omega : 0 ≤ q' ∧ q' < 65), nm_x, tg_514_7, bnO_s]
      · obtain ⟨k', T1, e, kk, o, b', a'⟩ := J_page (x1 := i) (x2 := q) hG hB ⟨h2, by omega⟩ hA (by rw [← hq]; exact c1) hq
        rw [← hq] at wi
        have body : ∀ go, lb_Mo_joins_77 514 a0 go k i T = go (k', i + 1, T1) := fun go => by
          unfold lb_Mo_joins_77
          rw [if_neg (by omega), if_pos (by omega : 0 ≤ i ∧ i < 65), tg_514_9, ← hq, if_pos (by omega : 0 ≤ q ∧ q < 65), tg_514_7, if_neg c1, e, bnO_s, nm_x, wr_s (z := i + 1) (by omega) (by omega)]
        have body' : lb_Mo_joins_77 514 a0 (lp (fun go p0 => lb_Mo_joins_77 514 a0 go p0.1 p0.2.1 p0.2.2) n) (k, i, T).1 (k, i, T).2.1 (k, i, T).2.2 = _ := body _
        rw [body']
        rcases J_queue ha0 hM0 m k' (i + 1) T1 n (by omega) (by omega) (by omega) (by omega) (hG.off o) b' a' with ⟨T2, s1, s2, s3⟩ | ⟨k2, T2, s1, s2, s3⟩
        · exact .inl ⟨T2, s1, (o.mono (by omega) (by omega)).trans s2, s3⟩
        · exact .inr ⟨k2, T2, s1, o.trans s2, s3⟩
theorem mr_stuck (ha0 : 0 ≤ a0 ∧ a0 < nA W) (hM0 : M a0 = false) (hG : MG W M T) (hB : BfR W T a0 k) (hA : AllQ W T a0 k 1) (m : Int → Int) : ¬ Mtc (adjW W) (nA W) (pgs W) (fun x => M x || decide (x = a0)) m := by
  have hV := hG.1.2
  have b := hV.1.1
  have bp := hV.pg
  obtain ⟨tr, hp⟩ := hB
  have onq : ∀ q : Int, 1 ≤ q → q ≤ pgs W → decide (g T 519 q.toNat ≠ -1) = true → ∃ j : Int, (0 ≤ j ∧ j < k) ∧ g T 520 j.toNat = q ∧ g T 518 q.toNat ≠ -1 := fun q q1 q2 hr => by
    rcases hp q q1 q2 with z | ⟨j, j0, j1, j2⟩
    · exact absurd z (of_decide_eq_true hr)
    · have := (hA.2.1 j j0 j1).1
      rw [j2] at this
      exact ⟨j, ⟨j0, j1⟩, j2, this⟩
  refine no_match (R := fun a => decide (a = a0) || anyR (fun l => decide (g T 518 (g T 520 l.toNat).toNat = a)) 0 k.toNat) (P := fun q => decide (g T 519 q.toNat ≠ -1)) (pt := fun q => g T 518 q.toNat) (a0 := a0) (by omega) (by omega) ha0 ?_ (fun a a1 a2 hr => ?_) (fun a q a1 a2 hr q1 q2 ha => ?_) (fun q q1 q2 hr => ?_) (fun q q' q1 q2 q3 q4 hr hr' e => ?_)
  · show (decide (a0 = a0) || _) = true
    rw [decide_eq_true rfl, Bool.true_or]
  · show (M a || decide (a = a0)) = true
    rcases (Bool.or_eq_true _ _).mp hr with z | z
    · rw [of_decide_eq_true z, decide_eq_true rfl, Bool.or_true]
    · obtain ⟨l, l0, l1, l2⟩ := anyR_iff.mp z
      have l2 := of_decide_eq_true l2
      have nf := (hA.2.1 l l0 (by omega)).1
      have wl := tr.2.1 l l0 (by omega)
      have r := (hG.2.2.1 _ wl.1 wl.2).resolve_left nf
      have r2 := r.2.1
      rw [l2] at r2
      rw [r2]; rfl
  · refine decide_eq_true ?_
    rcases (Bool.or_eq_true _ _).mp hr with z | z
    · rw [of_decide_eq_true z] at ha
      exact hA.1 q q1 q2 ha
    · obtain ⟨l, l0, l1, l2⟩ := anyR_iff.mp z
      have l2 := of_decide_eq_true l2
      exact (hA.2.1 l l0 (by omega)).2 q q1 q2 (by rw [l2]; exact ha)
  · obtain ⟨j, jb, j2, j3⟩ := onq q q1 q2 hr
    have r := (hG.2.2.1 q q1 q2).resolve_left j3
    refine ⟨r.1, ?_, fun z => ?_⟩
    · show (decide (g T 518 q.toNat = a0) || anyR (fun l => decide (g T 518 (g T 520 l.toNat).toNat = g T 518 q.toNat)) 0 k.toNat) = true
      rw [anyR_iff.mpr ⟨j, jb.1, by omega, decide_eq_true (by rw [j2])⟩, Bool.or_true]
    · have r2 := r.2.1
      have z' : g T 518 q.toNat = a0 := z
      rw [z', hM0] at r2
      exact Bool.false_ne_true r2
  · obtain ⟨j, jb, j2, j3⟩ := onq q q1 q2 hr
    exact hG.2.2.2.1 q q' q1 q2 q3 q4 e j3
theorem M_joins {jn : (Int → Bool) → Int → Bool} (hj : JnW W jn) (hG : MG W M T) (hM0 : M a0 = false) (ha0 : 0 ≤ a0 ∧ a0 < nA W) : ∃ T', fn_Mo_joins 514 a0 T = some (jn M a0, T') ∧ Off T T' 518 521 ∧ MG W (if jn M a0 = true then (fun x => M x || decide (x = a0)) else M) T' := by
  have hV := hG.1.2
  have b := hV.1.1
  have bp := hV.pg
  obtain ⟨T1, f1, hI1⟩ := lp_inv (body := fun go p0 => lb_Mo_joins_4 514 a0 0 go p0.1 p0.2) (fun i (s : St) => (i, s)) (fun s => s)
    (fun i s => 1 ≤ i ∧ Off T s 519 521 ∧ ∀ q : Int, 1 ≤ q → q < i → g s 519 q.toNat = -1) (pgs W + 1)
    (fun go i s h hi => by
      have hG' := hG.off h.2.1
      show lb_Mo_joins_4 514 a0 0 go i s = _
      unfold lb_Mo_joins_4
      rw [Mo_pageMany hG'.1, bnO_s, if_pos (by omega)])
    (fun go i s h hi => by
      have hG' := hG.off h.2.1
      refine ⟨u s 519 i.toNat (-1), ?_, by omega, h.2.1.tu (by omega) (by omega), fun q q1 q2 => ?_⟩
      · show lb_Mo_joins_4 514 a0 0 go i s = _
        unfold lb_Mo_joins_4
        rw [Mo_pageMany hG'.1, bnO_s, if_neg (by omega), if_pos (by omega : 0 ≤ i ∧ i < 65), nm_x, nm_x, tg_514_8, wr_s (z := i + 1) (by omega) (by omega)]
      · by_cases z : q = i
        · rw [z, g_eq]; exact wr_s (by decide) (by decide)
        · rw [g_ne (by omega)]; exact h.2.2 q q1 (by omega))
    (pgs W + 1 - 1).toNat FU 1 T ⟨Int.le_refl _, Off.refl, fun q q1 q2 => by omega⟩ (by omega) rfl (FU_lt (by omega))
  have hG1 := hG.off hI1.2.1
  obtain ⟨k2, T2, f2, o2, b2, a2⟩ := J_root hG1 ha0 (fun q q1 q2 => hI1.2.2 q q1 (by omega))
  have hG2 := hG1.off o2
  have o12 := hI1.2.1.trans o2
  have f1' : lo_Mo_joins_4 514 a0 0 FU (1, T) = some T1 := f1
  unfold fn_Mo_joins
  rw [f1', bnO_s, f2, bnO_s]
  rcases J_queue ha0 hM0 100 k2 0 T2 FU (by omega) (Int.le_refl _) (by have := b2.1.1; omega) (FU_lt (by omega)) hG2 b2 a2 with ⟨T3, r1, r2, r3⟩ | ⟨k3, T3, r1, r2, r3, r4, r5⟩
  · have r1' : lo_Mo_joins_77 514 a0 FU (k2, 0, T2) = _ := r1
    have ht : jn M a0 = true := (hj M a0).mpr r3.mtc
    show ∃ T', bnS (lo_Mo_joins_77 514 a0 FU (k2, 0, T2)) _ _ = _ ∧ _
    rw [r1', bnS_l, ht, if_pos rfl]
    exact ⟨T3, rfl, (o12.mono (by omega) (by omega)).trans r2, hG2.1.o6 (r2.mono (by omega) (by omega)), fun a q a1 a2 q1 q2 => by rw [r2.rd (by omega)]; exact hG2.2.1 a q a1 a2 q1 q2, r3⟩
  · have r1' : lo_Mo_joins_77 514 a0 FU (k2, 0, T2) = _ := r1
    have hf : jn M a0 = false := by
      cases e : jn M a0
      · rfl
      · obtain ⟨m, hm⟩ := (hj M a0).mp e
        exact absurd hm (mr_stuck ha0 hM0 r3 r4 r5 m)
    show ∃ T', bnS (lo_Mo_joins_77 514 a0 FU (k2, 0, T2)) _ _ = _ ∧ _
    rw [r1', bnS_r, hf, if_neg Bool.false_ne_true]
    exact ⟨T3, rfl, (o12.trans r2).mono (by omega) (by omega), r3⟩
end Match7
