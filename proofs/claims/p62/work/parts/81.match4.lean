/-! matching: the class's search -/
section Match4
variable {W : Vw} {M : Int → Bool} {k a0 q i y : Int} {S S' : St}
theorem MC.eqv (h : MC W S M) (e8 : ∀ f, g S' 508 f = g S 508 f) (e9 : ∀ f, g S' 509 f = g S 509 f) : MC W S' M := by
  unfold MC
  simp only [e8, e9]
  exact h
theorem BfW.add (hV : Val W) (hC : MC W S M) (h : BfW W S M a0 k) (hM0 : M a0 = false) (hq : 1 ≤ q ∧ q ≤ pgs W) (hu : g S 510 q.toNat = -1) (hi : 0 ≤ i ∧ i < k) (hy : g S 508 q.toNat ≠ -1) (ha : adjW W (g S 511 i.toNat) q = true)
    (hS' : S' = u (u S 510 q.toNat (g S 511 i.toNat)) 511 k.toNat (g S 508 q.toNat)) : Off S S' 510 512 ∧ MC W S' M ∧ BfW W S' M a0 (k + 1) ∧ (∀ l, 0 ≤ l → l < k → g S' 511 l.toNat = g S 511 l.toNat) ∧ (∀ p : Int, 0 ≤ p → g S' 510 p.toNat = if p = q then g S 511 i.toNat else g S 510 p.toNat) := by
  have b := hV.1.1
  have fr := h.fresh hV hC hM0 hq hu hy
  obtain ⟨⟨kb, w0, wb, wd, wt⟩, hp⟩ := h
  have wi := wb i hi.1 hi.2
  obtain ⟨x, hx⟩ : ∃ x, x = g S 511 i.toNat := ⟨_, rfl⟩
  obtain ⟨z, hz⟩ : ∃ z, z = g S 508 q.toNat := ⟨_, rfl⟩
  rw [← hx] at wi hS' ha ⊢
  rw [← hz] at fr hS'
  have e1 : ∀ l, 0 ≤ l → l < k → g S' 511 l.toNat = g S 511 l.toNat := fun l l0 l1 => by rw [hS', g_ne (by omega), g_ne (by omega)]
  have ek : g S' 511 k.toNat = z := by rw [hS', g_eq, wr_s (by omega) (by omega)]
  have e0 : ∀ p : Int, 0 ≤ p → g S' 510 p.toNat = if p = q then x else g S 510 p.toNat := fun p p0 => by
    rw [hS', g_ne (by omega)]
    by_cases e : p = q
    · rw [e, g_eq, if_pos rfl, wr_s (by omega) (by omega)]
    · rw [g_ne (by omega), if_neg e]
  have e8 : ∀ f, g S' 508 f = g S 508 f := fun f => by rw [hS', g_ne (by omega), g_ne (by omega)]
  have e9 : ∀ f, g S' 509 f = g S 509 f := fun f => by rw [hS', g_ne (by omega), g_ne (by omega)]
  refine ⟨by rw [hS']; exact (Off.wt (by omega) (by omega)).tu (by omega) (by omega), hC.eqv e8 e9, ⟨⟨by omega, ?_, fun j j0 j1 => ?_, fun j j' j0 j1 j2 => ?_, fun j j0 j1 => ?_⟩, fun p p1 p2 => ?_⟩, e1, e0⟩
  · have := e1 0 (Int.le_refl _) (by omega)
    exact this.trans w0
  · by_cases c : j = k
    · rw [c, ek]; exact fr.1.1
    · rw [e1 j j0 (by omega)]; exact wb j j0 (by omega)
  · rw [e1 j j0 (by omega)]
    by_cases c : j' = k
    · rw [c, ek]; exact fr.2.1 j j0 (by omega)
    · rw [e1 j' (by omega) (by omega)]; exact wd j j' j0 j1 (by omega)
  · by_cases c : j = k
    · rw [c, ek, e9, fr.1.2.2]
      refine ⟨fr.1.2.1, i, hi.1, hi.2, ?_, ?_⟩
      · rw [e0 q (by omega), if_pos rfl, e1 i hi.1 hi.2, hx]
      · rw [e1 i hi.1 hi.2, ← hx]; exact ha
    · rw [e1 j (by omega) (by omega), e9]
      obtain ⟨m1, l, l0, l1, l2, l3⟩ := wt j j0 (by omega)
      refine ⟨m1, l, l0, l1, ?_, ?_⟩
      · rw [e1 l l0 (by omega)]
        have hm := hC.1 (g S 511 j.toNat) (wb j (by omega) (by omega)).1 (by have := (wb j (by omega) (by omega)).2; omega)
        rw [if_pos m1] at hm
        rw [e0 _ (by omega), if_neg (fun e => ?_)]
        · exact l2
        · rw [e, hu] at l2
          have := wb l l0 (by omega)
          omega
      · rw [e1 l l0 (by omega)]; exact l3
  · rw [e0 p (by omega), e8]
    by_cases c : p = q
    · rw [if_pos c, c]
      refine .inr ⟨⟨i, hi.1, by omega, by rw [e1 i hi.1 hi.2, hx], by rw [e1 i hi.1 hi.2, ← hx]; exact ha⟩, k, by omega, by omega, by rw [ek, hz]⟩
    · rw [if_neg c]
      rcases hp p p1 p2 with r | ⟨⟨l, l0, l1, l2, l3⟩, j, j0, j1, j2⟩
      · exact .inl r
      · exact .inr ⟨⟨l, l0, by omega, by rw [e1 l l0 l1]; exact l2, by rw [e1 l l0 l1]; exact l3⟩, j, j0, by omega, by rw [e1 j (by omega) j1]; exact j2⟩
def AllR (W : Vw) (S : St) (i p : Int) : Prop := (∀ l q, 0 ≤ l → l < i → 1 ≤ q → q ≤ pgs W → adjW W (g S 511 l.toNat) q = true → g S 510 q.toNat ≠ -1) ∧ ∀ q, 1 ≤ q → q < p → adjW W (g S 511 i.toNat) q = true → g S 510 q.toNat ≠ -1
theorem mo_found (hV : Val W) (hC : MC W S M) (h : BfW W S M a0 k) (hM0 : M a0 = false) (hq : 1 ≤ q ∧ q ≤ pgs W) (hu : g S 510 q.toNat = -1) (hi : 0 ≤ i ∧ i < k) (hy : g S 508 q.toNat = -1) (ha : adjW W (g S 511 i.toNat) q = true)
    (hS' : S' = u S 510 q.toNat (g S 511 i.toNat)) : ∃ T', fn_Searches_changePartners 505 q S' = some T' ∧ Off S T' 508 512 ∧ MC W T' (fun x => M x || decide (x = a0)) := by
  have b := hV.1.1
  obtain ⟨⟨kb, w0, wb, wd, wt⟩, hp⟩ := h
  have wi := wb i hi.1 hi.2
  have e1 : ∀ f, g S' 511 f = g S 511 f := fun f => by rw [hS', g_ne (by omega)]
  have e0 : ∀ p : Int, 0 ≤ p → g S' 510 p.toNat = if p = q then g S 511 i.toNat else g S 510 p.toNat := fun p p0 => by
    rw [hS']
    by_cases e : p = q
    · rw [e, g_eq, if_pos rfl, wr_s (by omega) (by omega)]
    · rw [g_ne (by omega), if_neg e]
  have e8 : ∀ f, g S' 508 f = g S 508 f := fun f => by rw [hS', g_ne (by omega)]
  have e9 : ∀ f, g S' 509 f = g S 509 f := fun f => by rw [hS', g_ne (by omega)]
  have hC' := hC.eqv e8 e9
  have o1 : Off S S' 508 512 := by rw [hS']; exact Off.wt (by omega) (by omega)
  have hT : TrW W S' M a0 k := by
    refine ⟨kb, (e1 0).trans w0, fun j j0 j1 => by rw [e1]; exact wb j j0 j1, fun l j l0 l1 l2 => by rw [e1, e1]; exact wd l j l0 l1 l2, fun j j0 j1 => ?_⟩
    obtain ⟨m1, l, l0, l1, l2, l3⟩ := wt j j0 j1
    rw [e1, e9]
    refine ⟨m1, l, l0, l1, ?_, by rw [e1]; exact l3⟩
    have hm := hC.1 (g S 511 j.toNat) (wb j (by omega) (by omega)).1 (by have := (wb j (by omega) (by omega)).2; omega)
    rw [if_pos m1] at hm
    rw [e0 _ (by omega), e1, if_neg (fun e => ?_)]
    · exact l2
    · rw [e, hu] at l2
      have := wb l l0 (by omega)
      omega
  obtain ⟨T', e, o, r⟩ := cp_walk hV hT hM0 41 i 0 q S' FU hi.1 hi.2 (by omega) (by omega) (Int.le_refl _) (Nat.le_of_lt (FU_lt (by omega))) hq (fun _ _ _ => rfl) (fun _ _ _ => rfl)
    ⟨fun a a1 a2 => by
      have z := hC'.1 a a1 a2
      by_cases m1 : M a = true
      · rw [if_pos m1] at z ⊢
        refine ⟨z.1, z.2.1, z.2.2.1, z.2.2.2, fun e => ?_⟩
        have z4 := z.2.2.2
        rw [e, e8, hy] at z4
        omega
      · rw [if_neg m1] at z ⊢
        exact z, fun p p1 p2 _ => hC'.2 p p1 p2⟩ (by rw [e1]; exact ha) (by rw [e0 q (by omega), if_pos rfl, e1])
  refine ⟨T', ?_, o1.trans (o.mono (by omega) (by omega)), r⟩
  unfold fn_Searches_changePartners
  have e' : lo_Searches_changePartners_4 505 FU (q, 0, S') = _ := e
  rw [e', bnS_r]
theorem mo27 (hV : Val W) (hM0 : M a0 = false) : ∀ (m : Nat) (k p : Int) (S : St) (n : Nat), p + m = pgs W + 1 → 1 ≤ p → 0 ≤ i → i < k → m < n → PT S 5 W → MC W S M → BfW W S M a0 k → AllR W S i p →
    (∃ S', lp (fun go p0 => lb_Searches_matchOneMore_33 505 i go p0.1 p0.2.1 p0.2.2) n (k, p, S) = some (.inl (true, S')) ∧ Off S S' 508 512 ∧ MC W S' (fun x => M x || decide (x = a0))) ∨
    (∃ k' S', lp (fun go p0 => lb_Searches_matchOneMore_33 505 i go p0.1 p0.2.1 p0.2.2) n (k, p, S) = some (.inr (k', S')) ∧ Off S S' 508 512 ∧ k ≤ k' ∧ MC W S' M ∧ BfW W S' M a0 k' ∧ AllR W S' i (pgs W + 1))
  | 0, k, p, S, n + 1, h1, h2, h3, h4, _, hP, hC, hB, hA => by
    refine .inr ⟨k, S, ?_, Off.refl, Int.le_refl _, hC, hB, ?_⟩
    · rw [lp_succ]
      show lb_Searches_matchOneMore_33 505 i _ k p S = _
      unfold lb_Searches_matchOneMore_33
      rw [tg_505_0, hP.pl.gp, if_pos (by omega)]
    · rw [show pgs W + 1 = p by omega]; exact hA
  | m + 1, k, p, S, n + 1, h1, h2, h3, h4, h5, hP, hC, hB, hA => by
    have b := hV.pg
    have bA := hV.1.1
    have kb := hB.1.1
    have wi := hB.1.2.2.1 i h3 h4
    rw [lp_succ]
    have tail : ∀ k' S', k ≤ k' → Off S S' 508 512 → MC W S' M → BfW W S' M a0 k' → AllR W S' i (p + 1) →
        (∃ S'', lp (fun go p0 => lb_Searches_matchOneMore_33 505 i go p0.1 p0.2.1 p0.2.2) n (k', p + 1, S') = some (.inl (true, S'')) ∧ Off S S'' 508 512 ∧ MC W S'' (fun x => M x || decide (x = a0))) ∨
        (∃ k'' S'', lp (fun go p0 => lb_Searches_matchOneMore_33 505 i go p0.1 p0.2.1 p0.2.2) n (k', p + 1, S') = some (.inr (k'', S'')) ∧ Off S S'' 508 512 ∧ k ≤ k'' ∧ MC W S'' M ∧ BfW W S'' M a0 k'' ∧ AllR W S'' i (pgs W + 1)) := fun k' S' e1 o e2 e3 e4 => by
      rcases mo27 hV hM0 m k' (p + 1) S' n (by omega) (by omega) h3 (by omega) (by omega) (hP.off o (by omega)) e2 e3 e4 with ⟨S'', r1, r2, r3⟩ | ⟨k'', S'', r1, r2, r3, r4⟩
      · exact .inl ⟨S'', r1, o.trans r2, r3⟩
      · exact .inr ⟨k'', S'', r1, o.trans r2, by omega, r4⟩
    by_cases c1 : g S 510 p.toNat = -1
    · by_cases c2 : adjW W (g S 511 i.toNat) p = true
      · by_cases c3 : g S 508 p.toNat = -1
        · obtain ⟨T', t1, t2, t3⟩ := mo_found hV hC hB hM0 ⟨h2, by omega⟩ c1 ⟨h3, h4⟩ c3 c2 rfl
          refine .inl ⟨T', ?_, t2, t3⟩
          show lb_Searches_matchOneMore_33 505 i _ k p S = _
          unfold lb_Searches_matchOneMore_33
          rw [tg_505_0, hP.pl.gp, if_neg (by omega), if_pos (by omega : 0 ≤ p ∧ p < 65), tg_505_6, if_pos c1, if_pos (by omega : 0 ≤ i ∧ i < 40), tg_505_7, S_mayMatch hP wi, bnO_s, if_pos c2, nm_x, tg_505_4, g_ne (by omega), if_pos c3, t1, bnO_s]
        · have fr := hB.fresh hV hC hM0 ⟨h2, by omega⟩ c1 c3
          obtain ⟨S1, hS1⟩ : ∃ S1, S1 = u (u S 510 p.toNat (g S 511 i.toNat)) 511 k.toNat (g S 508 p.toNat) := ⟨_, rfl⟩
          obtain ⟨o, c', b', w', r'⟩ := hB.add hV hC hM0 ⟨h2, by omega⟩ c1 ⟨h3, h4⟩ c3 c2 hS1
          have q := tail (k + 1) S1 (by omega) (o.mono (by omega) (by omega)) c' b' ⟨fun l q l0 l1 q1 q2 ha => by
            rw [w' l l0 (by omega)] at ha
            have := hA.1 l q l0 l1 q1 q2 ha
            rw [r' q (by omega)]
            by_cases e : q = p
            · rw [if_pos e]; omega
            · rw [if_neg e]; exact this, fun q q1 q2 ha => by
            rw [w' i h3 h4] at ha
            rw [r' q (by omega)]
            by_cases e : q = p
            · rw [if_pos e]; omega
            · rw [if_neg e]; exact hA.2 q q1 (by omega) ha⟩
          have body : ∀ go, lb_Searches_matchOneMore_33 505 i go k p S = go (k + 1, p + 1, S1) := fun go => by
            unfold lb_Searches_matchOneMore_33
            rw [tg_505_0, hP.pl.gp, if_neg (by omega), if_pos (by omega : 0 ≤ p ∧ p < 65), tg_505_6, if_pos c1, if_pos (by omega : 0 ≤ i ∧ i < 40), tg_505_7, S_mayMatch hP wi, bnO_s, if_pos c2, nm_x, tg_505_4, g_ne (by omega), if_neg c3, if_neg (by omega : ¬ 40 ≤ k), if_pos (by omega : 0 ≤ k ∧ k < 40), nm_x, nm_x, nm_x, wr_s (z := k + 1) (by omega) (by omega), wr_s (z := p + 1) (by omega) (by omega), ← hS1]
          have body' := body (lp (fun go p0 => lb_Searches_matchOneMore_33 505 i go p0.1 p0.2.1 p0.2.2) n)
          rw [← body'] at q
          exact q
      · have q := tail k S (Int.le_refl _) Off.refl hC hB ⟨hA.1, fun q q1 q2 ha => by
          by_cases e : q = p
          · rw [e] at ha; exact absurd ha c2
          · exact hA.2 q q1 (by omega) ha⟩
        have body : ∀ go, lb_Searches_matchOneMore_33 505 i go k p S = go (k, p + 1, S) := fun go => by
          unfold lb_Searches_matchOneMore_33
          rw [tg_505_0, hP.pl.gp, if_neg (by omega), if_pos (by omega : 0 ≤ p ∧ p < 65), tg_505_6, if_pos c1, if_pos (by omega : 0 ≤ i ∧ i < 40), tg_505_7, S_mayMatch hP wi, bnO_s, if_neg c2, nm_x, wr_s (z := p + 1) (by omega) (by omega)]
        have body' := body (lp (fun go p0 => lb_Searches_matchOneMore_33 505 i go p0.1 p0.2.1 p0.2.2) n)
        rw [← body'] at q
        exact q
    · have q := tail k S (Int.le_refl _) Off.refl hC hB ⟨hA.1, fun q q1 q2 ha => by
        by_cases e : q = p
        · rw [e]; exact c1
        · exact hA.2 q q1 (by omega) ha⟩
      have body : ∀ go, lb_Searches_matchOneMore_33 505 i go k p S = go (k, p + 1, S) := fun go => by
        unfold lb_Searches_matchOneMore_33
        rw [tg_505_0, hP.pl.gp, if_neg (by omega), if_pos (by omega : 0 ≤ p ∧ p < 65), tg_505_6, if_neg c1, nm_x, wr_s (z := p + 1) (by omega) (by omega)]
      have body' := body (lp (fun go p0 => lb_Searches_matchOneMore_33 505 i go p0.1 p0.2.1 p0.2.2) n)
      rw [← body'] at q
      exact q
end Match4

