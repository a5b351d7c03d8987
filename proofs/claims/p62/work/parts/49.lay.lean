/-! STORIES AND STANDBYS PLACED -/
section GoodS
variable {W : Vw}
theorem raw4 (hV : Val W) {q : Int} (h : rawR W q (-1) (-1) = 4) : (∀ a, 0 ≤ a → a < nA W → at_ W 6 a ≠ q) ∧ (∀ b, 0 ≤ b → b < nB W → at_ W 13 b ≠ q) := by
  refine ⟨fun a a1 a2 e => ?_, fun b b1 b2 e => ?_⟩
  · have q1 := rawR_but hV (p := q) (a := a) (b := -1) ⟨a1, a2⟩
    have q2 := (rawR_bd hV (p := q) (a := a) (b := -1)).2
    have v := (hV.2.1 a a1 a2).1
    rw [if_pos e] at q1
    omega
  · have q1 := rawR_butB hV (p := q) (a := -1) (b := b) ⟨b1, b2⟩
    have q2 := (rawR_bd hV (p := q) (a := -1) (b := b)).2
    have v := (hV.2.2.2.1 b b1 b2).1
    rw [if_pos e] at q1
    omega
theorem mnR_all {s q : Int} : ∀ {n : Nat} {i m : Int}, itR (mnS W s q) i n m = 1000000 → m = 1000000 ∧ ∀ j, i ≤ j → j < i + n → pgR W s (q + j) = 0
  | 0, i, m, h => ⟨h, fun j h1 h2 => by omega⟩
  | n + 1, i, m, h => by
    obtain ⟨h1, h2⟩ := mnR_all (n := n) (i := i + 1) (m := mnS W s q i m) h
    have pv := pgR_v (W := W) (s := s) (q := q + i)
    unfold mnS at h1
    by_cases c : pgR W s (q + i) = 0
    · rw [if_pos c] at h1
      refine ⟨h1, fun j j1 j2 => ?_⟩
      by_cases d : j = i
      · rw [d]; exact c
      · exact h2 j (by omega) (by omega)
    · rw [if_neg c] at h1
      by_cases c2 : pgR W s (q + i) < m
      · rw [if_pos c2] at h1; omega
      · rw [if_neg c2] at h1; omega
theorem lay0 (hV : Val W) {s p : Int} (hs : 0 ≤ s ∧ s < nS W) (h : layR W s p = 0) : (1 ≤ p ∧ p + at_ W 7 s - 1 ≤ pgs W) ∧ onSd p (at_ W 9 s) = true ∧ ∀ q, p ≤ q → q < p + at_ W 7 s → prP W q = false ∧ stOn W q s = -1 ∧ rawR W q (-1) (-1) = 4 ∧ (at_ W 8 s = 1 → coP W q = true) := by
  have v := (hV.2.2.1 s hs.1 hs.2).1
  have m := mnR_v (W := W) (s := s) (q := p) (n := (at_ W 7 s).toNat)
  unfold layR at h
  by_cases c : isP W p = true ∧ p + at_ W 7 s - 1 ≤ pgs W
  · rw [if_pos c] at h
    have c1 := isP_b c.1
    by_cases d : mnR W s p (at_ W 7 s).toNat < 1000000
    · rw [if_pos d] at h; omega
    · rw [if_neg d] at h
      by_cases d2 : onSd p (at_ W 9 s) = true
      · refine ⟨⟨c1.1, c.2⟩, d2, fun q q1 q2 => ?_⟩
        have e := (mnR_all (W := W) (s := s) (q := p) (i := 0) (m := 1000000) (n := (at_ W 7 s).toNat) (by show mnR W s p _ = _; omega)).2 (q - p) (by omega) (by omega)
        rw [show p + (q - p) = q by omega] at e
        unfold pgR at e
        by_cases e1 : prP W q = true
        · rw [if_pos e1] at e; omega
        · rw [if_neg e1] at e
          by_cases e2 : stOn W q s ≠ -1 ∨ room W q (-1) (-1) < 4
          · rw [if_pos e2] at e; omega
          · rw [if_neg e2] at e
            by_cases e3 : at_ W 8 s = 1 ∧ coP W q = false
            · rw [if_pos e3] at e; omega
            · have rb := rawR_bd hV (p := q) (a := -1) (b := -1)
              have rr := room_raw hV (p := q) (a := -1) (b := -1)
              refine ⟨Bool.eq_false_iff.mpr e1, ?_, by omega, fun z => ?_⟩
              · by_cases e4 : stOn W q s = -1
                · exact e4
                · exact absurd (.inl e4) e2
              · cases e5 : coP W q
                · exact absurd ⟨z, e5⟩ e3
                · rfl
      · rw [if_neg d2] at h; omega
  · rw [if_neg c] at h; omega
theorem rivl_up {k i : Nat} {z : Int} (h17 : k < 17) (h1 : k ≠ 1) (h6 : k ≠ 6) (a s : Int) : rivl (up W k i z) a s = rivl W a s := by
  unfold rivl anyA
  rw [nA_up h17, at_upn (k' := 1) (fun e => h1 e.symm)]
  congr 1
  exact anyR_congr (fun j _ _ => by rw [at_upn (k' := 6) (fun e => h6 e.symm), at_upn (k' := 1) (fun e => h1 e.symm)])
theorem Flw_up (h : Flw W) {k i : Nat} {z : Int} (hk : k = 11 ∨ k = 13 ∨ k = 12 ∨ k = 15 ∨ k = 16 ∨ k = 4) : Flw (up W k i z) := by
  intro a a1 a2 a3
  rw [nA_up (by omega)] at a2
  rw [at_upn (k' := 6) (by omega)] at a3 ⊢
  rw [at_upn (k' := 2) (by omega), at_upn (k' := 3) (by omega), coP_up (by omega) (by omega), rivl_up (by omega) (by omega) (by omega)]
  exact h a a1 a2 a3
theorem Due_up (h : Due W) {k i : Nat} {z : Int} (hk : k < 14) : Due (up W k i z) := by
  intro f f1 f2 f3
  have ef : frm (up W k i z) = frm W := by unfold frm; rw [sg_up (by omega)]
  rw [ef] at f2
  rw [at_upn (k' := 15) (by omega)] at f3
  rw [at_upn (k' := 16) (by omega), tm_up (by omega)]
  exact h f f1 f2 f3
theorem rawR_up {k i : Nat} {z : Int} (hk : k = 11 ∨ 14 ≤ k) (h17 : k < 17) (q a b : Int) : rawR (up W k i z) q a b = rawR W q a b := by
  unfold rawR sumA sumB szA szB
  rw [nA_up h17, nB_up h17]
  simp only [at_upn (W := W) (k := k) (i := i) (z := z) (k' := 6) (by omega), at_upn (W := W) (k := k) (i := i) (z := z) (k' := 0) (by omega), at_upn (W := W) (k := k) (i := i) (z := z) (k' := 13) (by omega), at_upn (W := W) (k := k) (i := i) (z := z) (k' := 12) (by omega)]
theorem Good_setS (hG : Good W) {s p : Int} (hs : 0 ≤ s ∧ s < nS W) (hc : p = 0 ∨ layR W s p = 0) : Good (up W 11 s.toNat p) := by
  obtain ⟨hV, hW, hF, hD⟩ := hG
  have lz : p = 0 ∨ ((1 ≤ p ∧ p + at_ W 7 s - 1 ≤ pgs W) ∧ ∀ q, p ≤ q → q < p + at_ W 7 s → stOn W q s = -1 ∧ rawR W q (-1) (-1) = 4) := by
    rcases hc with hc | hc
    · exact .inl hc
    · have l := lay0 hV hs hc
      exact .inr ⟨l.1, fun q q1 q2 => ⟨(l.2.2 q q1 q2).2.1, (l.2.2 q q1 q2).2.2.1⟩⟩
  have hV' : Val (up W 11 s.toNat p) := Val_up hV hs.1 (.inr (.inr (.inr (.inr (.inl ⟨rfl, by omega⟩)))))
  have e11 : ∀ x, 0 ≤ x → at_ (up W 11 s.toNat p) 11 x = if x = s then p else at_ W 11 x := fun x hx => at_upe hx hs.1
  have ec : ∀ t q, 0 ≤ t → cov (up W 11 s.toNat p) t q = if t = s then decide (0 < p ∧ p ≤ q ∧ q < p + at_ W 7 s) else cov W t q := by
    intro t q ht
    unfold cov
    rw [e11 t ht, at_upn (k' := 7) (by decide)]
    by_cases c : t = s
    · rw [if_pos c, if_pos c, c]
    · rw [if_neg c, if_neg c]
  refine ⟨hV', ⟨fun q q1 q2 => ?_, fun t t1 t2 q qc => ?_⟩, Flw_up hF (.inl rfl), Due_up hD (by decide)⟩
  · rw [pgs_up (by decide)] at q2
    rw [rawR_up (.inl rfl) (by decide)]
    exact hW.1 q q1 q2
  · rw [nS_up (by decide)] at t2
    rw [ec t q t1] at qc
    by_cases c : t = s
    · rw [if_pos c] at qc
      have qc := of_decide_eq_true qc
      have l := lz.resolve_left (by omega)
      have l2 := l.2 q qc.2.1 qc.2.2
      have r := raw4 hV l2.2
      refine ⟨fun a a1 a2 => ?_, fun b b1 b2 => ?_, fun t' u1 u2 u3 => ?_⟩
      · rw [nA_up (by decide)] at a2
        rw [at_upn (k' := 6) (by decide)]; exact r.1 a a1 a2
      · rw [nB_up (by decide)] at b2
        rw [at_upn (k' := 13) (by decide)]; exact r.2 b b1 b2
      · rw [nS_up (by decide)] at u2
        rw [ec t' q u1, if_neg (by omega)]
        rcases stOn_spec hV (p := q) (but := s) with ⟨g1, g2⟩ | ⟨g1, g2, g3, g4⟩
        · exact g2 t' u1 u2 (by omega)
        · omega
    · rw [if_neg c] at qc
      have w := hW.2 t t1 t2 q qc
      refine ⟨fun a a1 a2 => ?_, fun b b1 b2 => ?_, fun t' u1 u2 u3 => ?_⟩
      · rw [nA_up (by decide)] at a2
        rw [at_upn (k' := 6) (by decide)]; exact w.1 a a1 a2
      · rw [nB_up (by decide)] at b2
        rw [at_upn (k' := 13) (by decide)]; exact w.2.1 b b1 b2
      · rw [nS_up (by decide)] at u2
        rw [ec t' q u1]
        by_cases c2 : t' = s
        · rw [if_pos c2]
          apply decide_eq_false
          intro z
          have l := (lz.resolve_left (by omega)).2 q z.2.1 z.2.2
          rcases stOn_spec hV (p := q) (but := s) with ⟨g1, g2⟩ | ⟨g1, g2, g3, g4⟩
          · have := g2 t t1 t2 c
            rw [this] at qc; cases qc
          · omega
        · rw [if_neg c2]; exact w.2.2 t' u1 u2 u3
theorem rawR_setB {i p q a : Int} (hi : 0 ≤ i) : rawR (up W 13 i.toNat p) q a i = rawR W q a i := by
  unfold rawR sumA sumB
  rw [nA_up (by decide), nB_up (by decide)]
  have e1 : sumR (fun x => -szA (up W 13 i.toNat p) q a x) 0 (nA W).toNat = sumR (fun x => -szA W q a x) 0 (nA W).toNat := by
    unfold szA
    simp only [at_upn (W := W) (k := 13) (i := i.toNat) (z := p) (k' := 6) (by decide), at_upn (W := W) (k := 13) (i := i.toNat) (z := p) (k' := 0) (by decide)]
  rw [e1]
  congr 1
  refine sumR_congr (fun j h1 h2 => ?_)
  unfold szB
  rw [at_upe h1 hi, at_upn (k' := 12) (by decide)]
  by_cases c : j = i
  · rw [if_neg (fun z => z.1 c), if_neg (fun z => z.1 c)]
  · rw [if_neg c]
theorem Good_setB (hG : Good W) {i p : Int} (hi : 0 ≤ i ∧ i < nB W) (hp : 0 ≤ p ∧ p ≤ pgs W) (hc : p = 0 ∨ (stOn W p (-1) = -1 ∧ at_ W 12 i ≤ rawR W p (-1) i)) : Good (up W 13 i.toNat p) := by
  obtain ⟨hV, hW, hF, hD⟩ := hG
  have hV' : Val (up W 13 i.toNat p) := Val_up hV hi.1 (.inr (.inr (.inr (.inr (.inr (.inl ⟨rfl, hp⟩))))))
  have e13 : ∀ x, 0 ≤ x → at_ (up W 13 i.toNat p) 13 x = if x = i then p else at_ W 13 x := fun x hx => at_upe hx hi.1
  refine ⟨hV', ⟨fun q q1 q2 => ?_, fun s s1 s2 q qc => ?_⟩, Flw_up hF (.inr (.inl rfl)), Due_up hD (by decide)⟩
  · rw [pgs_up (by decide)] at q2
    have r1 := rawR_butB hV' (p := q) (a := -1) (b := i) (by rw [nB_up (by decide)]; exact hi)
    have r2 := rawR_butB hV (p := q) (a := -1) (b := i) hi
    rw [rawR_setB hi.1, e13 i hi.1, if_pos rfl, at_upn (k' := 12) (by decide)] at r1
    have r3 := hW.1 q q1 q2
    have v := hV.2.2.2.1 i hi.1 hi.2
    by_cases c : p = q
    · rw [if_pos c] at r1
      have c2 : at_ W 12 i ≤ rawR W p (-1) i := by
        rcases hc with hc | hc
        · omega
        · exact hc.2
      rw [c] at c2
      omega
    · rw [if_neg c] at r1
      split at r2 <;> omega
  · rw [nS_up (by decide)] at s2
    rw [cov_up (by decide) (by decide)] at qc
    have w := hW.2 s s1 s2 q qc
    refine ⟨fun x x1 x2 => ?_, fun b b1 b2 => ?_, fun t t1 t2 t3 => ?_⟩
    · rw [nA_up (by decide)] at x2
      rw [at_upn (k' := 6) (by decide)]
      exact w.1 x x1 x2
    · rw [nB_up (by decide)] at b2
      rw [e13 b b1]
      by_cases c : b = i
      · rw [if_pos c]
        intro e
        rcases hc with hc | hc
        · have := of_decide_eq_true qc
          have := hV.2.2.1 s s1 s2
          omega
        · rw [e, stOn_cov hV hW ⟨s1, s2⟩ qc] at hc
          omega
      · rw [if_neg c]; exact w.2.1 b b1 b2
    · rw [nS_up (by decide)] at t2
      rw [cov_up (by decide) (by decide)]
      exact w.2.2 t t1 t2 t3
def useR (W : Vw) (b p : Int) : Int := if isP W p = true then (if prP W p = true then 2 else if isP W (at_ W 13 b) = true ∧ prP W (at_ W 13 b) = true then 2 else if lefO W p (-1) b < at_ W 12 b then 3 else 0) else 1
end GoodS
section Lays
variable {S T : St} {W : Vw}
theorem P_useReason (h : PT S 5 W) {b p : Int} (hb : 0 ≤ b ∧ b < nB W) : fn_Plan_useReason 5 b p S = some (useR W b p) := by
  have z := h.v.z
  have v := h.v.2.2.2.1 b hb.1 hb.2
  have e1 : g S 23 b.toNat = at_ W 13 b := h.pl.b1 hb
  have e0 : g S 22 b.toNat = at_ W 12 b := h.pl.b0 hb
  unfold fn_Plan_useReason useR
  rw [if_pos (by omega : 0 ≤ b ∧ b < 8), P_hasPage h.pl, bnO_s]
  by_cases c0 : isP W p = true
  · have c0' := isP_b c0
    have l := lf_bd h.v h.w c0'.1 c0'.2
    have el : g S 30 p.toNat = lf W p := h.l c0'.1 c0'.2
    rw [if_pos c0, if_pos c0, P_isPrinted1 h.pl c0'.1 c0'.2, bnO_s]
    by_cases c1 : prP W p = true
    · rw [if_pos c1, if_pos c1]
    · rw [if_neg c1, if_neg c1, tg_5_0, tg_6_2, tg_21_1, tg_21_0, tg_5_5, e1, e0, el, P_isPrinted h.pl, bnO_s]
      by_cases c2 : isP W (at_ W 13 b) = true ∧ prP W (at_ W 13 b) = true
      · rw [if_pos (by rw [Bool.and_eq_true]; exact c2 : (isP W (at_ W 13 b) && prP W (at_ W 13 b)) = true), if_pos c2]
      · rw [if_neg (by rw [Bool.and_eq_true]; exact c2 : ¬ (isP W (at_ W 13 b) && prP W (at_ W 13 b)) = true), if_neg c2, if_pos (by omega : 0 ≤ p ∧ p < 65), nm_x, nm_x, lefO_butB h.v h.w hb]
        by_cases c3 : at_ W 13 b = p
        · rw [if_pos c3, if_pos c3, wr_s (by omega) (by omega)]
          by_cases c4 : at_ W 12 b ≤ lf W p + at_ W 12 b
          · rw [if_pos c4, if_neg (by omega : ¬ lf W p + at_ W 12 b < at_ W 12 b)]
          · rw [if_neg c4, if_pos (by omega : lf W p + at_ W 12 b < at_ W 12 b)]
        · rw [if_neg c3, if_neg c3, wr_s (by omega) (by omega)]
          by_cases c4 : at_ W 12 b ≤ lf W p + 0
          · rw [if_pos c4, if_neg (by omega : ¬ lf W p + 0 < at_ W 12 b)]
          · rw [if_neg c4, if_pos (by omega : lf W p + 0 < at_ W 12 b)]
  · rw [if_neg c0, if_neg c0]
end Lays

