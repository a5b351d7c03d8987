/-! GOOD STATES STAY GOOD -/
section Goods
variable {W : Vw}
theorem Val.mk' {W' : Vw} (h0 : nA W' = nA W ∧ nS W' = nS W ∧ nB W' = nB W ∧ sg W' = sg W ∧ pe W' = pe W ∧ tm W' = tm W) (hV : Val W)
    (hA : ∀ a, 0 ≤ a → a < nA W → (at_ W' 0 a = at_ W 0 a ∧ at_ W' 1 a = at_ W 1 a) ∧ (at_ W' 2 a = 0 ∨ at_ W' 2 a = 1) ∧ (0 ≤ at_ W' 3 a ∧ at_ W' 3 a ≤ 2) ∧ (1 ≤ at_ W' 4 a ∧ at_ W' 4 a ≤ 999) ∧ at_ W' 5 a = at_ W 5 a ∧ (0 ≤ at_ W' 6 a ∧ at_ W' 6 a ≤ pgs W))
    (hS : ∀ s, 0 ≤ s → s < nS W → (at_ W' 7 s = at_ W 7 s ∧ at_ W' 8 s = at_ W 8 s ∧ at_ W' 9 s = at_ W 9 s ∧ at_ W' 10 s = at_ W 10 s) ∧ (at_ W' 11 s = 0 ∨ (1 ≤ at_ W' 11 s ∧ at_ W' 11 s + at_ W 7 s - 1 ≤ pgs W)))
    (hB : ∀ b, 0 ≤ b → b < nB W → at_ W' 12 b = at_ W 12 b ∧ (0 ≤ at_ W' 13 b ∧ at_ W' 13 b ≤ pgs W))
    (hF : ∀ f, 0 ≤ f → f < 2 * sg W → (at_ W' 14 f = 0 ∨ at_ W' 14 f = 1) ∧ (at_ W' 15 f = 0 ∨ at_ W' 15 f = 1) ∧ (at_ W' 16 f = -1 ∨ (1 ≤ at_ W' 16 f ∧ at_ W' 16 f ≤ 9999))) : Val W' := by
  obtain ⟨e1, e2, e3, e4, e5, e6⟩ := h0
  have ep : pgs W' = pgs W := by unfold pgs; rw [e4, e5]
  refine ⟨by rw [e1, e2, e3, e4, e5, e6]; exact hV.1, fun a h1 h2 => ?_, fun s h1 h2 => ?_, fun b h1 h2 => ?_, fun f h1 h2 => ?_⟩
  · rw [e1] at h2
    have v := hV.2.1 a h1 h2
    have w := hA a h1 h2
    rw [ep, w.1.1, w.1.2, w.2.2.2.2.1]
    exact ⟨v.1, v.2.1, w.2.1, w.2.2.1, w.2.2.2.1, v.2.2.2.2.2.1, w.2.2.2.2.2⟩
  · rw [e2] at h2
    have v := hV.2.2.1 s h1 h2
    have w := hS s h1 h2
    rw [ep, w.1.1, w.1.2.1, w.1.2.2.1, w.1.2.2.2]
    exact ⟨v.1, v.2.1, v.2.2.1, v.2.2.2.1, w.2⟩
  · rw [e3] at h2
    have v := hV.2.2.2.1 b h1 h2
    have w := hB b h1 h2
    rw [ep, w.1]
    exact ⟨v.1, w.2⟩
  · rw [e4] at h2
    exact hF f h1 h2
theorem n_up {k i : Nat} {z : Int} (h : k < 17) : nA (up W k i z) = nA W ∧ nS (up W k i z) = nS W ∧ nB (up W k i z) = nB W ∧ sg (up W k i z) = sg W ∧ pe (up W k i z) = pe W ∧ tm (up W k i z) = tm W := ⟨nA_up h, nS_up h, nB_up h, sg_up h, pe_up h, tm_up h⟩
theorem Val_up (hV : Val W) {k : Nat} {i z : Int} (hi : 0 ≤ i) (hk : (k = 2 ∧ (z = 0 ∨ z = 1)) ∨ (k = 3 ∧ 0 ≤ z ∧ z ≤ 2) ∨ (k = 4 ∧ 1 ≤ z ∧ z ≤ 999) ∨ (k = 6 ∧ 0 ≤ z ∧ z ≤ pgs W) ∨ (k = 11 ∧ (z = 0 ∨ (1 ≤ z ∧ z + at_ W 7 i - 1 ≤ pgs W))) ∨ (k = 13 ∧ 0 ≤ z ∧ z ≤ pgs W) ∨ (k = 14 ∧ (z = 0 ∨ z = 1)) ∨ (k = 15 ∧ (z = 0 ∨ z = 1)) ∨ (k = 16 ∧ (z = -1 ∨ (1 ≤ z ∧ z ≤ 9999)))) : Val (up W k i.toNat z) := by
  have e : ∀ (k' : Nat) (a : Int), 0 ≤ a → at_ (up W k i.toNat z) k' a = if k' = k ∧ a = i then z else at_ W k' a := by
    intro k' a ha
    rw [at_up]
    by_cases c : k' = k ∧ a = i
    · rw [if_pos c, if_pos ⟨c.1, by rw [c.2]⟩]
    · rw [if_neg c, if_neg (fun q => c ⟨q.1, by omega⟩)]
  refine Val.mk' (n_up (by omega)) hV (fun a h1 h2 => ?_) (fun a h1 h2 => ?_) (fun a h1 h2 => ?_) (fun a h1 h2 => ?_)
  · have v := hV.2.1 a h1 h2
    simp only [e _ a h1]
    refine ⟨⟨?_, ?_⟩, ?_, ?_, ?_, ?_, ?_⟩
    · rw [if_neg (by omega)]
    · rw [if_neg (by omega)]
    · split <;> omega
    · split <;> omega
    · split <;> omega
    · rw [if_neg (by omega)]
    · split <;> omega
  · have v := hV.2.2.1 a h1 h2
    simp only [e _ a h1]
    refine ⟨⟨?_, ?_, ?_, ?_⟩, ?_⟩
    · rw [if_neg (by omega)]
    · rw [if_neg (by omega)]
    · rw [if_neg (by omega)]
    · rw [if_neg (by omega)]
    · by_cases c : 11 = k ∧ a = i
      · rw [if_pos c]
        obtain ⟨rfl, rfl⟩ := c
        omega
      · rw [if_neg c]; exact v.2.2.2.2
  · have v := hV.2.2.2.1 a h1 h2
    simp only [e _ a h1]
    refine ⟨?_, ?_⟩
    · rw [if_neg (by omega)]
    · split <;> omega
  · have v := hV.2.2.2.2 a h1 h2
    simp only [e _ a h1]
    refine ⟨?_, ?_, ?_⟩ <;> (split <;> omega)
/-! pages of ads -/
theorem rawR_setA {i p q b : Int} (hi : 0 ≤ i) : rawR (up W 6 i.toNat p) q i b = rawR W q i b := by
  unfold rawR sumA sumB
  rw [nA_up (by decide), nB_up (by decide)]
  congr 1
  · congr 1
    refine sumR_congr (fun j h1 h2 => ?_)
    unfold szA
    rw [at_upe h1 hi, at_upn (k' := 0) (by decide)]
    by_cases c : j = i
    · rw [if_neg (fun z => z.1 c), if_neg (fun z => z.1 c)]
    · rw [if_neg c]
theorem cov_up {k i : Nat} {z : Int} (h : k ≠ 11) (h7 : k ≠ 7) (s q : Int) : cov (up W k i z) s q = cov W s q := by
  unfold cov
  rw [at_upn (k' := 11) (fun e => h e.symm), at_upn (k' := 7) (fun e => h7 e.symm)]
theorem stOn_up {k i : Nat} {z : Int} (h : k ≠ 11) (h7 : k ≠ 7) (h17 : k < 17) (q b : Int) : stOn (up W k i z) q b = stOn W q b := by
  unfold stOn
  rw [nS_up h17]
  exact fstR_congr (fun s _ _ => by rw [cov_up h h7])
theorem fOf_up {k i : Nat} {z : Int} (h17 : k < 17) (q : Int) : fOf (up W k i z) q = fOf W q := by
  unfold fOf
  rw [pe_up h17]
theorem coP_up {k i : Nat} {z : Int} (h17 : k < 17) (h : k ≠ 14) (q : Int) : coP (up W k i z) q = coP W q := by
  unfold coP
  rw [fOf_up h17, at_upn (fun e => h e.symm)]
theorem prP_up {k i : Nat} {z : Int} (h17 : k < 17) (h : k ≠ 15) (q : Int) : prP (up W k i z) q = prP W q := by
  unfold prP
  rw [fOf_up h17, at_upn (fun e => h e.symm)]
theorem rivl_iff {a s : Int} : rivl W a s = true ↔ at_ W 1 a ≠ 0 ∧ ∃ o, 0 ≤ o ∧ o < nA W ∧ o ≠ a ∧ 0 < at_ W 6 o ∧ at_ W 6 o / 2 = s ∧ at_ W 1 o = at_ W 1 a := by
  unfold rivl anyA
  rw [Bool.and_eq_true, decide_eq_true_eq, anyR_iff]
  constructor
  · rintro ⟨⟨o, h1, h2, h3⟩, h4⟩
    have h3 := of_decide_eq_true h3
    exact ⟨h4, o, h1, by omega, h3.1, h3.2.1, h3.2.2.1, h3.2.2.2⟩
  · rintro ⟨h4, o, h1, h2, h3⟩
    exact ⟨⟨o, h1, by omega, decide_eq_true h3⟩, h4⟩
theorem rivl_no {a s : Int} (h : ¬ (at_ W 1 a ≠ 0 ∧ ∃ o, 0 ≤ o ∧ o < nA W ∧ o ≠ a ∧ 0 < at_ W 6 o ∧ at_ W 6 o / 2 = s ∧ at_ W 1 o = at_ W 1 a)) : rivl W a s = false := by
  cases e : rivl W a s
  · rfl
  · exact absurd (rivl_iff.mp e) h
theorem Good_setA (hG : Good W) {a p : Int} (ha : 0 ≤ a ∧ a < nA W) (hp : 0 ≤ p ∧ p ≤ pgs W) (hc : p = 0 ∨ (stOn W p (-1) = -1 ∧ at_ W 0 a ≤ rawR W p a (-1) ∧ (at_ W 2 a = 1 → coP W p = true) ∧ onSd p (at_ W 3 a) = true ∧ rivl W a (p / 2) = false)) : Good (up W 6 a.toNat p) := by
  obtain ⟨hV, hW, hF, hD⟩ := hG
  have hV' : Val (up W 6 a.toNat p) := Val_up hV ha.1 (.inr (.inr (.inr (.inl ⟨rfl, hp⟩))))
  have e6 : ∀ x, 0 ≤ x → at_ (up W 6 a.toNat p) 6 x = if x = a then p else at_ W 6 x := fun x hx => at_upe hx ha.1
  refine ⟨hV', ⟨fun q q1 q2 => ?_, fun s s1 s2 q qc => ?_⟩, fun x x1 x2 x3 => ?_, fun f f1 f2 f3 => ?_⟩
  · rw [pgs_up (by decide)] at q2
    have r1 := rawR_but hV' (p := q) (a := a) (b := -1) (by rw [nA_up (by decide)]; exact ha)
    have r2 := rawR_but hV (p := q) (a := a) (b := -1) ha
    rw [rawR_setA ha.1, e6 a ha.1, if_pos rfl, at_upn (k' := 0) (by decide)] at r1
    have r3 := hW.1 q q1 q2
    have v := hV.2.1 a ha.1 ha.2
    by_cases c : p = q
    · rw [if_pos c] at r1
      have c2 : at_ W 0 a ≤ rawR W p a (-1) := by
        rcases hc with hc | hc
        · omega
        · exact hc.2.1
      rw [c] at c2
      omega
    · rw [if_neg c] at r1
      split at r2 <;> omega
  · rw [nS_up (by decide)] at s2
    rw [cov_up (by decide) (by decide)] at qc
    have w := hW.2 s s1 s2 q qc
    refine ⟨fun x x1 x2 => ?_, fun b b1 b2 => ?_, fun t t1 t2 t3 => ?_⟩
    · rw [nA_up (by decide)] at x2
      rw [e6 x x1]
      by_cases c : x = a
      · rw [if_pos c]
        intro e
        rcases hc with hc | hc
        · have := of_decide_eq_true qc
          have := hV.2.2.1 s s1 s2
          omega
        · rw [e, stOn_cov hV hW ⟨s1, s2⟩ qc] at hc
          omega
      · rw [if_neg c]; exact w.1 x x1 x2
    · rw [nB_up (by decide)] at b2
      rw [at_upn (k' := 13) (by decide)]
      exact w.2.1 b b1 b2
    · rw [nS_up (by decide)] at t2
      rw [cov_up (by decide) (by decide)]
      exact w.2.2 t t1 t2 t3
  · rw [nA_up (by decide)] at x2
    rw [e6 x x1] at x3 ⊢
    rw [at_upn (k' := 2) (by decide), at_upn (k' := 3) (by decide), coP_up (by decide) (by decide)]
    by_cases c : x = a
    · subst c
      rw [if_pos rfl] at x3 ⊢
      rcases hc with hc | hc
      · omega
      · refine ⟨hc.2.2.1, hc.2.2.2.1, rivl_no ?_⟩
        rintro ⟨g1, o, o1, o2, o3, o4, o5, o6⟩
        rw [nA_up (by decide)] at o2
        rw [e6 o o1, if_neg o3] at o4 o5
        rw [at_upn (k' := 1) (by decide), at_upn (k' := 1) (by decide)] at o6
        rw [at_upn (k' := 1) (by decide)] at g1
        have q := rivl_iff.mpr (⟨g1, o, o1, o2, o3, o4, o5, o6⟩ : at_ W 1 x ≠ 0 ∧ _)
        rw [hc.2.2.2.2] at q; cases q
    · rw [if_neg c] at x3 ⊢
      have f := hF x x1 x2 x3
      refine ⟨f.1, f.2.1, rivl_no ?_⟩
      rintro ⟨g1, o, o1, o2, o3, o4, o5, o6⟩
      rw [nA_up (by decide)] at o2
      rw [at_upn (k' := 1) (by decide), at_upn (k' := 1) (by decide)] at o6
      rw [at_upn (k' := 1) (by decide)] at g1
      rw [e6 o o1] at o4 o5
      by_cases d : o = a
      · rw [if_pos d] at o4 o5
        rcases hc with hc | hc
        · omega
        · have q := rivl_iff.mpr (⟨by rw [← d, o6]; exact g1, x, x1, x2, c, x3, o5.symm, by rw [← d, o6]⟩ : at_ W 1 a ≠ 0 ∧ _)
          rw [hc.2.2.2.2] at q; cases q
      · rw [if_neg d] at o4 o5
        have q := rivl_iff.mpr (⟨g1, o, o1, o2, o3, o4, o5, o6⟩ : at_ W 1 x ≠ 0 ∧ _)
        rw [f.2.2] at q; cases q
  · have ef : frm (up W 6 a.toNat p) = frm W := by unfold frm; rw [sg_up (by decide)]
    rw [ef] at f2
    rw [at_upn (k' := 15) (by decide)] at f3
    rw [at_upn (k' := 16) (by decide), tm_up (by decide)]
    exact hD f f1 f2 f3
theorem reas0 (hV : Val W) {a p : Int} (ha : 0 ≤ a ∧ a < nA W) (h : reas W a p = 0) : (1 ≤ p ∧ p ≤ pgs W) ∧ prP W p = false ∧ stOn W p (-1) = -1 ∧ at_ W 0 a ≤ rawR W p a (-1) ∧ (at_ W 2 a = 1 → coP W p = true) ∧ onSd p (at_ W 3 a) = true ∧ rivl W a (p / 2) = false := by
  have v := hV.2.1 a ha.1 ha.2
  unfold reas at h
  by_cases c0 : isP W p = true
  · rw [if_pos c0] at h
    by_cases c1 : prP W p = true
    · rw [if_pos c1] at h; omega
    · rw [if_neg c1] at h
      by_cases c2 : lefO W p a (-1) < at_ W 0 a
      · rw [if_pos c2] at h; omega
      · rw [if_neg c2] at h
        by_cases c3 : at_ W 2 a = 1 ∧ coP W p = false
        · rw [if_pos c3] at h; omega
        · rw [if_neg c3] at h
          by_cases c4 : onSd p (at_ W 3 a) = true
          · rw [if_pos c4] at h
            by_cases c5 : rivl W a (p / 2) = true
            · rw [if_pos c5] at h; omega
            · have c6 : stOn W p (-1) = -1 := by
                by_cases d : stOn W p (-1) = -1
                · exact d
                · unfold lefO at c2; rw [if_neg d] at c2; omega
              refine ⟨isP_b c0, Bool.eq_false_iff.mpr c1, c6, ?_, fun d => ?_, c4, Bool.eq_false_iff.mpr c5⟩
              · unfold lefO at c2
                rw [if_pos c6, room_raw hV] at c2
                omega
              · cases e : coP W p
                · exact absurd ⟨d, e⟩ c3
                · rfl
          · rw [if_neg c4] at h; omega
  · rw [if_neg c0] at h; omega
theorem Good_put (hG : Good W) {a p : Int} (ha : 0 ≤ a ∧ a < nA W) (h : reas W a p = 0) : Good (up W 6 a.toNat p) := by
  have q := reas0 hG.1 ha h
  exact Good_setA hG ha (by omega) (.inr q.2.2)
theorem Good_take (hG : Good W) {a : Int} (ha : 0 ≤ a ∧ a < nA W) : Good (up W 6 a.toNat 0) := Good_setA hG ha ⟨Int.le_refl _, by have := hG.1.z; omega⟩ (.inl rfl)
/-! rows that no plan's soundness asks for -/
theorem Good_other (hG : Good W) {k : Nat} {i z : Int} (hi : 0 ≤ i) (hk : (k = 2 ∧ (z = 0 ∨ z = 1) ∧ at_ W 6 i = 0) ∨ (k = 3 ∧ (0 ≤ z ∧ z ≤ 2) ∧ at_ W 6 i = 0) ∨ (k = 4 ∧ 1 ≤ z ∧ z ≤ 999) ∨ (k = 15 ∧ z = 1) ∨ (k = 16 ∧ (1 ≤ z ∧ z ≤ 9999) ∧ tm W < z)) : Good (up W k i.toNat z) := by
  obtain ⟨hV, hW, hF, hD⟩ := hG
  have k17 : k < 17 := by omega
  have hV' : Val (up W k i.toNat z) := Val_up hV hi (by omega)
  have nk : ∀ k', k' ≠ k → ∀ x, at_ (up W k i.toNat z) k' x = at_ W k' x := fun k' h x => at_upn h
  have ef : frm (up W k i.toNat z) = frm W := by unfold frm; rw [sg_up k17]
  have hriv : ∀ x s, rivl (up W k i.toNat z) x s = rivl W x s := by
    intro x s
    unfold rivl anyA
    rw [nA_up k17, nk 1 (by omega)]
    congr 1
    exact anyR_congr (fun j _ _ => by rw [nk 6 (by omega), nk 1 (by omega)])
  refine ⟨hV', ⟨fun q q1 q2 => ?_, fun s s1 s2 q qc => ?_⟩, fun x x1 x2 x3 => ?_, fun f f1 f2 f3 => ?_⟩
  · rw [pgs_up k17] at q2
    have e : rawR (up W k i.toNat z) q (-1) (-1) = rawR W q (-1) (-1) := by
      unfold rawR sumA sumB szA szB
      rw [nA_up k17, nB_up k17]
      simp only [nk 6 (by omega), nk 0 (by omega), nk 13 (by omega), nk 12 (by omega)]
    rw [e]; exact hW.1 q q1 q2
  · rw [nS_up k17] at s2
    rw [cov_up (by omega) (by omega)] at qc
    have w := hW.2 s s1 s2 q qc
    refine ⟨fun x x1 x2 => ?_, fun b b1 b2 => ?_, fun t t1 t2 t3 => ?_⟩
    · rw [nA_up k17] at x2
      rw [nk 6 (by omega)]; exact w.1 x x1 x2
    · rw [nB_up k17] at b2
      rw [nk 13 (by omega)]; exact w.2.1 b b1 b2
    · rw [nS_up k17] at t2
      rw [cov_up (by omega) (by omega)]; exact w.2.2 t t1 t2 t3
  · rw [nA_up k17] at x2
    rw [nk 6 (by omega)] at x3 ⊢
    have f := hF x x1 x2 x3
    rw [hriv, coP_up k17 (by omega)]
    have n1 : ∀ k', (k' = 2 ∨ k' = 3) → at_ (up W k i.toNat z) k' x = at_ W k' x := by
      intro k' hk'
      by_cases c : k' = k
      · by_cases d : x = i
        · subst d; omega
        · rw [at_up, if_neg (fun q => d (by omega))]
      · exact nk k' c x
    rw [n1 2 (.inl rfl), n1 3 (.inr rfl)]
    exact f
  · rw [ef] at f2
    rw [tm_up k17]
    by_cases c : k = 15 ∧ f = i
    · rw [c.1, c.2, at_up, if_pos ⟨rfl, rfl⟩] at f3
      omega
    · have e15 : at_ (up W k i.toNat z) 15 f = at_ W 15 f := by rw [at_up, if_neg (fun q => c ⟨q.1.symm, by omega⟩)]
      rw [e15] at f3
      by_cases d : k = 16 ∧ f = i
      · right
        rw [d.1, d.2, at_up, if_pos ⟨rfl, rfl⟩]
        omega
      · rw [at_up, if_neg (fun q => d ⟨q.1.symm, by omega⟩)]
        exact hD f f1 f2 f3
end Goods

