/-! TWO PAGES EXCHANGED -/
def exF (p q x : Int) : Int := if x = p then q else if x = q then p else x
def flR (W : Vw) (a : Int) : Int := if at_ W 2 a = 1 ∧ coP W (at_ W 6 a) = false then 4 else if onSd (at_ W 6 a) (at_ W 3 a) = true then (if rivl W a (at_ W 6 a / 2) = true then 6 else 0) else 5
def exS (W : Vw) (p q i m : Int) : Int := if at_ W 6 i = p ∨ at_ W 6 i = q then (if flR W i = 0 then m else if flR W i < m then flR W i else m) else m
def exM (W : Vw) (p q : Int) : Int := itR (exS W p q) 0 (nA W).toNat 1000000
def exR (W : Vw) (p q : Int) : Int := if prP W p = true ∨ prP W q = true then 2 else if stOn W p (-1) ≠ -1 ∨ stOn W q (-1) ≠ -1 then 3 else if exM (mpV W (exF p q)) p q = 1000000 then 0 else exM (mpV W (exF p q)) p q
section Exch
variable {S T : St} {W : Vw} {p q : Int}
theorem exF_inv : ∀ x, exF p q (exF p q x) = x := by
  intro x
  unfold exF
  repeat' split
  all_goals omega
theorem exF_b (hp : 1 ≤ p ∧ p ≤ pgs W) (hq : 1 ≤ q ∧ q ≤ pgs W) : ∀ x, 0 ≤ x → x ≤ pgs W → 0 ≤ exF p q x ∧ exF p q x ≤ pgs W := by
  intro x h1 h2
  unfold exF
  repeat' split
  all_goals omega
theorem flR_v {a : Int} : flR W a = 0 ∨ (4 ≤ flR W a ∧ flR W a ≤ 6) := by
  unfold flR
  repeat' split
  all_goals omega
theorem flR_0 {a : Int} (h : flR W a = 0) : (at_ W 2 a = 1 → coP W (at_ W 6 a) = true) ∧ onSd (at_ W 6 a) (at_ W 3 a) = true ∧ rivl W a (at_ W 6 a / 2) = false := by
  unfold flR at h
  by_cases c1 : at_ W 2 a = 1 ∧ coP W (at_ W 6 a) = false
  · rw [if_pos c1] at h; omega
  · rw [if_neg c1] at h
    by_cases c2 : onSd (at_ W 6 a) (at_ W 3 a) = true
    · rw [if_pos c2] at h
      by_cases c3 : rivl W a (at_ W 6 a / 2) = true
      · rw [if_pos c3] at h; omega
      · refine ⟨fun e => ?_, c2, Bool.eq_false_iff.mpr c3⟩
        cases e2 : coP W (at_ W 6 a)
        · exact absurd ⟨e, e2⟩ c1
        · rfl
    · rw [if_neg c2] at h; omega
theorem exM_v : exM W p q = 1000000 ∨ (4 ≤ exM W p q ∧ exM W p q ≤ 6) := by
  refine itR_inv (I := fun _ m => m = 1000000 ∨ (4 ≤ m ∧ m ≤ 6)) (fun j m _ _ h => ?_) (.inl rfl)
  have v := flR_v (W := W) (a := j)
  unfold exS
  repeat' split
  all_goals omega
theorem exM_all : ∀ {n : Nat} {i m : Int}, itR (exS W p q) i n m = 1000000 ↔ m = 1000000 ∧ ∀ j, i ≤ j → j < i + n → (at_ W 6 j = p ∨ at_ W 6 j = q) → flR W j = 0
  | 0, i, m => ⟨fun h => ⟨h, fun j h1 h2 => by omega⟩, fun h => h.1⟩
  | n + 1, i, m => by
    have pv := flR_v (W := W) (a := i)
    show itR (exS W p q) (i + 1) n (exS W p q i m) = 1000000 ↔ _
    rw [exM_all (n := n)]
    unfold exS
    constructor
    · rintro ⟨h1, h2⟩
      by_cases c : at_ W 6 i = p ∨ at_ W 6 i = q
      · rw [if_pos c] at h1
        by_cases d : flR W i = 0
        · rw [if_pos d] at h1
          refine ⟨h1, fun j j1 j2 j3 => ?_⟩
          by_cases e : j = i
          · rw [e]; exact d
          · exact h2 j (by omega) (by omega) j3
        · rw [if_neg d] at h1
          by_cases d2 : flR W i < m
          · rw [if_pos d2] at h1; omega
          · rw [if_neg d2] at h1; omega
      · rw [if_neg c] at h1
        refine ⟨h1, fun j j1 j2 j3 => ?_⟩
        by_cases e : j = i
        · rw [e] at j3; exact absurd j3 c
        · exact h2 j (by omega) (by omega) j3
    · rintro ⟨h1, h2⟩
      refine ⟨?_, fun j j1 j2 j3 => h2 j (by omega) (by omega) j3⟩
      by_cases c : at_ W 6 i = p ∨ at_ W 6 i = q
      · rw [if_pos c, if_pos (h2 i (by omega) (by omega) c)]; exact h1
      · rw [if_neg c]; exact h1
theorem Good_exch (hG : Good W) (hp : 1 ≤ p ∧ p ≤ pgs W) (hq : 1 ≤ q ∧ q ≤ pgs W) (h0 : exR W p q = 0) : Good (mpV W (exF p q)) := by
  obtain ⟨hV, hW, hF, hD⟩ := hG
  have hb := exF_b hp hq
  have n1 : nA (mpV W (exF p q)) = nA W := mp_n.1
  have n2 : nS (mpV W (exF p q)) = nS W := mp_n.2.1
  have n3 : nB (mpV W (exF p q)) = nB W := mp_n.2.2.1
  have n4 : sg (mpV W (exF p q)) = sg W := mp_n.2.2.2.1
  have n5 : pe (mpV W (exF p q)) = pe W := mp_n.2.2.2.2.1
  have n6 : tm (mpV W (exF p q)) = tm W := mp_n.2.2.2.2.2
  have ep : pgs (mpV W (exF p q)) = pgs W := mp_pgs
  have z := hV.z
  have o : ∀ (k : Nat) (a : Int), k ≠ 6 → k ≠ 13 → at_ (mpV W (exF p q)) k a = at_ W k a := fun k a h1 h2 => mp_ao h1 h2 a
  have hV' : Val (mpV W (exF p q)) := Val_mapP hV hb
  have ec : ∀ t x, cov (mpV W (exF p q)) t x = cov W t x := fun t x => by unfold cov; rw [o 11 t (by decide) (by decide), o 7 t (by decide) (by decide)]
  have eco : ∀ x, coP (mpV W (exF p q)) x = coP W x := fun x => by unfold coP fOf; rw [n5, o 14 _ (by decide) (by decide)]
  have iff' : ∀ x y, exF p q x = y ↔ x = exF p q y := fun x y => ⟨fun e => by rw [← e, exF_inv], fun e => by rw [e, exF_inv]⟩
  have hst : stOn W p (-1) = -1 ∧ stOn W q (-1) = -1 ∧ exM (mpV W (exF p q)) p q = 1000000 := by
    have v := exM_v (W := mpV W (exF p q)) (p := p) (q := q)
    unfold exR at h0
    by_cases c1 : prP W p = true ∨ prP W q = true
    · rw [if_pos c1] at h0; omega
    · rw [if_neg c1] at h0
      by_cases c2 : stOn W p (-1) ≠ -1 ∨ stOn W q (-1) ≠ -1
      · rw [if_pos c2] at h0; omega
      · rw [if_neg c2] at h0
        by_cases c3 : exM (mpV W (exF p q)) p q = 1000000
        · exact ⟨by omega, by omega, c3⟩
        · rw [if_neg c3] at h0; omega
  have nst : ∀ t, 0 ≤ t → t < nS W → cov W t p = false ∧ cov W t q = false := by
    intro t t1 t2
    constructor
    · rcases stOn_spec hV (p := p) (but := -1) with ⟨g1, g2⟩ | ⟨g1, g2, g3, g4⟩
      · exact g2 t t1 t2 (by omega)
      · omega
    · rcases stOn_spec hV (p := q) (but := -1) with ⟨g1, g2⟩ | ⟨g1, g2, g3, g4⟩
      · exact g2 t t1 t2 (by omega)
      · omega
  have hfl : ∀ a, 0 ≤ a → a < nA W → (exF p q (at_ W 6 a) = p ∨ exF p q (at_ W 6 a) = q) → flR (mpV W (exF p q)) a = 0 := by
    intro a a1 a2 a3
    exact (exM_all.mp hst.2.2).2 a a1 (by rw [n1]; omega) (by rw [mpV_6 ⟨a1, a2⟩]; exact a3)
  refine ⟨hV', ⟨fun x q1 q2 => ?_, fun t t1 t2 x qc => ?_⟩, fun a a1 a2 a3 => ?_, fun f f1 f2 f3 => ?_⟩
  · rw [ep] at q2
    have fx := hb x (by omega) q2
    have fx1 : 1 ≤ exF p q x := by unfold exF; repeat' split; all_goals omega
    have r := hW.1 (exF p q x) fx1 fx.2
    have e : rawR (mpV W (exF p q)) x (-1) (-1) = rawR W (exF p q x) (-1) (-1) := by
      unfold rawR sumA sumB
      rw [n1, n3]
      congr 1
      · congr 1
        refine sumR_congr (fun j h1 h2 => ?_)
        unfold szA
        rw [mpV_6 ⟨h1, by omega⟩, o 0 j (by decide) (by decide)]
        simp only [iff']
      · refine sumR_congr (fun j h1 h2 => ?_)
        unfold szB
        rw [mpV_13 ⟨h1, by omega⟩, o 12 j (by decide) (by decide)]
        simp only [iff']
    rw [e]; exact r
  · rw [n2] at t2
    rw [ec] at qc
    have w := hW.2 t t1 t2 x qc
    have ns := nst t t1 t2
    have xp : x ≠ p := fun e => by rw [e, ns.1] at qc; cases qc
    have xq : x ≠ q := fun e => by rw [e, ns.2] at qc; cases qc
    have fx : exF p q x = x := by unfold exF; rw [if_neg xp, if_neg xq]
    refine ⟨fun a a1 a2 => ?_, fun b b1 b2 => ?_, fun t' u1 u2 u3 => ?_⟩
    · rw [n1] at a2
      rw [mpV_6 ⟨a1, a2⟩]
      intro e
      rw [iff', fx] at e
      exact w.1 a a1 a2 e
    · rw [n3] at b2
      rw [mpV_13 ⟨b1, b2⟩]
      intro e
      rw [iff', fx] at e
      exact w.2.1 b b1 b2 e
    · rw [n2] at u2
      rw [ec]; exact w.2.2 t' u1 u2 u3
  · rw [n1] at a2
    by_cases c : exF p q (at_ W 6 a) = p ∨ exF p q (at_ W 6 a) = q
    · have q0 := flR_0 (hfl a a1 a2 c)
      exact q0
    · have e6 : at_ (mpV W (exF p q)) 6 a = exF p q (at_ W 6 a) := mpV_6 ⟨a1, a2⟩
      have e6' : exF p q (at_ W 6 a) = at_ W 6 a := by
        unfold exF at c ⊢
        by_cases d1 : at_ W 6 a = p
        · rw [if_pos d1] at c; omega
        · rw [if_neg d1] at c ⊢
          by_cases d2 : at_ W 6 a = q
          · rw [if_pos d2] at c; omega
          · rw [if_neg d2]
      rw [e6, e6'] at a3 ⊢
      rw [o 2 a (by decide) (by decide), o 3 a (by decide) (by decide), eco]
      have q0 := hF a a1 a2 a3
      refine ⟨q0.1, q0.2.1, rivl_no ?_⟩
      rintro ⟨g1, x, x1, x2, x3, x4, x5, x6⟩
      rw [n1] at x2
      by_cases d : exF p q (at_ W 6 x) = p ∨ exF p q (at_ W 6 x) = q
      · have r0 := (flR_0 (hfl x x1 x2 d)).2.2
        have := (rivl_iff (W := mpV W (exF p q)) (a := x) (s := at_ (mpV W (exF p q)) 6 x / 2)).mpr ⟨by rw [x6]; exact g1, a, a1, by rw [n1]; exact a2, fun e => x3 e.symm, by rw [e6, e6']; exact a3, by rw [e6, e6', x5], x6.symm⟩
        rw [r0] at this; cases this
      · have x6' : exF p q (at_ W 6 x) = at_ W 6 x := by
          unfold exF at d ⊢
          by_cases d1 : at_ W 6 x = p
          · rw [if_pos d1] at d; omega
          · rw [if_neg d1] at d ⊢
            by_cases d2 : at_ W 6 x = q
            · rw [if_pos d2] at d; omega
            · rw [if_neg d2]
        rw [mpV_6 ⟨x1, x2⟩, x6'] at x4 x5
        rw [o 1 a (by decide) (by decide)] at g1 x6
        rw [o 1 x (by decide) (by decide)] at x6
        have := rivl_iff.mpr (⟨g1, x, x1, x2, x3, x4, x5, x6⟩ : at_ W 1 a ≠ 0 ∧ _)
        rw [q0.2.2] at this; cases this
  · have ef : frm (mpV W (exF p q)) = frm W := by unfold frm; rw [n4]
    rw [ef] at f2
    rw [o 15 f (by decide) (by decide)] at f3
    rw [o 16 f (by decide) (by decide), n6]
    exact hD f f1 f2 f3
/-! the class's reason -/
theorem F_exchanged {x : Int} : fn_Plan_exchanged x p q S = some (exF p q x) := by
  unfold fn_Plan_exchanged exF
  split
  · rfl
  · split <;> rfl
theorem F_rivals (h : PT S 5 W) {a b : Int} (ha : 0 ≤ a ∧ a < nA W) (hb : 0 ≤ b ∧ b < nA W) : fn_Ads_areRivals 7 a b S = some (decide (a ≠ b ∧ at_ W 1 a ≠ 0 ∧ at_ W 1 a = at_ W 1 b)) := by
  have z := h.pl.b
  have ea : g S 9 a.toNat = at_ W 1 a := h.pl.a1 ha
  have eb : g S 9 b.toNat = at_ W 1 b := h.pl.a1 hb
  unfold fn_Ads_areRivals
  rw [tg_7_1, ea, eb]
  by_cases c1 : a = b
  · rw [if_pos c1, decide_eq_false (fun q => q.1 c1)]
  · rw [if_neg c1, if_pos (by omega : 0 ≤ a ∧ a < 40)]
    by_cases c2 : at_ W 1 a = 0
    · rw [if_pos c2, decide_eq_false (fun q => q.2.1 c2)]
    · rw [if_neg c2, if_pos (by omega : 0 ≤ b ∧ b < 40)]
      by_cases c3 : at_ W 1 a = at_ W 1 b
      · rw [if_pos c3, decide_eq_true ⟨c1, c2, c3⟩]
      · rw [if_neg c3, decide_eq_false (fun q => c3 q.2.2)]
theorem P_exdReason (h : PT S 5 W) (hp : 1 ≤ p ∧ p ≤ pgs W) (hq : 1 ≤ q ∧ q ≤ pgs W) {a : Int} (ha : 0 ≤ a ∧ a < nA W) (hpl : at_ W 6 a = p ∨ at_ W 6 a = q) : fn_Plan_exchangedReason 5 a p q S = some (flR (mpV W (exF p q)) a) := by
  have z := h.v.z
  have v := h.v.2.1 a ha.1 ha.2
  have n1 : nA (mpV W (exF p q)) = nA W := mp_n.1
  have o : ∀ (k : Nat) (x : Int), k ≠ 6 → k ≠ 13 → at_ (mpV W (exF p q)) k x = at_ W k x := fun k x h1 h2 => mp_ao h1 h2 x
  have eco : ∀ x, coP (mpV W (exF p q)) x = coP W x := fun x => by unfold coP fOf; rw [show pe (mpV W (exF p q)) = pe W from mp_n.2.2.2.2.1, o 14 _ (by decide) (by decide)]
  have e6 : g S 14 a.toNat = at_ W 6 a := h.pl.a6 ha
  have e2 : g S 10 a.toNat = at_ W 2 a := h.pl.a2 ha
  have e3 : g S 11 a.toNat = at_ W 3 a := h.pl.a3 ha
  have e7 : g S 7 7 = nA W := h.pl.mA
  obtain ⟨to, eto⟩ : ∃ to, to = exF p q (at_ W 6 a) := ⟨_, rfl⟩
  have tb : 1 ≤ to ∧ to ≤ pgs W := by
    rw [eto]; unfold exF
    rcases hpl with c | c
    · rw [if_pos c]; exact hq
    · by_cases c2 : at_ W 6 a = p
      · rw [if_pos c2]; exact hq
      · rw [if_neg c2, if_pos c]; exact hp
  have e6' : at_ (mpV W (exF p q)) 6 a = to := by rw [mpV_6 ha, eto]
  unfold fn_Plan_exchangedReason flR
  rw [if_pos (by omega : 0 ≤ a ∧ a < 40), tg_5_0, tg_6_0, tg_7_6, tg_7_2, tg_7_3, e6, e2, e3, F_exchanged, bnO_s, ← eto, P_lacksColor h.pl tb.1 tb.2, bnO_s, P_isWrongSide v.2.2.2.1 (by omega) (by omega), bnO_s, e6', o 2 a (by decide) (by decide), o 3 a (by decide) (by decide), eco]
  by_cases c1 : at_ W 2 a = 1 ∧ coP W to = false
  · rw [if_pos c1, decide_eq_true c1.1, c1.2]; rfl
  · rw [if_neg c1, if_neg (by rw [Bool.and_eq_true, decide_eq_true_eq, Bool.not_eq_true']; exact c1 : ¬ (decide (at_ W 2 a = 1) && !coP W to) = true)]
    by_cases c2 : onSd to (at_ W 3 a) = true
    · rw [if_pos c2, c2, if_neg (by decide : ¬ (!true) = true)]
      have q0 := lp_ex (body := fun go p0 => lb_Plan_exchangedReason_67 5 a p q to S go p0) (fun i => decide (a ≠ i ∧ at_ W 1 a ≠ 0 ∧ at_ W 1 a = at_ W 1 i) && decide (exF p q (at_ W 6 i) ≠ 0 ∧ exF p q (at_ W 6 i) / 2 = to / 2)) 6 0 (nA W)
        (fun go i hi => by
          show lb_Plan_exchangedReason_67 5 a p q to S go i = _
          unfold lb_Plan_exchangedReason_67
          rw [tg_5_0, tg_6_0, e7, if_pos hi])
        (fun go i h1 hi => by
          show lb_Plan_exchangedReason_67 5 a p q to S go i = _
          have ei : g S 14 i.toNat = at_ W 6 i := h.pl.a6 ⟨h1, hi⟩
          have vi := h.v.2.1 i h1 hi
          have fb := exF_b hp hq (at_ W 6 i) (by omega) (by omega)
          unfold lb_Plan_exchangedReason_67
          rw [tg_5_0, tg_6_0, e7, if_neg (by omega), if_pos (by omega : 0 ≤ i ∧ i < 40), tg_7_6, ei, F_exchanged, bnO_s, F_rivals h ha ⟨h1, hi⟩, bnO_s]
          simp only [nm_x, wr_s (z := i + 1) (by omega) (by omega), td_n (a := exF p q (at_ W 6 i)) (b := 2) fb.1, td_n (a := to) (b := 2) (by omega), wr_s (z := exF p q (at_ W 6 i) / 2) (by omega) (by omega), wr_s (z := to / 2) (by omega) (by omega)]
          cases decide (a ≠ i ∧ at_ W 1 a ≠ 0 ∧ at_ W 1 a = at_ W 1 i)
          · rfl
          · rw [if_pos rfl, Bool.true_and]
            by_cases d1 : exF p q (at_ W 6 i) = 0
            · rw [if_pos d1, decide_eq_false (fun z => z.1 d1), if_neg Bool.false_ne_true]
            · rw [if_neg d1]
              by_cases d2 : exF p q (at_ W 6 i) / 2 = to / 2
              · rw [if_pos d2, decide_eq_true ⟨d1, d2⟩, if_pos rfl]
              · rw [if_neg d2, decide_eq_false (fun z => d2 z.2), if_neg Bool.false_ne_true]) (n := FU) (Int.le_refl _) (FU_lt (by omega))
      have q2 : lo_Plan_exchangedReason_67 5 a p q to S FU 0 = _ := q0
      rw [q2, Int.sub_zero]
      have key : anyR (fun i => decide (a ≠ i ∧ at_ W 1 a ≠ 0 ∧ at_ W 1 a = at_ W 1 i) && decide (exF p q (at_ W 6 i) ≠ 0 ∧ exF p q (at_ W 6 i) / 2 = to / 2)) 0 (nA W).toNat = rivl (mpV W (exF p q)) a (to / 2) := by
        cases e : rivl (mpV W (exF p q)) a (to / 2)
        · cases e' : anyR (fun i => decide (a ≠ i ∧ at_ W 1 a ≠ 0 ∧ at_ W 1 a = at_ W 1 i) && decide (exF p q (at_ W 6 i) ≠ 0 ∧ exF p q (at_ W 6 i) / 2 = to / 2)) 0 (nA W).toNat
          · rfl
          · obtain ⟨j, j1, j2, j3⟩ := anyR_iff.mp e'
            rw [Bool.and_eq_true, decide_eq_true_eq, decide_eq_true_eq] at j3
            have vj := h.v.2.1 j j1 (by omega)
            have fb := exF_b hp hq (at_ W 6 j) (by omega) (by omega)
            have := (rivl_iff (W := mpV W (exF p q)) (a := a) (s := to / 2)).mpr ⟨by rw [o 1 a (by decide) (by decide)]; exact j3.1.2.1, j, j1, by rw [n1]; omega, fun z => j3.1.1 z.symm, by rw [mpV_6 ⟨j1, by omega⟩]; omega, by rw [mpV_6 ⟨j1, by omega⟩]; exact j3.2.2, by rw [o 1 a (by decide) (by decide), o 1 j (by decide) (by decide)]; exact j3.1.2.2.symm⟩
            rw [e] at this; cases this
        · obtain ⟨g1, x, x1, x2, x3, x4, x5, x6⟩ := rivl_iff.mp e
          rw [n1] at x2
          rw [o 1 a (by decide) (by decide)] at g1 x6
          rw [o 1 x (by decide) (by decide)] at x6
          rw [mpV_6 ⟨x1, x2⟩] at x4 x5
          refine anyR_iff.mpr ⟨x, x1, by omega, ?_⟩
          rw [Bool.and_eq_true, decide_eq_true_eq, decide_eq_true_eq]
          exact ⟨⟨fun z => x3 z.symm, g1, x6.symm⟩, by omega, x5⟩
      rw [key]
      cases rivl (mpV W (exF p q)) a (to / 2) <;> rfl
    · rw [if_neg c2, Bool.eq_false_iff.mpr c2]; rfl
theorem P_exReason (h : PT S 5 W) (hG : Good W) (hp : 1 ≤ p ∧ p ≤ pgs W) (hq : 1 ≤ q ∧ q ≤ pgs W) : fn_Plan_exchangeReason 5 p q S = some (exR W p q) := by
  have z := h.v.z
  have n1 : nA (mpV W (exF p q)) = nA W := mp_n.1
  have e31 : ∀ x, 1 ≤ x → x ≤ pgs W → g S 31 x.toNat = stOn W x (-1) := fun x h1 h2 => h.s h1 h2
  have e7 : g S 7 7 = nA W := h.pl.mA
  have v := exM_v (W := mpV W (exF p q)) (p := p) (q := q)
  unfold fn_Plan_exchangeReason exR
  rw [P_isPrinted1 h.pl hp.1 hp.2, bnO_s, P_isPrinted1 h.pl hq.1 hq.2, bnO_s, if_pos (by omega : 0 ≤ p ∧ p < 65), if_pos (by omega : 0 ≤ q ∧ q < 65), tg_5_6, e31 p hp.1 hp.2, e31 q hq.1 hq.2]
  by_cases c1 : prP W p = true
  · rw [if_pos c1, if_pos (.inl c1 : prP W p = true ∨ prP W q = true)]
  · rw [if_neg c1]
    by_cases c2 : prP W q = true
    · rw [if_pos c2, if_pos (.inr c2 : prP W p = true ∨ prP W q = true)]
    · rw [if_neg c2, if_neg (fun z => z.elim c1 c2 : ¬ (prP W p = true ∨ prP W q = true))]
      by_cases c3 : stOn W p (-1) = -1
      · rw [if_pos c3]
        by_cases c4 : stOn W q (-1) = -1
        · rw [if_pos c4, if_neg (by omega : ¬ (stOn W p (-1) ≠ -1 ∨ stOn W q (-1) ≠ -1))]
          by_cases e0 : p = q
          · -- the same page
            have hid : ∀ x, exF p q x = x := fun x => by unfold exF; split <;> (try split) <;> omega
            have em : exM (mpV W (exF p q)) p q = 1000000 := by
              refine exM_all.mpr ⟨rfl, fun j j1 j2 j3 => ?_⟩
              rw [n1] at j2
              have ew : mpV W (exF p q) = W := by
                have q1 := mpV_inv (W := W) (exF_inv (p := p) (q := q))
                funext k i
                unfold mpV mapP
                by_cases d1 : k = 6 ∧ (i : Int) < nA W
                · rw [if_pos d1, hid, d1.1]
                · rw [if_neg d1]
                  by_cases d2 : k = 13 ∧ (i : Int) < nB W
                  · rw [if_pos d2, hid, d2.1]
                  · rw [if_neg d2]
              rw [ew] at j3 ⊢
              have f := hG.2.2.1 j j1 (by omega) (by omega)
              unfold flR
              rw [if_neg (fun y => by rw [f.1 y.1] at y; cases y.2), if_pos f.2.1, f.2.2, if_neg Bool.false_ne_true]
            rw [if_pos em, show FU = 19999 + 1 from rfl]
            show bnO (lp (fun go p0 => lb_Plan_exchangeReason_45 5 p q S go p0.1 p0.2) (19999 + 1) (0, 0)) _ = _
            rw [lp_succ]
            show bnO (lb_Plan_exchangeReason_45 5 p q S _ 0 0) _ = _
            unfold lb_Plan_exchangeReason_45
            rw [tg_5_0, tg_6_0, e7]
            by_cases d : nA W ≤ 0
            · rw [if_pos d, bnO_s]
            · rw [if_neg d, if_pos e0, bnO_s]
          · have q0 := lp_it (body := fun go p0 => lb_Plan_exchangeReason_45 5 p q S go p0.1 p0.2) (fun i m => (if m = 1000000 then 0 else m, i)) (exS (mpV W (exF p q)) p q) (fun m => if m = 1000000 then 0 else m) (fun i m => 0 ≤ i ∧ (m = 1000000 ∨ (4 ≤ m ∧ m ≤ 6))) (nA W)
              (fun go i m _ hi => by
                show lb_Plan_exchangeReason_45 5 p q S go (if m = 1000000 then 0 else m) i = _
                unfold lb_Plan_exchangeReason_45
                rw [tg_5_0, tg_6_0, e7, if_pos hi])
              (fun go i m hI hi => by
                obtain ⟨hi0, hm⟩ := hI
                have pv := flR_v (W := mpV W (exF p q)) (a := i)
                have ei : g S 14 i.toNat = at_ W 6 i := h.pl.a6 ⟨hi0, hi⟩
                have low : ∀ x, (x = 0 ∨ (4 ≤ x ∧ x ≤ 6)) → fn_Plan_lowerReason (if m = 1000000 then 0 else m) x S = some (if (if x = 0 then m else if x < m then x else m) = 1000000 then 0 else (if x = 0 then m else if x < m then x else m)) := by
                  intro x hx
                  unfold fn_Plan_lowerReason i_min
                  rcases hm with rfl | hm
                  · rw [if_pos rfl, if_pos rfl, wr_s (by omega) (by omega), Int.zero_add]
                    congr 1
                    repeat' split
                    all_goals omega
                  · rw [if_neg (by omega : ¬ m = 1000000), if_neg (by omega : ¬ m = 0), wr_s (by omega) (by omega)]
                    repeat' split
                    all_goals (first | (exfalso; omega) | (congr 1; omega) | rfl)
                refine ⟨?_, by omega, ?_⟩
                · show lb_Plan_exchangeReason_45 5 p q S go (if m = 1000000 then 0 else m) i = go (if exS (mpV W (exF p q)) p q i m = 1000000 then 0 else exS (mpV W (exF p q)) p q i m, i + 1)
                  unfold lb_Plan_exchangeReason_45 exS
                  rw [tg_5_0, tg_6_0, e7, if_neg (by omega), if_neg e0, if_pos (by omega : 0 ≤ i ∧ i < 40), tg_7_6, ei, mpV_6 ⟨hi0, hi⟩]
                  simp only [nm_x, wr_s (z := i + 1) (by omega) (by omega)]
                  by_cases d1 : at_ W 6 i = p ∨ at_ W 6 i = q
                  · have d1' : exF p q (at_ W 6 i) = p ∨ exF p q (at_ W 6 i) = q := by unfold exF; repeat' split; all_goals omega
                    have ed := P_exdReason h hp hq (a := i) ⟨hi0, hi⟩ d1
                    rw [if_pos d1', ed, bnO_s, low _ pv, bnO_s]
                    by_cases d2 : at_ W 6 i = p
                    · rw [if_pos d2]
                    · rw [if_neg d2, if_pos (by omega : at_ W 6 i = q)]
                  · have d1' : ¬ (exF p q (at_ W 6 i) = p ∨ exF p q (at_ W 6 i) = q) := by unfold exF; repeat' split; all_goals omega
                    rw [if_neg d1', if_neg (by omega : ¬ at_ W 6 i = p), if_neg (by omega : ¬ at_ W 6 i = q)]
                · unfold exS
                  repeat' split
                  all_goals omega) (nA W).toNat FU 0 1000000 ⟨Int.le_refl _, .inl rfl⟩ (by omega) (FU_lt (by omega))
            have q2 : lo_Plan_exchangeReason_45 5 p q S FU (0, 0) = some (if exM (mpV W (exF p q)) p q = 1000000 then 0 else exM (mpV W (exF p q)) p q) := by
              unfold exM
              rw [n1]
              exact q0
            rw [q2, bnO_s]
        · rw [if_neg c4, if_pos (.inr c4 : stOn W p (-1) ≠ -1 ∨ stOn W q (-1) ≠ -1)]
      · rw [if_neg c3, if_pos (.inl c3 : stOn W p (-1) ≠ -1 ∨ stOn W q (-1) ≠ -1)]
end Exch

