/-! THE CLASS'S PLAN: p is 5 (the plan) or 33 (the draft) -/
def PQ (p : Nat) : Prop := p = 5 ∨ p = 33
section PlanCells
variable {p : Nat}
theorem tq_0 (h : PQ p) : tgt p 0 = p + 1 := by rcases h with rfl | rfl <;> rfl
theorem tq_3 (h : PQ p) : tgt p 3 = p + 23 := by rcases h with rfl | rfl <;> rfl
theorem tq_4 (h : PQ p) : tgt p 4 = p + 24 := by rcases h with rfl | rfl <;> rfl
theorem tq_5 (h : PQ p) : tgt p 5 = p + 25 := by rcases h with rfl | rfl <;> rfl
theorem tq_6 (h : PQ p) : tgt p 6 = p + 26 := by rcases h with rfl | rfl <;> rfl
theorem tq_7 (h : PQ p) : tgt p 7 = p + 27 := by rcases h with rfl | rfl <;> rfl
theorem tq_A (h : PQ p) : tgt (p + 1) 0 = p + 2 := by rcases h with rfl | rfl <;> rfl
theorem tq_S (h : PQ p) : tgt (p + 1) 1 = p + 10 := by rcases h with rfl | rfl <;> rfl
theorem tq_B (h : PQ p) : tgt (p + 1) 2 = p + 16 := by rcases h with rfl | rfl <;> rfl
theorem tq_F (h : PQ p) : tgt (p + 1) 3 = p + 19 := by rcases h with rfl | rfl <;> rfl
theorem tq_A0 (h : PQ p) : tgt (p + 2) 0 = p + 3 := by rcases h with rfl | rfl <;> rfl
theorem tq_A1 (h : PQ p) : tgt (p + 2) 1 = p + 4 := by rcases h with rfl | rfl <;> rfl
theorem tq_A2 (h : PQ p) : tgt (p + 2) 2 = p + 5 := by rcases h with rfl | rfl <;> rfl
theorem tq_A3 (h : PQ p) : tgt (p + 2) 3 = p + 6 := by rcases h with rfl | rfl <;> rfl
theorem tq_A4 (h : PQ p) : tgt (p + 2) 4 = p + 7 := by rcases h with rfl | rfl <;> rfl
theorem tq_A5 (h : PQ p) : tgt (p + 2) 5 = p + 8 := by rcases h with rfl | rfl <;> rfl
theorem tq_A6 (h : PQ p) : tgt (p + 2) 6 = p + 9 := by rcases h with rfl | rfl <;> rfl
theorem tq_S0 (h : PQ p) : tgt (p + 10) 0 = p + 11 := by rcases h with rfl | rfl <;> rfl
theorem tq_S1 (h : PQ p) : tgt (p + 10) 1 = p + 12 := by rcases h with rfl | rfl <;> rfl
theorem tq_S2 (h : PQ p) : tgt (p + 10) 2 = p + 13 := by rcases h with rfl | rfl <;> rfl
theorem tq_S3 (h : PQ p) : tgt (p + 10) 3 = p + 14 := by rcases h with rfl | rfl <;> rfl
theorem tq_S4 (h : PQ p) : tgt (p + 10) 4 = p + 15 := by rcases h with rfl | rfl <;> rfl
theorem tq_B0 (h : PQ p) : tgt (p + 16) 0 = p + 17 := by rcases h with rfl | rfl <;> rfl
theorem tq_B1 (h : PQ p) : tgt (p + 16) 1 = p + 18 := by rcases h with rfl | rfl <;> rfl
theorem tq_F0 (h : PQ p) : tgt (p + 19) 0 = p + 20 := by rcases h with rfl | rfl <;> rfl
theorem tq_F1 (h : PQ p) : tgt (p + 19) 1 = p + 21 := by rcases h with rfl | rfl <;> rfl
theorem tq_F2 (h : PQ p) : tgt (p + 19) 2 = p + 22 := by rcases h with rfl | rfl <;> rfl
end PlanCells
def PL (S : St) (p : Nat) (W : Vw) : Prop := (PQ p ∧ vC S (p + 1) = W ∧ Val W) ∧ (g S p 1 = pgs W ∧ g S p 2 = frm W) ∧ (∀ q : Int, 1 ≤ q → q ≤ pgs W → g S (p + 23) q.toNat = fOf W q ∧ g S (p + 24) q.toNat = (q - 1) / pe W)
section PlanFacts
variable {S : St} {p : Nat} {W : Vw}
theorem PL.q (h : PL S p W) : PQ p := h.1.1
theorem PL.v (h : PL S p W) : Val W := h.1.2.2
theorem PL.b (h : PL S p W) : (0 ≤ nA W ∧ nA W ≤ 40) ∧ (0 ≤ nS W ∧ nS W ≤ 10) ∧ (0 ≤ nB W ∧ nB W ≤ 8) ∧ (1 ≤ sg W ∧ sg W ≤ 4) ∧ (4 ≤ pe W ∧ pe W ≤ 16) ∧ (0 ≤ tm W ∧ tm W ≤ 9999) ∧ (4 ≤ pgs W ∧ pgs W ≤ 64) := by
  have h2 := h.v.pg
  obtain ⟨h1, h3, h4, h5, h6, h7⟩ := h.v.1
  exact ⟨h1, h3, h4, h5, by omega, h7, h2⟩
theorem PL.gp (h : PL S p W) : g S p 1 = pgs W := h.2.1.1
theorem PL.gf (h : PL S p W) : g S p 2 = frm W := h.2.1.2
theorem PL.fo (h : PL S p W) {q : Int} (h1 : 1 ≤ q) (h2 : q ≤ pgs W) : g S (p + 23) q.toNat = fOf W q := (h.2.2 q h1 h2).1
theorem PL.sO (h : PL S p W) {q : Int} (h1 : 1 ≤ q) (h2 : q ≤ pgs W) : g S (p + 24) q.toNat = (q - 1) / pe W := (h.2.2 q h1 h2).2
theorem PL.mA (h : PL S p W) : g S (p + 2) 7 = nA W := by rw [← h.1.2.1]; rfl
theorem PL.mS (h : PL S p W) : g S (p + 10) 5 = nS W := by rw [← h.1.2.1]; rfl
theorem PL.mB (h : PL S p W) : g S (p + 16) 2 = nB W := by rw [← h.1.2.1]; rfl
theorem PL.msg (h : PL S p W) : g S (p + 1) 4 = sg W := by rw [← h.1.2.1]; rfl
theorem PL.mpe (h : PL S p W) : g S (p + 1) 5 = pe W := by rw [← h.1.2.1]; rfl
theorem PL.mtm (h : PL S p W) : g S (p + 1) 6 = tm W := by rw [← h.1.2.1]; rfl
theorem PL.mlo (h : PL S p W) : g S (p + 1) 7 = lo_ W := by rw [← h.1.2.1]; rfl
theorem PL.ad (h : PL S p W) {a : Int} (ha : 0 ≤ a ∧ a < nA W) (k : Nat) (hk : k < 7) : g S (p + 3 + k) a.toNat = at_ W k a := by
  have q := vC_ad (S := S) (s := p + 1) hk ha.1 (by rw [h.1.2.1]; exact ha.2)
  rw [h.1.2.1] at q
  rw [← q]
theorem PL.st (h : PL S p W) {a : Int} (ha : 0 ≤ a ∧ a < nS W) (k : Nat) (hk : k < 5) : g S (p + 11 + k) a.toNat = at_ W (k + 7) a := by
  have q := vC_st (S := S) (s := p + 1) hk ha.1 (by rw [h.1.2.1]; exact ha.2)
  rw [h.1.2.1] at q
  rw [← q]
theorem PL.sb (h : PL S p W) {a : Int} (ha : 0 ≤ a ∧ a < nB W) (k : Nat) (hk : k < 2) : g S (p + 17 + k) a.toNat = at_ W (k + 12) a := by
  have q := vC_sb (S := S) (s := p + 1) hk ha.1 (by rw [h.1.2.1]; exact ha.2)
  rw [h.1.2.1] at q
  rw [← q]
theorem PL.fm (h : PL S p W) {a : Int} (ha : 0 ≤ a ∧ a < frm W) (k : Nat) (hk : k < 2) : g S (p + 20 + k) a.toNat = at_ W (k + 14) a := by
  have q := vC_fo (S := S) (s := p + 1) hk ha.1 (by rw [h.1.2.1]; exact ha.2)
  rw [h.1.2.1] at q
  rw [← q]
theorem PL.cl0 (h : PL S p W) {a : Int} (ha : 0 ≤ a ∧ a < frm W) : (g S (p + 22) a.toNat = 0 ∧ at_ W 16 a = -1) ∨ (g S (p + 22) a.toNat = at_ W 16 a ∧ 1 ≤ at_ W 16 a ∧ at_ W 16 a ≤ 9999) := by
  have q := vC_cl (S := S) (s := p + 1) ha.1 (by rw [h.1.2.1]; exact ha.2)
  rw [h.1.2.1] at q
  have v := (h.v.2.2.2.2 a ha.1 ha.2).2.2
  have q2 : cl6 (g S (p + 22) a.toNat) = at_ W 16 a := q
  unfold cl6 at q2
  split at q2
  · omega
  · split at q2 <;> omega
theorem PL.cl (h : PL S p W) {a : Int} (ha : 0 ≤ a ∧ a < frm W) : clo (g S (p + 22) a.toNat) = at_ W 16 a := by
  rcases h.cl0 ha with q | q
  · rw [q.1, q.2]; rfl
  · unfold clo; rw [if_neg (by omega), q.1]
theorem PL.a0 (h : PL S p W) {a : Int} (ha : 0 ≤ a ∧ a < nA W) : g S (p + 3) a.toNat = at_ W 0 a := h.ad ha 0 (by decide)
theorem PL.a1 (h : PL S p W) {a : Int} (ha : 0 ≤ a ∧ a < nA W) : g S (p + 4) a.toNat = at_ W 1 a := h.ad ha 1 (by decide)
theorem PL.a2 (h : PL S p W) {a : Int} (ha : 0 ≤ a ∧ a < nA W) : g S (p + 5) a.toNat = at_ W 2 a := h.ad ha 2 (by decide)
theorem PL.a3 (h : PL S p W) {a : Int} (ha : 0 ≤ a ∧ a < nA W) : g S (p + 6) a.toNat = at_ W 3 a := h.ad ha 3 (by decide)
theorem PL.a4 (h : PL S p W) {a : Int} (ha : 0 ≤ a ∧ a < nA W) : g S (p + 7) a.toNat = at_ W 4 a := h.ad ha 4 (by decide)
theorem PL.a5 (h : PL S p W) {a : Int} (ha : 0 ≤ a ∧ a < nA W) : g S (p + 8) a.toNat = at_ W 5 a := h.ad ha 5 (by decide)
theorem PL.a6 (h : PL S p W) {a : Int} (ha : 0 ≤ a ∧ a < nA W) : g S (p + 9) a.toNat = at_ W 6 a := h.ad ha 6 (by decide)
theorem PL.s0 (h : PL S p W) {a : Int} (ha : 0 ≤ a ∧ a < nS W) : g S (p + 11) a.toNat = at_ W 7 a := h.st ha 0 (by decide)
theorem PL.s1 (h : PL S p W) {a : Int} (ha : 0 ≤ a ∧ a < nS W) : g S (p + 12) a.toNat = at_ W 8 a := h.st ha 1 (by decide)
theorem PL.s2 (h : PL S p W) {a : Int} (ha : 0 ≤ a ∧ a < nS W) : g S (p + 13) a.toNat = at_ W 9 a := h.st ha 2 (by decide)
theorem PL.s3 (h : PL S p W) {a : Int} (ha : 0 ≤ a ∧ a < nS W) : g S (p + 14) a.toNat = at_ W 10 a := h.st ha 3 (by decide)
theorem PL.s4 (h : PL S p W) {a : Int} (ha : 0 ≤ a ∧ a < nS W) : g S (p + 15) a.toNat = at_ W 11 a := h.st ha 4 (by decide)
theorem PL.b0 (h : PL S p W) {a : Int} (ha : 0 ≤ a ∧ a < nB W) : g S (p + 17) a.toNat = at_ W 12 a := h.sb ha 0 (by decide)
theorem PL.b1 (h : PL S p W) {a : Int} (ha : 0 ≤ a ∧ a < nB W) : g S (p + 18) a.toNat = at_ W 13 a := h.sb ha 1 (by decide)
theorem PL.f0 (h : PL S p W) {a : Int} (ha : 0 ≤ a ∧ a < frm W) : g S (p + 20) a.toNat = at_ W 14 a := h.fm ha 0 (by decide)
theorem PL.f1 (h : PL S p W) {a : Int} (ha : 0 ≤ a ∧ a < frm W) : g S (p + 21) a.toNat = at_ W 15 a := h.fm ha 1 (by decide)
theorem PL.off {S' : St} {lo hi : Nat} (h : PL S p W) (ho : Off S S' lo hi) (hs : hi ≤ p ∨ p + 25 ≤ lo) : PL S' p W := by
  refine ⟨⟨h.q, ?_, h.v⟩, ⟨?_, ?_⟩, fun q h1 h2 => ⟨?_, ?_⟩⟩
  · rw [vC_off ho (by omega)]; exact h.1.2.1
  · rw [ho.rd (by omega)]; exact h.gp
  · rw [ho.rd (by omega)]; exact h.gf
  · rw [ho.rd (by omega)]; exact h.fo h1 h2
  · rw [ho.rd (by omega)]; exact h.sO h1 h2
end PlanFacts
section PlanLeaves
variable {S : St} {p : Nat} {W : Vw}
theorem isP_b {q : Int} (h : isP W q = true) : 1 ≤ q ∧ q ≤ pgs W := of_decide_eq_true h
theorem P_hasPage (h : PL S p W) {q : Int} : fn_Plan_hasPage p q S = some (isP W q) := by
  unfold fn_Plan_hasPage isP
  rw [h.gp]
  by_cases c1 : q < 1
  · rw [if_pos c1, decide_eq_false (by omega)]
  · rw [if_neg c1]
    by_cases c2 : pgs W < q
    · rw [if_pos c2, decide_eq_false (by omega)]
    · rw [if_neg c2, decide_eq_true (by omega)]
theorem frm_b (hV : Val W) : 2 ≤ frm W ∧ frm W ≤ 8 := by
  obtain ⟨-, -, -, h3, -, -⟩ := hV.1
  have e2 : frm W = 2 * sg W := rfl
  omega
theorem P_isPrinted (h : PL S p W) {q : Int} : fn_Plan_isPrinted p q S = some (isP W q && prP W q) := by
  have b := h.b
  have hq := h.q
  have fb := frm_b h.v
  unfold fn_Plan_isPrinted isP prP
  rw [h.gp]
  by_cases c1 : q < 1
  · rw [if_pos c1, decide_eq_false (by omega), Bool.false_and]
  · rw [if_neg c1]
    by_cases c2 : pgs W < q
    · rw [if_pos c2, decide_eq_false (by omega), Bool.false_and]
    · have q1 := fOf_b h.v (p := q) (by omega) (by omega)
      rw [if_neg c2, if_pos (by omega), decide_eq_true (by omega), Bool.true_and]
      simp only [tq_0 hq, tq_3 hq, tq_F hq, tq_F1 hq, h.fo (q := q) (by omega) (by omega)]
      rw [if_pos (by omega), h.f1 q1]
      split
      · rename_i c; rw [decide_eq_true c]
      · rename_i c; rw [decide_eq_false c]
theorem P_isPrinted1 (h : PL S p W) {q : Int} (h1 : 1 ≤ q) (h2 : q ≤ pgs W) : fn_Plan_isPrinted p q S = some (prP W q) := by
  rw [P_isPrinted h, show isP W q = true from decide_eq_true ⟨h1, h2⟩, Bool.true_and]
theorem P_lacksColor (h : PL S p W) {c q : Int} (h1 : 1 ≤ q) (h2 : q ≤ pgs W) : fn_Plan_lacksColor p c q S = some (decide (c = 1) && !coP W q) := by
  have b := h.b
  have hq := h.q
  have fb := frm_b h.v
  have q1 := fOf_b h.v h1 h2
  have v := (h.v.2.2.2.2 (fOf W q) q1.1 q1.2).1
  unfold fn_Plan_lacksColor coP
  rw [h.gp]
  by_cases c0 : c = 1
  · rw [if_pos c0, if_neg (by omega), if_neg (by omega), if_pos (by omega), decide_eq_true c0, Bool.true_and]
    simp only [tq_0 hq, tq_3 hq, tq_F hq, tq_F0 hq, h.fo h1 h2]
    rw [if_pos (by omega), h.f0 q1]
    split
    · rename_i c; rw [decide_eq_false (by omega)]; rfl
    · rename_i c; rw [decide_eq_true (by omega)]; rfl
  · rw [if_neg c0, decide_eq_false c0, Bool.false_and]
theorem P_isWrongSide {sd q : Int} (hs : 0 ≤ sd ∧ sd ≤ 2) (h1 : 0 ≤ q) (h2 : q ≤ 1000) : fn_Plan_isWrongSide sd q S = some (!onSd q sd) := by
  unfold fn_Plan_isWrongSide onSd
  have e : wr (q.tmod 2) = q % 2 := by rw [tm_n h1, wr_s (by omega) (by omega)]
  simp only [nm_x, e]
  have hs' : sd = 0 ∨ sd = 1 ∨ sd = 2 := by omega
  rcases hs' with rfl | rfl | rfl
  · rw [if_neg (by decide), if_neg (by decide), decide_eq_true (.inl rfl)]; rfl
  · rw [if_pos rfl]
    by_cases c : q % 2 = 0
    · rw [if_pos c, if_neg (by decide), decide_eq_true (.inr (by rw [if_neg (by decide)]; exact c))]; rfl
    · rw [if_neg c, decide_eq_false (fun z => z.elim (by decide) (fun z => c (by rw [if_neg (by decide)] at z; exact z)))]; rfl
  · rw [if_neg (by decide), if_pos rfl]
    by_cases c : q % 2 = 0
    · rw [if_pos c, decide_eq_false (fun z => z.elim (by decide) (fun z => by rw [if_pos rfl] at z; omega))]; rfl
    · rw [if_neg c, decide_eq_true (.inr (by rw [if_pos rfl]; omega))]; rfl
theorem P_isLate (h : PL S p W) {r : Int} : fn_Plan_isLate p r S = some (decide (tm W < r)) := by
  have hq := h.q
  unfold fn_Plan_isLate
  simp only [tq_0 hq, h.mtm]
  split
  · rename_i c; rw [decide_eq_false (by omega)]
  · rename_i c; rw [decide_eq_true (by omega)]
theorem P_formAt (h : PL S p W) {q : Int} : fn_Plan_formAt p q S = some (if isP W q = true then fOf W q else -1) := by
  have b := h.b
  have hq := h.q
  unfold fn_Plan_formAt isP
  rw [h.gp]
  by_cases c1 : q < 1
  · rw [if_pos c1, decide_eq_false (by omega), if_neg (by decide)]
  · rw [if_neg c1]
    by_cases c2 : pgs W < q
    · rw [if_pos c2, decide_eq_false (by omega), if_neg (by decide)]
    · rw [if_neg c2, if_pos (by omega), decide_eq_true (by omega), if_pos rfl, tq_3 hq, h.fo (by omega) (by omega)]
theorem P_formAd (h : PL S p W) {a f : Int} (ha : 0 ≤ a ∧ a < nA W) (hf : 0 ≤ f) : ((if isP W (at_ W 6 a) = true then fOf W (at_ W 6 a) else -1) = f) ↔ onF W a f = true := by
  have v := h.v.2.1 a ha.1 ha.2
  unfold onF isP
  by_cases c : 0 < at_ W 6 a
  · rw [decide_eq_true (by omega), if_pos rfl]
    constructor
    · intro q; exact decide_eq_true ⟨c, q⟩
    · intro q; exact (of_decide_eq_true q).2
  · rw [decide_eq_false (by omega), if_neg (by decide), decide_eq_false (by omega)]
    constructor
    · intro q; omega
    · intro q; cases q
end PlanLeaves

