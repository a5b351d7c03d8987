/-! A PLAN DRAWN FROM THE SCRIPT, WHOLE -/
section PlanW
variable {S : St} {L0 K : List PC} {t0 : Nat}
def each (z : Int) : Int := if z = 0 then 4 else if z = 2 then 16 else 8
def txH (g s : Int) : List Int := litB 13 ++ dg g ++ litB 14 ++ dg s ++ litB 15
theorem txH_len {g s : Int} (h1 : g < 10) (h2 : s < 100) : (txH g s).length ≤ 10 := by
  obtain ⟨q13, q14, q15, q16, q17, q18, q19, q20, q21, q22, q23⟩ := litLen
  have d1 := dg1 h1
  have d2 := dg2 h2
  show (litB 13 ++ dg g ++ litB 14 ++ dg s ++ litB 15).length ≤ 10
  simp only [List.length_append]
  omega
theorem cap8 {d M : Nat} : ∀ {n m : Nat}, n ≤ m → plT d n M ≤ plT d m M := fun {n m} h => by
  induction m with
  | zero => rw [Nat.le_zero.mp h]; exact Nat.le_refl _
  | succ m ih =>
    rcases Nat.lt_or_ge n (m + 1) with c | c
    · exact Nat.le_trans (ih (by omega)) plT_le
    · rw [show n = m + 1 by omega]; exact Nat.le_refl _
/-- the six loops behind the head -/
theorem l_plRest {sc : SC} {a2 x : Int} {U0 : Vw} {tx0 : List Int} {P : PA} {t : Nat} (hsc : (nI sc.2).toInt = (sc.2 : Int)) (hG0 : Good U0) (ht0 : tm U0 = 0) (hn0 : nA U0 = 0 ∧ nS U0 = 0 ∧ nB U0 = 0) (ha : 0 ≤ a2 ∧ a2 ≤ 5000) (hx : 0 ≤ x ∧ x < 2147483648) (h : BI L0 K P t0 t U0 tx0 [] 10) (hK : K.length < 100000000) :
    Ok (bnO (lo2_Law_plan_98 sc t0 a2 x FU (Value.ref t, 0, (S, K))) fun p70 => adC p70.2.1 p70.2.2 (bnO (lo2_Law_plan_175 sc t0 a2 x FU (p70.1.1, 0, (p70.1.2.1, p70.1.2.2))) fun p198 => adC p198.2.1 p198.2.2 (bnO (lo2_Law_plan_456 sc t0 a2 x FU (p198.1.1, 0, (p198.1.2.1, p198.1.2.2))) fun p296 => adC p296.2.1 p296.2.2 (bnO (lo2_Law_plan_662 sc t0 a2 x FU (p296.1.1, 0, (p296.1.2.1, p296.1.2.2))) fun p334 => adC p334.2.1 p334.2.2 (bnO (lo2_Law_plan_761 sc t0 a2 FU (p334.1.1, 0, (p334.1.2.1, p334.1.2.2))) fun p385 => adC p385.2.1 p385.2.2 (bnO (lo2_Law_plan_887 sc t0 a2 FU (p385.1.1, 0, (p385.1.2.1, p385.1.2.2))) fun p441 => adC p441.2.1 p441.2.2 (some ((p441.1.1, (p441.1.2.1, p441.1.2.2)), 0, 0))))))))
      (60 * 8 + (60 * 18 + (60 * 3 + (60 * 5 + (60 * 3 + 60 * 9))))) (plT 9 8 10 + ((plT 18 18 82 + 74 * 18) + ((plT 15 3 406 + 74 * 3) + ((plT 10 5 451 + 74 * 5) + (plT 11 3 501 + plT 10 9 534)))))
      (fun v => ∃ K' t' P' ss, v = (Value.ref t', (S, K')) ∧ BI L0 K' P' t0 t' U0 tx0 ss 624 ∧ (xS P').length ≤ 3 ∧ K'.length ≤ K.length + 40000) := by
  have bz := hG0.1.z
  have hl : ((xA P).length : Int) = 0 ∧ ((xS P).length : Int) = 0 ∧ ((xB P).length : Int) = 0 := by
    obtain ⟨q1, q2, q3⟩ := h.1.1.2.1
    exact ⟨q1.trans hn0.1, q2.trans hn0.2.1, q3.trans hn0.2.2⟩
  have c1 := cap8 (d := 9) (M := 10) (n := (frm U0).toNat) (m := 8) (by omega)
  refine Ok.bind ((l_pl98 (S := S) (sc := sc) (a2 := a2) (a3 := x) hG0 ht0 (frm U0).toNat FU 0 K t [] 10 (by omega) (Int.le_refl _) (FU_big (by omega)) h (by omega) (by omega)).mono (C' := 60 * 8) (T' := plT 9 8 10) (by omega) c1 (fun _ q => q)) (by omega) (by omega) ?_
  rintro v cc ss ⟨K1, t1, s1, rfl, h1, l1, np1⟩
  rw [List.nil_append] at h1
  have h1 := h1.up (M' := 82) (by omega)
  dsimp only
  obtain ⟨n2, hn2⟩ : ∃ n2 : Nat, (n2 : Int) = x / 4096 % 19 := ⟨(x / 4096 % 19).toNat, by omega⟩
  have c2 := cap8 (d := 18) (M := 82) (n := n2) (m := 18) (by omega)
  refine Ok.bind ((l_pl175 (S := S) (sc := sc) (a2 := a2) (x := x) (A := x / 4096 % 19) hsc hG0 ht0 ha hx rfl n2 FU 0 K1 P t1 s1 82 (by omega) (Int.le_refl _) (FU_big (by omega)) h1 hl.1 (by omega) (by omega)).mono (C' := 60 * 18) (T' := plT 18 18 82 + 74 * 18) (by omega) (by omega) (fun _ q => q)) (by omega) (by omega) ?_
  rintro v cc ss ⟨K2, t2, P2, s2, rfl, h2, ⟨e1, e2, e3⟩, l2, np2⟩
  have h2 := h2.up (M' := 406) (by omega)
  dsimp only
  obtain ⟨n3, hn3⟩ : ∃ n3 : Nat, (n3 : Int) = x / 80000 % 4 := ⟨(x / 80000 % 4).toNat, by omega⟩
  have c3 := cap8 (d := 15) (M := 406) (n := n3) (m := 3) (by omega)
  have xS2 : xS P2 = xS P := by unfold xS; rw [e1]
  have xB2 : xB P2 = xB P := by unfold xB; rw [e2]
  refine Ok.bind ((l_pl456 (S := S) (sc := sc) (a2 := a2) (x := x) (A := x / 80000 % 4) hsc hG0 ht0 ha hx rfl n3 FU 0 K2 P2 t2 (s1 ++ s2) 406 (by omega) (Int.le_refl _) (FU_big (by omega)) h2 (by rw [xS2]; exact hl.2.1) (by omega) (by omega)).mono (C' := 60 * 3) (T' := plT 15 3 406 + 74 * 3) (by omega) (by omega) (fun _ q => q)) (by omega) (by omega) ?_
  rintro v cc ss ⟨K3, t3, P3, s3, rfl, h3, ⟨f1, f2, f3⟩, l3, np3⟩
  have h3 := h3.up (M' := 451) (by omega)
  dsimp only
  obtain ⟨n4, hn4⟩ : ∃ n4 : Nat, (n4 : Int) = 1 + x / 320000 % 5 := ⟨(1 + x / 320000 % 5).toNat, by omega⟩
  have c4 := cap8 (d := 10) (M := 451) (n := n4) (m := 5) (by omega)
  have xB3 : xB P3 = xB P := by unfold xB; rw [f2, e2]
  refine Ok.bind ((l_pl662 (S := S) (sc := sc) (a2 := a2) (x := x) (A := 1 + x / 320000 % 5) hsc hG0 ht0 ha hx rfl n4 FU 0 K3 P3 t3 (s1 ++ s2 ++ s3) 451 (by omega) (Int.le_refl _) (FU_big (by omega)) h3 (by rw [xB3]; exact hl.2.2) (by omega) (by omega)).mono (C' := 60 * 5) (T' := plT 10 5 451 + 74 * 5) (by omega) (by omega) (fun _ q => q)) (by omega) (by omega) ?_
  rintro v cc ss ⟨K4, t4, P4, s4, rfl, h4, ⟨g1, g2, g3⟩, l4, np4⟩
  have h4 := h4.up (M' := 501) (by omega)
  dsimp only
  refine Ok.bind (l_pl761 (S := S) (sc := sc) (a2 := a2) hsc hG0 ht0 ha 3 FU 0 K4 t4 (s1 ++ s2 ++ s3 ++ s4) 501 (by omega) (Int.le_refl _) (FU_big (by omega)) h4 (by omega) (by omega)) (by omega) (by omega) ?_
  rintro v cc ss ⟨K5, t5, s5, rfl, h5, l5, np5⟩
  have h5 := h5.up (M' := 534) (by omega)
  dsimp only
  have hx9 : (xA P4).length ≤ 18 := by rw [g1, f1, e3]; omega
  refine Ok.bind (l_pl887 (S := S) (sc := sc) (a2 := a2) hsc hG0 ht0 ha 9 FU 0 K5 t5 (s1 ++ s2 ++ s3 ++ s4 ++ s5) 534 (by omega) (Int.le_refl _) (by omega) (FU_big (by omega)) (by omega) h5 (by omega) (by omega) (Z6_l hG0 ht0 h5.1.2.1 (NP_app (NP_app (NP_app (NP_app np1 np2) np3) np4) np5) (fun a q1 q2 => by have := hn0.1; omega))) (by omega) (by omega) ?_
  rintro v cc ss ⟨K6, t6, s6, rfl, h6, l6⟩
  have hxs : (xS P4).length ≤ 3 := by rw [g2, f3, xS2]; omega
  exact Ok.ret ⟨K6, t6, P4, _, rfl, h6, hxs, by omega⟩
end PlanW
