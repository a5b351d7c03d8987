/-! THE FIRST STATE, and the law from its first byte -/
section First
variable {C C' : Nat → PC} {SP SD : St} {a n : Nat}
theorem Blk.rg {f : Nat → PC} {n a : Nat} (h : Blk C a ((List.range n).map f)) {j : Nat} (hj : j < n) : C (a + j) = f j := h.at (by rw [List.getElem?_map, List.getElem?_range hj]; rfl)
/-- the numbers outside of the plans, as the constructors leave them -/
def Zr : St := u Zz 61 7 (-1)
theorem b_top : Top_l = (List.range 1).map (fun j => cS Zr (0 + j)) := by decide +kernel
theorem b_b1 : Bytes_l 1600 1 = (List.range 2).map (fun j => cS Zr (1 + j)) := by decide +kernel
theorem b_b2 : Bytes_l 20 3 = (List.range 2).map (fun j => cS Zr (3 + j)) := by decide +kernel
theorem b_rd : Rd_l = (List.range 2).map (fun j => cS Zr (61 + j)) := by decide +kernel
theorem b_se : Se_l = (List.range 9).map (fun j => cS Zr (505 + j)) := by decide +kernel
theorem b_hi : hist_l 63 = (List.range 442).map (fun j => cS Zr (63 + j)) := by decide +kernel
/-- all numbers of the first state -/
def SF (SP SD : St) : St := (fun a => if 5 ≤ a ∧ a < 33 then SP.1 a else if 33 ≤ a ∧ a < 61 then SD.1 a else Zr.1 a, fun a => if 5 ≤ a ∧ a < 33 then SP.2.1 a else if 33 ≤ a ∧ a < 61 then SD.2.1 a else Zr.2.1 a, fun a => if 5 ≤ a ∧ a < 33 then SP.2.2 a else if 33 ≤ a ∧ a < 61 then SD.2.2 a else Zr.2.2 a)
theorem SF_cP (h : 5 ≤ a ∧ a < 33) : cS (SF SP SD) a = cS SP a := by
  unfold cS
  rw [sl_congr (S := SP) (S' := SF SP SD) (b := a) (fun f => congrFun (if_pos h) f) (fun f => congrFun (if_pos h) f) (fun f => congrFun (if_pos h) f)]
theorem SF_cD (h : 33 ≤ a ∧ a < 61) : cS (SF SP SD) a = cS SD a := by
  have n1 : ¬ (5 ≤ a ∧ a < 33) := by omega
  unfold cS
  rw [sl_congr (S := SD) (S' := SF SP SD) (b := a) (fun f => congrFun ((if_neg n1).trans (if_pos h)) f) (fun f => congrFun ((if_neg n1).trans (if_pos h)) f) (fun f => congrFun ((if_neg n1).trans (if_pos h)) f)]
theorem SF_c0 (h1 : ¬ (5 ≤ a ∧ a < 61)) : cS (SF SP SD) a = cS Zr a := by
  have n1 : ¬ (5 ≤ a ∧ a < 33) := by omega
  have n2 : ¬ (33 ≤ a ∧ a < 61) := by omega
  unfold cS
  rw [sl_congr (S := Zr) (S' := SF SP SD) (b := a) (fun f => congrFun ((if_neg n1).trans (if_neg n2)) f) (fun f => congrFun ((if_neg n1).trans (if_neg n2)) f) (fun f => congrFun ((if_neg n1).trans (if_neg n2)) f)]
theorem blk_at {f : Nat → PC} {x : Nat} (hb : Blk C a ((List.range n).map (fun j => f (a + j)))) (h1 : a ≤ x) (h2 : x < a + n) : C x = f x := by
  have q := hb.rg (j := x - a) (by omega)
  rw [show a + (x - a) = x by omega] at q
  exact q
theorem first_FP (r0 : Blk C 0 Top_l) (r1 : Blk C 1 (Bytes_l 1600 1)) (r3 : Blk C 3 (Bytes_l 20 3)) (r5 : Blk C 5 (plan_l 5 SP)) (r33 : Blk C 33 (plan_l 33 SD)) (r61 : Blk C 61 Rd_l) (r63 : Blk C 63 (hist_l 63)) (r505 : Blk C 505 Se_l) : ∀ x, x < 514 → C x = cS (SF SP SD) x := by
  rw [b_top] at r0
  rw [b_b1] at r1
  rw [b_b2] at r3
  rw [b_rd] at r61
  rw [b_hi] at r63
  rw [b_se] at r505
  intro x hx
  by_cases c0 : x < 1
  · rw [blk_at (f := cS Zr) r0 (by omega) (by omega), SF_c0 (by omega)]
  by_cases c1 : x < 3
  · rw [blk_at (f := cS Zr) r1 (by omega) (by omega), SF_c0 (by omega)]
  by_cases c2 : x < 5
  · rw [blk_at (f := cS Zr) r3 (by omega) (by omega), SF_c0 (by omega)]
  by_cases c3 : x < 33
  · rw [blk_at (f := cS SP) r5 (by omega) (by omega), SF_cP (by omega)]
  by_cases c4 : x < 61
  · rw [blk_at (f := cS SD) r33 (by omega) (by omega), SF_cD (by omega)]
  by_cases c5 : x < 63
  · rw [blk_at (f := cS Zr) r61 (by omega) (by omega), SF_c0 (by omega)]
  by_cases c6 : x < 505
  · rw [blk_at (f := cS Zr) r63 (by omega) (by omega), SF_c0 (by omega)]
  · rw [blk_at (f := cS Zr) r505 (by omega) (by omega), SF_c0 (by omega)]
theorem SF_off (oP : Off Zz SP 5 33) : Off SP (SF SP SD) 33 514 := fun a ha => by
  by_cases c : 5 ≤ a ∧ a < 33
  · exact ⟨if_pos c, if_pos c, if_pos c⟩
  · have q := oP a (by omega)
    have n2 : ¬ (33 ≤ a ∧ a < 61) := by omega
    have zr : Zr.1 a = Zz.1 a := by
      funext f
      exact if_neg (fun w => by omega)
    exact ⟨((if_neg c).trans (if_neg n2)).trans (zr.trans q.1.symm), ((if_neg c).trans (if_neg n2)).trans q.2.1.symm, ((if_neg c).trans (if_neg n2)).trans q.2.2.symm⟩
theorem SF_g0 (h1 : ¬ (5 ≤ a ∧ a < 61)) (f : Nat) : g (SF SP SD) a f = g Zr a f := by
  have n1 : ¬ (5 ≤ a ∧ a < 33) := by omega
  have n2 : ¬ (33 ≤ a ∧ a < 61) := by omega
  unfold g
  exact congrArg Int32.toInt (congrFun ((if_neg n1).trans (if_neg n2)) f)
theorem gZz {f : Nat} : g Zz a f = 0 := rfl
/-- the first state holds what is asked -/
theorem first_st : ∃ SP SD, fn_Plan_begin 5 1 16 Zz = some SP ∧ fn_Plan_begin 33 1 16 Zz = some SD ∧ PT (SF SP SD) 5 (emV 1 16) ∧ HCl (SF SP SD) 0 (fun _ => emV 1 16) ∧ g (SF SP SD) 1 1 = 0 ∧ g (SF SP SD) 3 1 ≤ 20 ∧ g (SF SP SD) 61 6 = 0 ∧ g (SF SP SD) 61 7 = -1 := by
  obtain ⟨SP, e1, o1, p1⟩ := P_begin (S := Zz) (q := 5) (s := 1) (e := 16) (.inl rfl) (by decide) (.inr (.inr rfl))
  obtain ⟨SD, e2, o2, p2⟩ := P_begin (S := Zz) (q := 33) (s := 1) (e := 16) (.inr rfl) (by decide) (.inr (.inr rfl))
  have c0 : ∀ a f, ¬ (5 ≤ a ∧ a < 61) → ¬ (a = 61 ∧ f = 7) → g (SF SP SD) a f = 0 := fun a f h1 h3 => by
    rw [SF_g0 h1]; unfold Zr; rw [g_ne h3]; exact gZz
  have c7 : g (SF SP SD) 61 7 = -1 := by
    rw [SF_g0 (by omega)]; unfold Zr; rw [g_eq]; exact wr_s (by decide) (by decide)
  refine ⟨SP, SD, e1, e2, p1.off (SF_off o1) (by omega), ⟨⟨by decide, by decide⟩, c0 63 2 (by omega) (by omega), ?_, fun j j0 j1 => by omega⟩, c0 1 1 (by omega) (by omega), ?_, c0 61 6 (by omega) (by omega), c7⟩
  · rw [c0 63 1 (by omega) (by omega)]; decide
  · rw [c0 3 1 (by omega) (by omega)]; decide
theorem wz_nil {S : St} : wz (S, []) = wdC nCell (cS S) := List.append_nil _
end First
/-- nothing is made yet -/
def C00 : Nat → PC := fun _ => (999, [])
theorem law_go {sc : SC} (hsc : (nI sc.2).toInt = (sc.2 : Int)) : ∃ Z, GX sc M_Law_law 347200 4984000 0 [(0, .ref (XB + 200))] [] (wdC nCell C00) 0 0 (KXB true Z) := by
  obtain ⟨SP, SD, h5, h33, hT, hC, k1, k2, k3, k4⟩ := first_st
  obtain ⟨v, c, s, e, hc, hs, Z, rfl⟩ := l_law (sc := sc) (S := SF SP SD) (L := []) hsc (by decide) hT hC k1 k2 k3 k4
  refine ⟨Z, ?_⟩
  obtain ⟨C1, e1⟩ : ∃ D : Nat → PC, D = updC C00 0 (10, dfl 10) := ⟨_, rfl⟩
  refine h_new (pc := 0) (ci := 10) (dK D_Law_law_0 0 rfl) (ltK rfl) q_39 q_40 q_1 (leK rfl) (leK rfl) (ltK rfl) (leK rfl) e1 ?_
  refine x_dup (pc := 3) (dK D_Law_law_0 1 rfl) rfl ?_
  refine x_callI (pc := 4) (As := []) (rest := [.ref 0]) (mc' := 513) (ms' := 11950) (dK D_Law_law_0 2 rfl) Q_Law_457 (fitK rfl) rfl (leK rfl) (leK rfl) (leK rfl) (ct_FP (C := C1) ((congrFun e1 _).trans updC_eq) (fun x h1 h2 => by rw [e1, updC_ne (by omega)]; exact leK rfl) h5 h33) (fun v w hv => ?_)
  obtain ⟨rfl, C2, hw, -, r0, r1, r3, r5, r33, r61, r63, r505⟩ := hv
  have hz : w = wz (SF SP SD, []) := by
    rw [hw, wz_nil]
    exact wdc_congr (first_FP r0 r1 r3 r5 r33 r61 r63 r505)
  rw [hz]
  refine x_astoren (pc := 7) (i0 := 1) (ls2 := [(1, .ref 0), (0, .ref (XB + 200))]) (dK D_Law_law_0 3 rfl) rfl (ltK rfl) rfl ?_
  exact te_Law_law e (q := ((true, Z), c, s)) ⟨Nat.le_trans (Nat.add_le_add_left hc _) (leK rfl), Nat.le_trans (Nat.add_le_add_left hs _) (leK rfl)⟩
/-- .. as a contract -/
theorem law_ev {sc : SC} (hsc : (nI sc.2).toInt = (sc.2 : Int)) : ∃ Z, EvX sc M_Law_law [.ref (XB + 200)] (wdC nCell C00) 347200 4984000 (KXB true Z) := by
  obtain ⟨Z, h⟩ := law_go hsc
  exact ⟨Z, EvX.of pn_Law rfl (leK rfl) h⟩
