/-! THE FIRST STATE -/
section First
variable {C C' : Nat → PC} {SP SD SM : St} {a n : Nat}
theorem Blk.spl : ∀ {l l' : List PC} {a : Nat}, Blk C a (l ++ l') → Blk C a l ∧ Blk C (a + l.length) l'
  | [], _, _, h => ⟨trivial, h⟩
  | v :: l, l', a, h => by
    have q := Blk.spl (l := l) (l' := l') (a := a + 1) h.2
    refine ⟨⟨h.1, q.1⟩, ?_⟩
    rw [show a + (v :: l).length = a + 1 + l.length by rw [List.length_cons]; omega]
    exact q.2
theorem Blk.rg {f : Nat → PC} {n a : Nat} (h : Blk C a ((List.range n).map f)) {j : Nat} (hj : j < n) : C (a + j) = f j := h.at (by rw [List.getElem?_map, List.getElem?_range hj]; rfl)
/-- the numbers outside of the plans and the reference, as the constructors leave them -/
def Zr : St := u Z0 61 7 (-1)
theorem b_top : (10, [Value.ref (0 + 1), .ref (0 + 1 + 1), .ref (0 + 33), .ref (0 + 33 + 1), .ref (0 + 70), .ref (0 + 512)]) = pC Zr 0 := by decide +kernel
theorem b_rd0 : (5, [Value.ref (0 + 1 + 1), .ref (0 + 1 + 3), .ref (0 + 1 + 31), .int 0, .int 0, .int 0, .int 0, V (-1)]) = pC Zr 1 := by decide +kernel
theorem b_b1 : Bytes_l 1600 2 = (List.range 2).map (fun j => pC Zr (2 + j)) := by decide +kernel
theorem b_vl : (100, List.replicate 6 (.int 0)) = pC Zr 32 := by decide +kernel
theorem b_se0 : (6, [Value.ref (0 + 33 + 1), .ref (0 + 33 + 2), .ref (0 + 33 + 29), .ref (0 + 33 + 30), .ref (0 + 33 + 31), .ref (0 + 33 + 32), .ref (0 + 33 + 33), .ref (0 + 33 + 34), .ref (0 + 33 + 35), .ref (0 + 33 + 36)]) = pC Zr 33 := by decide +kernel
theorem b_se : [(100, List.replicate 40 (.int 0)), (100, List.replicate 4 (.int 0)), (100, List.replicate 65 (.int 0)), (100, List.replicate 40 (.int 0)), (100, List.replicate 65 (.int 0)), (100, List.replicate 40 (.int 0)), (100, List.replicate 8 (.int 0)), (100, List.replicate 65 (.int 0))] = (List.range 8).map (fun j => pC Zr (62 + j)) := by decide +kernel
theorem b_hi : hist_l 70 = (List.range 442).map (fun j => pC Zr (70 + j)) := by decide +kernel
theorem b_b2 : Bytes_l 20 512 = (List.range 2).map (fun j => pC Zr (512 + j)) := by decide +kernel
/-- all numbers of the first state -/
def SF (SP SD SM : St) : St := (fun a => if 5 ≤ a ∧ a < 33 then SP.1 a else if 33 ≤ a ∧ a < 61 then SD.1 a else if 514 ≤ a ∧ a < 524 then SM.1 a else Zr.1 a, fun a => if 5 ≤ a ∧ a < 33 then SP.2.1 a else if 33 ≤ a ∧ a < 61 then SD.2.1 a else if 514 ≤ a ∧ a < 524 then SM.2.1 a else Zr.2.1 a, fun a => if 5 ≤ a ∧ a < 33 then SP.2.2 a else if 33 ≤ a ∧ a < 61 then SD.2.2 a else if 514 ≤ a ∧ a < 524 then SM.2.2 a else Zr.2.2 a)
theorem SF_cP (h : 5 ≤ a ∧ a < 33) : cS (SF SP SD SM) a = cS SP a := by
  unfold cS
  rw [sl_congr (S := SP) (S' := SF SP SD SM) (b := a) (fun f => congrFun (if_pos h) f) (fun f => congrFun (if_pos h) f) (fun f => congrFun (if_pos h) f)]
theorem SF_cD (h : 33 ≤ a ∧ a < 61) : cS (SF SP SD SM) a = cS SD a := by
  have n1 : ¬ (5 ≤ a ∧ a < 33) := by omega
  unfold cS
  rw [sl_congr (S := SD) (S' := SF SP SD SM) (b := a) (fun f => congrFun ((if_neg n1).trans (if_pos h)) f) (fun f => congrFun ((if_neg n1).trans (if_pos h)) f) (fun f => congrFun ((if_neg n1).trans (if_pos h)) f)]
theorem SF_cM (h : 514 ≤ a ∧ a < 524) : cS (SF SP SD SM) a = cS SM a := by
  have n1 : ¬ (5 ≤ a ∧ a < 33) := by omega
  have n2 : ¬ (33 ≤ a ∧ a < 61) := by omega
  unfold cS
  rw [sl_congr (S := SM) (S' := SF SP SD SM) (b := a) (fun f => congrFun ((if_neg n1).trans ((if_neg n2).trans (if_pos h))) f) (fun f => congrFun ((if_neg n1).trans ((if_neg n2).trans (if_pos h))) f) (fun f => congrFun ((if_neg n1).trans ((if_neg n2).trans (if_pos h))) f)]
theorem SF_c0 (h1 : ¬ (5 ≤ a ∧ a < 61)) (h3 : ¬ (514 ≤ a ∧ a < 524)) : cS (SF SP SD SM) a = cS Zr a := by
  have n1 : ¬ (5 ≤ a ∧ a < 33) := by omega
  have n2 : ¬ (33 ≤ a ∧ a < 61) := by omega
  unfold cS
  rw [sl_congr (S := Zr) (S' := SF SP SD SM) (b := a) (fun f => congrFun ((if_neg n1).trans ((if_neg n2).trans (if_neg h3))) f) (fun f => congrFun ((if_neg n1).trans ((if_neg n2).trans (if_neg h3))) f) (fun f => congrFun ((if_neg n1).trans ((if_neg n2).trans (if_neg h3))) f)]
theorem pl_D : ∀ p, 4 ≤ p → p < 32 → 33 ≤ LM p ∧ LM p < 61 := by
  intro p h1 h2
  have e : LM p = p + 29 := by unfold LM; rw [if_neg (by omega), if_neg (by omega), if_neg (by omega), if_pos h2]
  omega
theorem pl_P : ∀ p, 34 ≤ p → p < 62 → 5 ≤ LM p ∧ LM p < 33 := by
  intro p h1 h2
  have e : LM p = p - 29 := by unfold LM; rw [if_neg (by omega), if_neg (by omega), if_neg (by omega), if_neg (by omega), if_neg (by omega), if_neg (by omega), if_pos h2]
  omega
theorem pl_0 : ∀ p, p < 514 → ¬ (4 ≤ p ∧ p < 32) → ¬ (34 ≤ p ∧ p < 62) → ¬ (5 ≤ LM p ∧ LM p < 61) ∧ ¬ (514 ≤ LM p ∧ LM p < 524) := by decide +kernel
theorem pC_0 {p : Nat} (h : p < 514) (h1 : ¬ (4 ≤ p ∧ p < 32)) (h2 : ¬ (34 ≤ p ∧ p < 62)) : pC (SF SP SD SM) p = pC Zr p := by
  have q := pl_0 p h h1 h2
  unfold pC
  rw [SF_c0 q.1 q.2]
theorem first_FP (h : Blk C 0 (FP_l 0 SP SD)) : ∀ p, p < 514 → C p = pC (SF SP SD SM) p := by
  obtain ⟨h0, h⟩ := h
  obtain ⟨hR, h⟩ := Blk.spl h
  rw [show (0 + 1 + (Reader_l (0 + 1) SD).length) = 33 by rw [Reader_len]] at h
  obtain ⟨hS, h⟩ := Blk.spl h
  rw [show (33 + (Searches_l (0 + 33) SP).length) = 70 by rw [Searches_len]] at h
  obtain ⟨hH, h⟩ := Blk.spl h
  rw [show (70 + (hist_l (0 + 70)).length) = 512 by rw [hist_len]] at h
  obtain ⟨hB, -⟩ := Blk.spl h
  obtain ⟨r0, hR⟩ := hR
  obtain ⟨r2, hR⟩ := Blk.spl hR
  rw [show (0 + 1 + 1 + (Bytes_l 1600 (0 + 1 + 1)).length) = 4 from rfl] at hR
  obtain ⟨r4, hR⟩ := Blk.spl hR
  rw [show (4 + (plan_l (0 + 1 + 3) SD).length) = 32 by rw [plan_len]] at hR
  obtain ⟨r32, -⟩ := hR
  obtain ⟨s0, hS⟩ := hS
  obtain ⟨s34, hS⟩ := Blk.spl hS
  rw [show (33 + 1 + (plan_l (0 + 33 + 1) SP).length) = 62 by rw [plan_len]] at hS
  have r2' : Blk C 2 (Bytes_l 1600 2) := r2
  have r4' : Blk C 4 ((List.range 28).map (fun j => pC SD (4 + j))) := r4
  have s34' : Blk C 34 ((List.range 28).map (fun j => pC SP (34 + j))) := s34
  have hS' : Blk C 62 [(100, List.replicate 40 (.int 0)), (100, List.replicate 4 (.int 0)), (100, List.replicate 65 (.int 0)), (100, List.replicate 40 (.int 0)), (100, List.replicate 65 (.int 0)), (100, List.replicate 40 (.int 0)), (100, List.replicate 8 (.int 0)), (100, List.replicate 65 (.int 0))] := hS
  have hH' : Blk C 70 (hist_l 70) := hH
  have hB' : Blk C 512 (Bytes_l 20 512) := hB
  rw [b_b1] at r2'
  rw [b_se] at hS'
  rw [b_hi] at hH'
  rw [b_b2] at hB'
  have at_ : ∀ {n a : Nat} {f : Nat → PC} {x : Nat}, Blk C a ((List.range n).map (fun j => f (a + j))) → a ≤ x → x < a + n → C x = f x := fun {n a f x} hb h1 h2 => by
    have q := hb.rg (j := x - a) (by omega)
    rw [show a + (x - a) = x by omega] at q
    exact q
  intro x hx
  by_cases c0 : x = 0
  · rw [c0, pC_0 (by omega) (by omega) (by omega), ← b_top]; exact h0
  by_cases c1 : x = 1
  · rw [c1, pC_0 (by omega) (by omega) (by omega), ← b_rd0]; exact r0
  by_cases c2 : x < 4
  · rw [at_ r2' (by omega) (by omega), pC_0 (by omega) (by omega) (by omega)]
  by_cases c3 : x < 32
  · rw [at_ r4' (by omega) (by omega)]
    unfold pC
    rw [SF_cD (pl_D x (by omega) c3)]
  by_cases c4 : x = 32
  · rw [c4, pC_0 (by omega) (by omega) (by omega), ← b_vl]; exact r32
  by_cases c5 : x = 33
  · rw [c5, pC_0 (by omega) (by omega) (by omega), ← b_se0]; exact s0
  by_cases c6 : x < 62
  · rw [at_ s34' (by omega) (by omega)]
    unfold pC
    rw [SF_cP (pl_P x (by omega) c6)]
  by_cases c7 : x < 70
  · rw [at_ hS' (by omega) (by omega), pC_0 (by omega) (by omega) (by omega)]
  by_cases c8 : x < 512
  · rw [at_ hH' (by omega) (by omega), pC_0 (by omega) (by omega) (by omega)]
  · rw [at_ hB' (by omega) (by omega), pC_0 (by omega) (by omega) (by omega)]
/-- a cell that makes no reference to a moved one stands as it is -/
theorem pC_hi {S : St} {p : Nat} (hp : 514 ≤ p) (h : (sl S p).map (tV PM) = sl S p) : pC S p = cS S p := by
  unfold pC
  rw [LM_hi hp]
  exact Prod.ext rfl h
theorem sl_arr {S : St} {p t : Nat} (hk : kd p = 100 + t) (ht : t < 5) : (sl S p).map (tV PM) = sl S p := by
  unfold sl
  rw [if_neg (by omega), List.map_map]
  refine List.map_congr_left (fun i _ => ?_)
  show tV PM (av S p i) = av S p i
  unfold av
  rw [if_neg (by omega)]
  by_cases c1 : kd p = 103
  · rw [if_pos c1]; rfl
  · rw [if_neg c1]
    by_cases c2 : kd p = 104
    · rw [if_pos c2]; rfl
    · rw [if_neg c2]; rfl
theorem hi_k : ∀ p, p < 526 → 515 ≤ p → 100 ≤ kd p ∧ kd p < 105 := by decide +kernel
theorem sl_514 {S : St} : (sl S 514).map (tV PM) = sl S 514 := rfl
theorem pC_eq {S : St} {p : Nat} (h1 : 514 ≤ p) (h2 : p < 526) : pC S p = cS S p := by
  refine pC_hi h1 ?_
  by_cases c : p = 514
  · subst c; exact sl_514
  · have q := hi_k p h2 (by omega)
    exact sl_arr (t := kd p - 100) (by omega) (by omega)
theorem first_Mo (h : Blk C 514 (mod_l 514 SM)) : ∀ x, 514 ≤ x → x < 524 → C x = cS (SF SP SD SM) x := fun x x1 x2 => by
  have h' : Blk C 514 ((List.range 10).map (fun j => cS SM (514 + j))) := h
  have q := h'.rg (j := x - 514) (by omega)
  rw [show 514 + (x - 514) = x by omega] at q
  rw [q, SF_cM ⟨x1, x2⟩]
theorem b_524 : (103, List.replicate 1 (Value.long 0)) = cS Zr 524 := by decide +kernel
theorem b_525 : (104, List.replicate 1 (Value.double 0)) = cS Zr 525 := by decide +kernel
/-- the whole graph in one world -/
def XF (m : Nat) (C : Nat → PC) : XT := (m, fun _ => true, C, false)
theorem shAll : ∀ x, x < 526 → ∀ t ∈ (shA x).2.2, t < 526 := by decide +kernel
theorem tgt_lt (ha : a < 526) (f : Nat) : tgt a f < 526 := by
  unfold tgt
  rw [List.getD_eq_getElem?_getD]
  cases e : (shA a).2.2[f]? with
  | none => show 0 < 526; omega
  | some t => exact shAll a ha t (List.mem_of_getElem? e)
theorem XF_cl {m : Nat} (hm : m = 526) : Cl (XF m C) := ⟨Nat.le_of_eq hm, fun a f ha _ _ => ⟨by
  have ha' : a < m := ha
  show tgt a f < m
  rw [hm] at ha' ⊢
  exact tgt_lt ha' f, rfl⟩⟩
theorem XF_l {S : St} {m : Nat} (hm : m = 526) (h : ∀ p, p < 526 → C p = pC S p) : (List.range m).map (fun a => if (fun _ : Nat => true) a = true then (kd a, sl S a) else C' a) = (List.range m).map (swD 526 C) := List.map_congr_left (fun x hx => by
  have hx : x < 526 := by rw [← hm]; exact List.mem_range.mp hx
  have hp : PM x < 526 := by
    by_cases c : x < 514
    · have := (LM_PMd x c).2; omega
    · rw [PM_hi (by omega)]; exact hx
  rw [if_pos rfl]
  unfold swD
  rw [if_pos hp, h _ hp]
  unfold pC
  rw [LM_PM, tC_LP]; rfl)
theorem XF_w {S : St} {m : Nat} (hm : m = 526) (h : ∀ p, p < 526 → C p = pC S p) : WX (XF m C') S = ((List.range m).map (swD 526 C), false) := Prod.ext (XF_l hm h) rfl
theorem SF_off (oP : Off Z0 SP 5 33) : Off SP (SF SP SD SM) 33 526 := fun a ha => by
  rcases ha with h | h
  · by_cases c : 5 ≤ a
    · exact ⟨if_pos ⟨c, h⟩, if_pos ⟨c, h⟩, if_pos ⟨c, h⟩⟩
    · have q := oP a (.inl (by omega))
      have n1 : ¬ (5 ≤ a ∧ a < 33) := by omega
      have n2 : ¬ (33 ≤ a ∧ a < 61) := by omega
      have n3 : ¬ (514 ≤ a ∧ a < 524) := by omega
      have zr : Zr.1 a = Z0.1 a := by
        funext f
        exact if_neg (fun w => by omega)
      exact ⟨((if_neg n1).trans ((if_neg n2).trans (if_neg n3))).trans (zr.trans q.1.symm), ((if_neg n1).trans ((if_neg n2).trans (if_neg n3))).trans q.2.1.symm, ((if_neg n1).trans ((if_neg n2).trans (if_neg n3))).trans q.2.2.symm⟩
  · have q := oP a (.inr (by omega))
    have n1 : ¬ (5 ≤ a ∧ a < 33) := by omega
    have n2 : ¬ (33 ≤ a ∧ a < 61) := by omega
    have n3 : ¬ (514 ≤ a ∧ a < 524) := by omega
    have zr : Zr.1 a = Z0.1 a := by
      funext f
      exact if_neg (fun w => by omega)
    exact ⟨((if_neg n1).trans ((if_neg n2).trans (if_neg n3))).trans (zr.trans q.1.symm), ((if_neg n1).trans ((if_neg n2).trans (if_neg n3))).trans q.2.1.symm, ((if_neg n1).trans ((if_neg n2).trans (if_neg n3))).trans q.2.2.symm⟩
theorem SF_gM (h : 514 ≤ a ∧ a < 524) (f : Nat) : g (SF SP SD SM) a f = g SM a f := by
  have n1 : ¬ (5 ≤ a ∧ a < 33) := by omega
  have n2 : ¬ (33 ≤ a ∧ a < 61) := by omega
  unfold g
  exact congrArg Int32.toInt (congrFun ((if_neg n1).trans ((if_neg n2).trans (if_pos h))) f)
theorem SF_g0 (h1 : ¬ (5 ≤ a ∧ a < 61)) (h3 : ¬ (514 ≤ a ∧ a < 524)) (f : Nat) : g (SF SP SD SM) a f = g Zr a f := by
  have n1 : ¬ (5 ≤ a ∧ a < 33) := by omega
  have n2 : ¬ (33 ≤ a ∧ a < 61) := by omega
  unfold g
  exact congrArg Int32.toInt (congrFun ((if_neg n1).trans ((if_neg n2).trans (if_neg h3))) f)
theorem gZ {f : Nat} : g Z0 a f = 0 := rfl
/-- the first state holds what is asked -/
theorem first_inv : ∃ SP SD SM, fn_Plan_begin 5 1 16 Z0 = some SP ∧ fn_Plan_begin 33 1 16 Z0 = some SD ∧ fn_Mo_clearBlock 514 0 Zm = some SM ∧ Inv (SF SP SD SM) := by
  obtain ⟨SP, e1, o1, p1⟩ := P_begin (S := Z0) (q := 5) (s := 1) (e := 16) (.inl rfl) (by decide) (.inr (.inr rfl))
  obtain ⟨SD, e2, o2, p2⟩ := P_begin (S := Z0) (q := 33) (s := 1) (e := 16) (.inr rfl) (by decide) (.inr (.inr rfl))
  obtain ⟨SM, e3, o3, cb, -⟩ := M_clearB (T := Zm)
  have cbF : CB (SF SP SD SM) := fun x hx => by rw [SF_gM (by omega)]; exact cb x hx
  have gm : ∀ f, g (SF SP SD SM) 514 f = g Zm 514 f := fun f => by rw [SF_gM (by omega), o3.rd (by omega)]
  have m1 : g (SF SP SD SM) 514 1 = 1 := by
    rw [gm]; unfold Zm; rw [g_ne (by omega), g_ne (by omega), g_eq]; exact wr_s (by decide) (by decide)
  have m2 : g (SF SP SD SM) 514 2 = 16 := by
    rw [gm]; unfold Zm; rw [g_ne (by omega), g_eq]; exact wr_s (by decide) (by decide)
  have m17 : g (SF SP SD SM) 514 17 = -1 := by
    rw [gm]; unfold Zm; rw [g_eq]; exact wr_s (by decide) (by decide)
  have m0 : ∀ f, f ≠ 1 → f ≠ 2 → f ≠ 17 → g (SF SP SD SM) 514 f = 0 := fun f h1 h2 h3 => by
    rw [gm]; unfold Zm; rw [g_ne (by omega), g_ne (by omega), g_ne (by omega)]; exact gZ
  have c0 : ∀ a f, ¬ (5 ≤ a ∧ a < 61) → ¬ (514 ≤ a ∧ a < 524) → ¬ (a = 61 ∧ f = 7) → g (SF SP SD SM) a f = 0 := fun a f h1 h2 h3 => by
    rw [SF_g0 h1 h2]; unfold Zr; rw [g_ne h3]; exact gZ
  have c7 : g (SF SP SD SM) 61 7 = -1 := by
    rw [SF_g0 (by omega) (by omega)]; unfold Zr; rw [g_eq]; exact wr_s (by decide) (by decide)
  have hG := Good_em (s := 1) (e := 16) (by decide) (.inr (.inr rfl))
  refine ⟨SP, SD, SM, e1, e2, e3, emV 1 16, 0, fun _ => emV 1 16, hG, fun j j0 j1 => by omega, ⟨p1.off (SF_off o1) (by omega), ⟨vM_em cbF m1 m2 (by decide), hG.1⟩⟩, ⟨⟨⟨by decide, by decide⟩, c0 63 2 (by omega) (by omega) (by omega), ?_, fun j j0 j1 => by omega⟩, m0 3 (by decide) (by decide) (by decide), fun j j0 j1 => by omega⟩, ⟨?_, ?_, fun j j0 j1 => ?_⟩, ⟨?_, ?_⟩, ⟨?_, ?_, fun j j0 j1 => ?_⟩⟩
  · rw [c0 63 1 (by omega) (by omega) (by omega)]; decide
  · rw [c0 1 1 (by omega) (by omega) (by omega)]; decide
  · rw [c0 1 1 (by omega) (by omega) (by omega)]; exact m0 14 (by decide) (by decide) (by decide)
  · rw [c0 1 1 (by omega) (by omega) (by omega)] at j1; omega
  · rw [c0 61 6 (by omega) (by omega) (by omega)]; exact (m0 16 (by decide) (by decide) (by decide)).symm
  · rw [c7, m17]
  · rw [c0 3 1 (by omega) (by omega) (by omega)]; decide
  · rw [c0 3 1 (by omega) (by omega) (by omega)]; exact m0 12 (by decide) (by decide) (by decide)
  · rw [c0 3 1 (by omega) (by omega) (by omega)] at j1; omega
end First
