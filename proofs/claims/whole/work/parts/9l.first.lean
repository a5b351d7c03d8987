/-! THE FIRST STATE -/
section First
variable {C C' : Nat → PC} {SP SD SM : St} {a n : Nat}
theorem Blk.spl : ∀ {l l' : List PC} {a : Nat}, Blk C a (l ++ l') → Blk C a l ∧ Blk C (a + l.length) l'
  | [], _, _, h => ⟨trivial, h⟩
  | v :: l, l', a, h => by
    have q := Blk.spl (l := l) (l' := l') (a := a + 1) h.2
    refine ⟨⟨h.1, q.1⟩, ?_⟩
    rw [show a + (v :: l).length = a + 1 + l.length by rw [List.length_cons]; omega]
    exact q.2
theorem Blk.rg {f : Nat → PC} {n a : Nat} (h : Blk C a ((List.range n).map f)) {j : Nat} (hj : j < n) : C (a + j) = f j := h.at (by rw [List.getElem?_map, List.getElem?_range hj]; rfl)
/-- the numbers outside of the plans and the reference, as the constructors leave them -/
def Zr : St := u Z0 61 7 (-1)
theorem b_top : (10, [Value.ref 1, .ref 3, .ref 5, .ref 33, .ref 61, .ref 63, .ref 505]) = cS Zr 0 := by decide +kernel
theorem b_b1 : Bytes_l 1600 1 = (List.range 2).map (fun j => cS Zr (1 + j)) := by decide +kernel
theorem b_b2 : Bytes_l 20 3 = (List.range 2).map (fun j => cS Zr (3 + j)) := by decide +kernel
theorem b_rd : Reader_l 61 1 33 = (List.range 2).map (fun j => cS Zr (61 + j)) := by decide +kernel
theorem b_hi : hist_l 63 = (List.range 442).map (fun j => cS Zr (63 + j)) := by decide +kernel
theorem b_se : Searches_l 505 5 = (List.range 9).map (fun j => cS Zr (505 + j)) := by decide +kernel
/-- all numbers of the first state -/
def SF (SP SD SM : St) : St := (fun a => if 5 ≤ a ∧ a < 33 then SP.1 a else if 33 ≤ a ∧ a < 61 then SD.1 a else if 514 ≤ a ∧ a < 524 then SM.1 a else Zr.1 a, fun a => if 5 ≤ a ∧ a < 33 then SP.2.1 a else if 33 ≤ a ∧ a < 61 then SD.2.1 a else if 514 ≤ a ∧ a < 524 then SM.2.1 a else Zr.2.1 a, fun a => if 5 ≤ a ∧ a < 33 then SP.2.2 a else if 33 ≤ a ∧ a < 61 then SD.2.2 a else if 514 ≤ a ∧ a < 524 then SM.2.2 a else Zr.2.2 a)
theorem SF_cP (h : 5 ≤ a ∧ a < 33) : cS (SF SP SD SM) a = cS SP a := by
  unfold cS
  rw [sl_congr (S := SP) (S' := SF SP SD SM) (b := a) (fun f => congrFun (if_pos h) f) (fun f => congrFun (if_pos h) f) (fun f => congrFun (if_pos h) f)]
theorem SF_cD (h : 33 ≤ a ∧ a < 61) : cS (SF SP SD SM) a = cS SD a := by
  have n1 : ¬ (5 ≤ a ∧ a < 33) := by omega
  unfold cS
  rw [sl_congr (S := SD) (S' := SF SP SD SM) (b := a) (fun f => congrFun ((if_neg n1).trans (if_pos h)) f) (fun f => congrFun ((if_neg n1).trans (if_pos h)) f) (fun f => congrFun ((if_neg n1).trans (if_pos h)) f)]
theorem SF_cM (h : 514 ≤ a ∧ a < 524) : cS (SF SP SD SM) a = cS SM a := by
  have n1 : ¬ (5 ≤ a ∧ a < 33) := by omega
  have n2 : ¬ (33 ≤ a ∧ a < 61) := by omega
  unfold cS
  rw [sl_congr (S := SM) (S' := SF SP SD SM) (b := a) (fun f => congrFun ((if_neg n1).trans ((if_neg n2).trans (if_pos h))) f) (fun f => congrFun ((if_neg n1).trans ((if_neg n2).trans (if_pos h))) f) (fun f => congrFun ((if_neg n1).trans ((if_neg n2).trans (if_pos h))) f)]
theorem SF_c0 (h1 : ¬ (5 ≤ a ∧ a < 61)) (h3 : ¬ (514 ≤ a ∧ a < 524)) : cS (SF SP SD SM) a = cS Zr a := by
  have n1 : ¬ (5 ≤ a ∧ a < 33) := by omega
  have n2 : ¬ (33 ≤ a ∧ a < 61) := by omega
  unfold cS
  rw [sl_congr (S := Zr) (S' := SF SP SD SM) (b := a) (fun f => congrFun ((if_neg n1).trans ((if_neg n2).trans (if_neg h3))) f) (fun f => congrFun ((if_neg n1).trans ((if_neg n2).trans (if_neg h3))) f) (fun f => congrFun ((if_neg n1).trans ((if_neg n2).trans (if_neg h3))) f)]
theorem first_FP (h : Blk C 0 (FP_l 0 SP SD)) : ∀ x, x < 514 → C x = cS (SF SP SD SM) x := by
  obtain ⟨h0, h⟩ := h
  obtain ⟨h1, h⟩ := Blk.spl h
  rw [show (0 + 1 + (Bytes_l 1600 (0 + 1)).length) = 3 from rfl] at h
  obtain ⟨h3, h⟩ := Blk.spl h
  rw [show (3 + (Bytes_l 20 (0 + 3)).length) = 5 from rfl] at h
  obtain ⟨h5, h⟩ := Blk.spl h
  rw [show (5 + (plan_l (0 + 5) SP).length) = 33 by rw [plan_len]] at h
  obtain ⟨h33, h⟩ := Blk.spl h
  rw [show (33 + (plan_l (0 + 33) SD).length) = 61 by rw [plan_len]] at h
  obtain ⟨h61, h⟩ := Blk.spl h
  rw [show (61 + (Reader_l (0 + 61) (0 + 1) (0 + 33)).length) = 63 from rfl] at h
  obtain ⟨h63, h⟩ := Blk.spl h
  rw [show (63 + (hist_l (0 + 63)).length) = 505 by rw [hist_len]] at h
  obtain ⟨h505, -⟩ := Blk.spl h
  have h1' : Blk C 1 (Bytes_l 1600 1) := h1
  have h3' : Blk C 3 (Bytes_l 20 3) := h3
  have h61' : Blk C 61 (Reader_l 61 1 33) := h61
  have h63' : Blk C 63 (hist_l 63) := h63
  have h505' : Blk C 505 (Searches_l 505 5) := h505
  have h5' : Blk C 5 ((List.range 28).map (fun j => cS SP (5 + j))) := h5
  have h33' : Blk C 33 ((List.range 28).map (fun j => cS SD (33 + j))) := h33
  rw [b_b1] at h1'
  rw [b_b2] at h3'
  rw [b_rd] at h61'
  rw [b_hi] at h63'
  rw [b_se] at h505'
  intro x hx
  by_cases c0 : x = 0
  · rw [c0, SF_c0 (by omega) (by omega), ← b_top]; exact h0
  by_cases c1 : x < 3
  · have q := h1'.rg (j := x - 1) (by omega)
    rw [show 1 + (x - 1) = x by omega] at q
    rw [q, SF_c0 (by omega) (by omega)]
  by_cases c2 : x < 5
  · have q := h3'.rg (j := x - 3) (by omega)
    rw [show 3 + (x - 3) = x by omega] at q
    rw [q, SF_c0 (by omega) (by omega)]
  by_cases c3 : x < 33
  · have q := h5'.rg (j := x - 5) (by omega)
    rw [show 5 + (x - 5) = x by omega] at q
    rw [q, SF_cP (by omega)]
  by_cases c4 : x < 61
  · have q := h33'.rg (j := x - 33) (by omega)
    rw [show 33 + (x - 33) = x by omega] at q
    rw [q, SF_cD (by omega)]
  by_cases c5 : x < 63
  · have q := h61'.rg (j := x - 61) (by omega)
    rw [show 61 + (x - 61) = x by omega] at q
    rw [q, SF_c0 (by omega) (by omega)]
  by_cases c6 : x < 505
  · have q := h63'.rg (j := x - 63) (by omega)
    rw [show 63 + (x - 63) = x by omega] at q
    rw [q, SF_c0 (by omega) (by omega)]
  · have q := h505'.rg (j := x - 505) (by omega)
    rw [show 505 + (x - 505) = x by omega] at q
    rw [q, SF_c0 (by omega) (by omega)]
theorem first_Mo (h : Blk C 514 (mod_l 514 SM)) : ∀ x, 514 ≤ x → x < 524 → C x = cS (SF SP SD SM) x := fun x x1 x2 => by
  have h' : Blk C 514 ((List.range 10).map (fun j => cS SM (514 + j))) := h
  have q := h'.rg (j := x - 514) (by omega)
  rw [show 514 + (x - 514) = x by omega] at q
  rw [q, SF_cM ⟨x1, x2⟩]
theorem b_524 : (103, List.replicate 1 (Value.long 0)) = cS Zr 524 := by decide +kernel
theorem b_525 : (104, List.replicate 1 (Value.double 0)) = cS Zr 525 := by decide +kernel
/-- the whole graph in one world -/
def XF (m : Nat) (C : Nat → PC) : XT := (m, fun _ => true, C, false)
theorem shAll : ∀ x, x < 526 → ∀ t ∈ (shA x).2.2, t < 526 := by decide +kernel
theorem tgt_lt (ha : a < 526) (f : Nat) : tgt a f < 526 := by
  unfold tgt
  rw [List.getD_eq_getElem?_getD]
  cases e : (shA a).2.2[f]? with
  | none => show 0 < 526; omega
  | some t => exact shAll a ha t (List.mem_of_getElem? e)
theorem XF_cl {m : Nat} (hm : m = 526) : Cl (XF m C) := ⟨Nat.le_of_eq hm, fun a f ha _ _ => ⟨by
  have ha' : a < m := ha
  show tgt a f < m
  rw [hm] at ha' ⊢
  exact tgt_lt ha' f, rfl⟩⟩
theorem XF_l {S : St} {m : Nat} (h : ∀ x, x < m → C x = cS S x) : (List.range m).map (fun a => if (fun _ : Nat => true) a = true then (kd a, sl S a) else C' a) = (List.range m).map C := List.map_congr_left (fun x hx => by
  rw [h x (List.mem_range.mp hx), if_pos rfl]
  rfl)
theorem XF_w {S : St} {m : Nat} (h : ∀ x, x < m → C x = cS S x) : WX (XF m C') S = (wdC m C, false) := Prod.ext (XF_l h) rfl
theorem SF_off (oP : Off Z0 SP 5 33) : Off SP (SF SP SD SM) 33 526 := fun a ha => by
  rcases ha with h | h
  · by_cases c : 5 ≤ a
    · exact ⟨if_pos ⟨c, h⟩, if_pos ⟨c, h⟩, if_pos ⟨c, h⟩⟩
    · have q := oP a (.inl (by omega))
      have n1 : ¬ (5 ≤ a ∧ a < 33) := by omega
      have n2 : ¬ (33 ≤ a ∧ a < 61) := by omega
      have n3 : ¬ (514 ≤ a ∧ a < 524) := by omega
      have zr : Zr.1 a = Z0.1 a := by
        funext f
        exact if_neg (fun w => by omega)
      exact ⟨((if_neg n1).trans ((if_neg n2).trans (if_neg n3))).trans (zr.trans q.1.symm), ((if_neg n1).trans ((if_neg n2).trans (if_neg n3))).trans q.2.1.symm, ((if_neg n1).trans ((if_neg n2).trans (if_neg n3))).trans q.2.2.symm⟩
  · have q := oP a (.inr (by omega))
    have n1 : ¬ (5 ≤ a ∧ a < 33) := by omega
    have n2 : ¬ (33 ≤ a ∧ a < 61) := by omega
    have n3 : ¬ (514 ≤ a ∧ a < 524) := by omega
    have zr : Zr.1 a = Z0.1 a := by
      funext f
      exact if_neg (fun w => by omega)
    exact ⟨((if_neg n1).trans ((if_neg n2).trans (if_neg n3))).trans (zr.trans q.1.symm), ((if_neg n1).trans ((if_neg n2).trans (if_neg n3))).trans q.2.1.symm, ((if_neg n1).trans ((if_neg n2).trans (if_neg n3))).trans q.2.2.symm⟩
theorem SF_gM (h : 514 ≤ a ∧ a < 524) (f : Nat) : g (SF SP SD SM) a f = g SM a f := by
  have n1 : ¬ (5 ≤ a ∧ a < 33) := by omega
  have n2 : ¬ (33 ≤ a ∧ a < 61) := by omega
  unfold g
  exact congrArg Int32.toInt (congrFun ((if_neg n1).trans ((if_neg n2).trans (if_pos h))) f)
theorem SF_g0 (h1 : ¬ (5 ≤ a ∧ a < 61)) (h3 : ¬ (514 ≤ a ∧ a < 524)) (f : Nat) : g (SF SP SD SM) a f = g Zr a f := by
  have n1 : ¬ (5 ≤ a ∧ a < 33) := by omega
  have n2 : ¬ (33 ≤ a ∧ a < 61) := by omega
  unfold g
  exact congrArg Int32.toInt (congrFun ((if_neg n1).trans ((if_neg n2).trans (if_neg h3))) f)
theorem gZ {f : Nat} : g Z0 a f = 0 := rfl
/-- the first state holds what is asked -/
theorem first_inv : ∃ SP SD SM, fn_Plan_begin 5 1 16 Z0 = some SP ∧ fn_Plan_begin 33 1 16 Z0 = some SD ∧ fn_Mo_clearBlock 514 0 Zm = some SM ∧ Inv (SF SP SD SM) := by
  obtain ⟨SP, e1, o1, p1⟩ := P_begin (S := Z0) (q := 5) (s := 1) (e := 16) (.inl rfl) (by decide) (.inr (.inr rfl))
  obtain ⟨SD, e2, o2, p2⟩ := P_begin (S := Z0) (q := 33) (s := 1) (e := 16) (.inr rfl) (by decide) (.inr (.inr rfl))
  obtain ⟨SM, e3, o3, cb, -⟩ := M_clearB (T := Zm)
  have cbF : CB (SF SP SD SM) := fun x hx => by rw [SF_gM (by omega)]; exact cb x hx
  have gm : ∀ f, g (SF SP SD SM) 514 f = g Zm 514 f := fun f => by rw [SF_gM (by omega), o3.rd (by omega)]
  have m1 : g (SF SP SD SM) 514 1 = 1 := by
    rw [gm]; unfold Zm; rw [g_ne (by omega), g_ne (by omega), g_eq]; exact wr_s (by decide) (by decide)
  have m2 : g (SF SP SD SM) 514 2 = 16 := by
    rw [gm]; unfold Zm; rw [g_ne (by omega), g_eq]; exact wr_s (by decide) (by decide)
  have m17 : g (SF SP SD SM) 514 17 = -1 := by
    rw [gm]; unfold Zm; rw [g_eq]; exact wr_s (by decide) (by decide)
  have m0 : ∀ f, f ≠ 1 → f ≠ 2 → f ≠ 17 → g (SF SP SD SM) 514 f = 0 := fun f h1 h2 h3 => by
    rw [gm]; unfold Zm; rw [g_ne (by omega), g_ne (by omega), g_ne (by omega)]; exact gZ
  have c0 : ∀ a f, ¬ (5 ≤ a ∧ a < 61) → ¬ (514 ≤ a ∧ a < 524) → ¬ (a = 61 ∧ f = 7) → g (SF SP SD SM) a f = 0 := fun a f h1 h2 h3 => by
    rw [SF_g0 h1 h2]; unfold Zr; rw [g_ne h3]; exact gZ
  have c7 : g (SF SP SD SM) 61 7 = -1 := by
    rw [SF_g0 (by omega) (by omega)]; unfold Zr; rw [g_eq]; exact wr_s (by decide) (by decide)
  have hG := Good_em (s := 1) (e := 16) (by decide) (.inr (.inr rfl))
  refine ⟨SP, SD, SM, e1, e2, e3, emV 1 16, 0, fun _ => emV 1 16, hG, fun j j0 j1 => by omega, ⟨p1.off (SF_off o1) (by omega), ⟨vM_em cbF m1 m2 (by decide), hG.1⟩⟩, ⟨⟨⟨by decide, by decide⟩, c0 63 2 (by omega) (by omega) (by omega), ?_, fun j j0 j1 => by omega⟩, m0 3 (by decide) (by decide) (by decide), fun j j0 j1 => by omega⟩, ⟨?_, ?_, fun j j0 j1 => ?_⟩, ⟨?_, ?_⟩, ⟨?_, ?_, fun j j0 j1 => ?_⟩⟩
  · rw [c0 63 1 (by omega) (by omega) (by omega)]; decide
  · rw [c0 1 1 (by omega) (by omega) (by omega)]; decide
  · rw [c0 1 1 (by omega) (by omega) (by omega)]; exact m0 14 (by decide) (by decide) (by decide)
  · rw [c0 1 1 (by omega) (by omega) (by omega)] at j1; omega
  · rw [c0 61 6 (by omega) (by omega) (by omega)]; exact (m0 16 (by decide) (by decide) (by decide)).symm
  · rw [c7, m17]
  · rw [c0 3 1 (by omega) (by omega) (by omega)]; decide
  · rw [c0 3 1 (by omega) (by omega) (by omega)]; exact m0 12 (by decide) (by decide) (by decide)
  · rw [c0 3 1 (by omega) (by omega) (by omega)] at j1; omega
end First
