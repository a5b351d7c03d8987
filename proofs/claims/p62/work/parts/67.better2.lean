/-! betterExchange -/
section BetterL
variable {S T : St} {W : Vw} {n : Int} {hs : Int → Vw}
theorem cc_1 (h : PT S 5 W) {T : St} (oT : Off S T 512 514) (h9 : ∀ f, f < 65 → g T 513 f = 0) : ∃ T', lo_Searches_countColorPages_18 505 FU (0, T) = some T' ∧ Off S T' 512 514 ∧ (∀ f, g T' 512 f = g T 512 f) ∧ ∀ x : Int, 1 ≤ x → x ≤ pgs W → g T' 513 x.toNat = bi (adC0 W x) := by
  have b := h.pl.b
  have hT := h.off oT (by omega)
  obtain ⟨T', e, hI⟩ := lp_inv (body := fun go p0 => lb_Searches_countColorPages_18 505 go p0.1 p0.2) (fun i (s : St) => (i, s)) (fun s => s)
    (fun i s => 0 ≤ i ∧ Off S s 512 514 ∧ (∀ f, g s 512 f = g T 512 f) ∧ ∀ x : Int, 1 ≤ x → x ≤ pgs W → g s 513 x.toNat = bi (anyR (fun a => decide (at_ W 6 a = x) && decide (at_ W 2 a = 1)) 0 i.toNat)) (nA W)
    (fun go i s hI hi => by
      show lb_Searches_countColorPages_18 505 go i s = _
      have e7 : g s 7 7 = nA W := (h.off hI.2.1 (by omega)).pl.mA
      unfold lb_Searches_countColorPages_18
      rw [tg_505_1, tg_6_0, e7, if_pos hi])
    (fun go i s hI hi => by
      obtain ⟨i0, os, h8, hx⟩ := hI
      have hs' := h.off os (by omega)
      have e7 : g s 7 7 = nA W := hs'.pl.mA
      have x6 : g s 14 i.toNat = at_ W 6 i := hs'.pl.a6 ⟨i0, hi⟩
      have x2 : g s 10 i.toNat = at_ W 2 i := hs'.pl.a2 ⟨i0, hi⟩
      have v := h.v.2.1 i i0 hi
      have ei : (i + 1).toNat = i.toNat + 1 := by omega
      have ez : (0 : Int) + ((i.toNat : Nat) : Int) = i := by omega
      have keep : (at_ W 6 i = 0 ∨ at_ W 2 i ≠ 1) → ∀ x : Int, 1 ≤ x → x ≤ pgs W → g s 513 x.toNat = bi (anyR (fun a => decide (at_ W 6 a = x) && decide (at_ W 2 a = 1)) 0 (i + 1).toNat) := fun hh x x1 x2 => by
        rw [ei, anyR_snoc, ez, hx x x1 x2]
        have : (decide (at_ W 6 i = x) && decide (at_ W 2 i = 1)) = false := by
          rcases hh with hh | hh
          · rw [decide_eq_false (by omega), Bool.false_and]
          · rw [decide_eq_false hh, Bool.and_false]
        rw [this, Bool.or_false]
      by_cases c1 : at_ W 6 i = 0
      · refine ⟨s, ?_, by omega, os, h8, keep (.inl c1)⟩
        show lb_Searches_countColorPages_18 505 go i s = _
        unfold lb_Searches_countColorPages_18
        rw [tg_505_1, tg_6_0, e7, if_neg (by omega : ¬ nA W ≤ i), if_pos (by omega : 0 ≤ i ∧ i < 40), tg_7_6, x6, tg_505_0, P_hasPage hs'.pl, bnO_s, isP_n c1, if_neg Bool.false_ne_true, nm_x, wr_s (z := i + 1) (by omega) (by omega)]
      · by_cases c2 : at_ W 2 i = 1
        · refine ⟨u s 513 (at_ W 6 i).toNat 1, ?_, by omega, os.tu (by omega) (by omega), fun f => by rw [g_ne (by omega)]; exact h8 f, fun x y1 y2 => ?_⟩
          · show lb_Searches_countColorPages_18 505 go i s = _
            unfold lb_Searches_countColorPages_18
            rw [tg_505_1, tg_6_0, e7, if_neg (by omega : ¬ nA W ≤ i), if_pos (by omega : 0 ≤ i ∧ i < 40), tg_7_6, x6, tg_505_0, P_hasPage hs'.pl, bnO_s, isP_y (by omega), if_pos rfl, tg_7_2, x2, if_pos c2, if_pos (by omega : 0 ≤ at_ W 6 i ∧ at_ W 6 i < 65), tg_505_9, nm_x, nm_x, wr_s (z := i + 1) (by omega) (by omega)]
          · rw [ei, anyR_snoc, ez]
            show g (u s 513 (at_ W 6 i).toNat 1) 513 x.toNat = bi (_ || (decide (at_ W 6 i = x) && decide (at_ W 2 i = 1)))
            rw [decide_eq_true c2, Bool.and_true]
            by_cases c3 : at_ W 6 i = x
            · rw [decide_eq_true c3, Bool.or_true, c3, g_eq]; rfl
            · rw [decide_eq_false c3, Bool.or_false, g_ne (by omega)]
              exact hx x y1 y2
        · refine ⟨s, ?_, by omega, os, h8, keep (.inr c2)⟩
          show lb_Searches_countColorPages_18 505 go i s = _
          unfold lb_Searches_countColorPages_18
          rw [tg_505_1, tg_6_0, e7, if_neg (by omega : ¬ nA W ≤ i), if_pos (by omega : 0 ≤ i ∧ i < 40), tg_7_6, x6, tg_505_0, P_hasPage hs'.pl, bnO_s, isP_y (by omega), if_pos rfl, tg_7_2, x2, if_neg c2, nm_x, wr_s (z := i + 1) (by omega) (by omega)]) (nA W - 0).toNat FU 0 T ⟨Int.le_refl _, oT, fun _ => rfl, fun x y1 y2 => by rw [h9 _ (by omega)]; rfl⟩ (by omega) rfl (FU_lt (by omega))
  exact ⟨T', e, hI.2.1, hI.2.2.1, hI.2.2.2⟩
theorem cc_2 (h : PT S 5 W) {T : St} (oT : Off S T 512 514) (h8 : ∀ f, f < 8 → g T 512 f = 0) (h9 : ∀ x : Int, 1 ≤ x → x ≤ pgs W → g T 513 x.toNat = bi (adC0 W x)) : ∃ T', lo_Searches_countColorPages_96 505 FU (1, T) = some T' ∧ Off S T' 512 514 ∧ (∀ f : Int, 0 ≤ f → f < 8 → g T' 512 f.toNat = cpN W f) ∧ ∀ x : Int, 1 ≤ x → x ≤ pgs W → g T' 513 x.toNat = bi (hcl W x) := by
  have b := h.pl.b
  have fb : frm W = 2 * sg W := rfl
  have part : ∀ (m : Nat) (f : Int), 0 ≤ sumR (fun x => if fOf W x = f then bi (hcl W x) else 0) 1 m ∧ sumR (fun x => if fOf W x = f then bi (hcl W x) else 0) 1 m ≤ m := fun m f => by
    have q := sumR_bd (w := fun x => if fOf W x = f then bi (hcl W x) else 0) (l := 0) (h := 1) (n := m) (i := 1) (fun j _ _ => by
      have := bi01 (b := hcl W j)
      show 0 ≤ (if fOf W j = f then bi (hcl W j) else 0) ∧ (if fOf W j = f then bi (hcl W j) else 0) ≤ 1
      split <;> omega)
    omega
  obtain ⟨T', e, hI⟩ := lp_inv (body := fun go p0 => lb_Searches_countColorPages_96 505 go p0.1 p0.2) (fun i (s : St) => (i, s)) (fun s => s)
    (fun i s => 1 ≤ i ∧ Off S s 512 514 ∧ (∀ f : Int, 0 ≤ f → f < 8 → g s 512 f.toNat = sumR (fun x => if fOf W x = f then bi (hcl W x) else 0) 1 (i - 1).toNat) ∧ (∀ x : Int, 1 ≤ x → x < i → g s 513 x.toNat = bi (hcl W x)) ∧ ∀ x : Int, i ≤ x → x ≤ pgs W → g s 513 x.toNat = bi (adC0 W x)) (pgs W + 1)
    (fun go i s hI hi => by
      show lb_Searches_countColorPages_96 505 go i s = _
      have e7 : g s 5 1 = pgs W := (h.off hI.2.1 (by omega)).pl.gp
      unfold lb_Searches_countColorPages_96
      rw [tg_505_0, e7, if_pos (by omega)])
    (fun go i s hI hi => by
      obtain ⟨i0, os, h8, hl, hr⟩ := hI
      have hs' := h.off os (by omega)
      have e7 : g s 5 1 = pgs W := hs'.pl.gp
      have eo : g s 31 i.toNat = stOn W i (-1) := hs'.s i0 (by omega)
      have ef : g s 28 i.toNat = fOf W i := hs'.pl.fo i0 (by omega)
      have fo := fOf_b h.v (p := i) i0 (by omega)
      have ei : (i + 1 - 1).toNat = (i - 1).toNat + 1 := by omega
      have ez : (1 : Int) + (((i - 1).toNat : Nat) : Int) = i := by omega
      have pb := part (i - 1).toNat (fOf W i)
      have p513 := hr i (Int.le_refl _) (by omega)
      -- adding the page to its form
      have add : ∀ s1 : St, Off S s1 512 514 → (∀ f : Int, 0 ≤ f → f < 8 → g s1 512 f.toNat = sumR (fun x => if fOf W x = f then bi (hcl W x) else 0) 1 (i - 1).toNat) → g s1 513 i.toNat = bi (hcl W i) → (∀ x : Int, 1 ≤ x → x < i → g s1 513 x.toNat = bi (hcl W x)) → (∀ x : Int, i + 1 ≤ x → x ≤ pgs W → g s1 513 x.toNat = bi (adC0 W x)) →
          1 ≤ i + 1 ∧ Off S (u s1 512 (fOf W i).toNat (g s1 512 (fOf W i).toNat + g s1 513 i.toNat)) 512 514 ∧ (∀ f : Int, 0 ≤ f → f < 8 → g (u s1 512 (fOf W i).toNat (g s1 512 (fOf W i).toNat + g s1 513 i.toNat)) 512 f.toNat = sumR (fun x => if fOf W x = f then bi (hcl W x) else 0) 1 (i + 1 - 1).toNat) ∧ (∀ x : Int, 1 ≤ x → x < i + 1 → g (u s1 512 (fOf W i).toNat (g s1 512 (fOf W i).toNat + g s1 513 i.toNat)) 513 x.toNat = bi (hcl W x)) ∧ ∀ x : Int, i + 1 ≤ x → x ≤ pgs W → g (u s1 512 (fOf W i).toNat (g s1 512 (fOf W i).toNat + g s1 513 i.toNat)) 513 x.toNat = bi (adC0 W x) := fun s1 o1 k8 k9 kl kr => by
        refine ⟨by omega, o1.tu (by omega) (by omega), fun f f0 f1 => ?_, fun x x1 x2 => ?_, fun x x1 x2 => ?_⟩
        · rw [ei, sumR_snoc, ez]
          by_cases c : f = fOf W i
          · subst c
            have h01 := bi01 (b := hcl W i)
            rw [g_eq, k8 _ f0 f1, k9, wr_s (by omega) (by omega), if_pos rfl]
          · rw [g_ne (by omega), k8 f f0 f1, if_neg (fun e => c e.symm), Int.add_zero]
        · rw [g_ne (by omega)]
          by_cases c : x = i
          · rw [c, k9]
          · exact kl x x1 (by omega)
        · rw [g_ne (by omega)]
          exact kr x x1 x2
      by_cases c1 : stOn W i (-1) = -1
      · have hh := hcl_free h.v c1
        refine ⟨u s 512 (fOf W i).toNat (g s 512 (fOf W i).toNat + g s 513 i.toNat), ?_, add s os h8 (by rw [p513, hh]) hl (fun x x1 x2 => hr x (by omega) x2)⟩
        show lb_Searches_countColorPages_96 505 go i s = _
        unfold lb_Searches_countColorPages_96
        rw [tg_505_0, e7, if_neg (by omega : ¬ pgs W < i), if_pos (by omega : 0 ≤ i ∧ i < 65), tg_5_6, eo, if_pos c1, tg_5_3, ef, if_pos (by omega : 0 ≤ fOf W i ∧ fOf W i < 8), tg_505_8, tg_505_9, nm_x, nm_x, wr_s (z := i + 1) (by omega) (by omega)]
      · have hh := hcl_story h.v h.w c1
        have sb : 0 ≤ stOn W i (-1) ∧ stOn W i (-1) < nS W := by
          rcases stOn_spec h.v (p := i) (but := -1) with ⟨g1, _⟩ | ⟨g1, g2, _⟩
          · exact absurd g1 c1
          · exact ⟨g1, g2⟩
        have es : g s 17 (stOn W i (-1)).toNat = at_ W 8 (stOn W i (-1)) := hs'.pl.s1 sb
        by_cases c2 : at_ W 8 (stOn W i (-1)) = 1
        · have eq1 : g (u s 513 i.toNat 1) 513 i.toNat = bi (hcl W i) := by rw [g_eq, hh.2, decide_eq_true c2]; rfl
          have o1 : Off S (u s 513 i.toNat 1) 512 514 := os.tu (by omega) (by omega)
          have ef1 : g (u s 513 i.toNat 1) 28 i.toNat = fOf W i := by rw [g_ne (by omega)]; exact ef
          refine ⟨u (u s 513 i.toNat 1) 512 (fOf W i).toNat (g (u s 513 i.toNat 1) 512 (fOf W i).toNat + g (u s 513 i.toNat 1) 513 i.toNat), ?_, add (u s 513 i.toNat 1) o1 (fun f f0 f1 => by rw [g_ne (by omega)]; exact h8 f f0 f1) eq1 (fun x x1 x2 => by rw [g_ne (by omega)]; exact hl x x1 x2) (fun x x1 x2 => by rw [g_ne (by omega)]; exact hr x (by omega) x2)⟩
          show lb_Searches_countColorPages_96 505 go i s = _
          unfold lb_Searches_countColorPages_96
          rw [tg_505_0, e7, if_neg (by omega : ¬ pgs W < i), if_pos (by omega : 0 ≤ i ∧ i < 65), tg_5_6, eo, if_neg c1, if_pos (by omega : 0 ≤ stOn W i (-1) ∧ stOn W i (-1) < 10), tg_505_1, tg_6_1, tg_15_1, es, if_pos c2, tg_505_9, nm_x, tg_5_3, ef1, if_pos (by omega : 0 ≤ fOf W i ∧ fOf W i < 8), tg_505_8, nm_x, nm_x, wr_s (z := i + 1) (by omega) (by omega)]
        · refine ⟨u s 512 (fOf W i).toNat (g s 512 (fOf W i).toNat + g s 513 i.toNat), ?_, add s os h8 (by rw [p513, hh.1, hh.2, decide_eq_false c2]) hl (fun x x1 x2 => hr x (by omega) x2)⟩
          show lb_Searches_countColorPages_96 505 go i s = _
          unfold lb_Searches_countColorPages_96
          rw [tg_505_0, e7, if_neg (by omega : ¬ pgs W < i), if_pos (by omega : 0 ≤ i ∧ i < 65), tg_5_6, eo, if_neg c1, if_pos (by omega : 0 ≤ stOn W i (-1) ∧ stOn W i (-1) < 10), tg_505_1, tg_6_1, tg_15_1, es, if_neg c2, tg_5_3, ef, if_pos (by omega : 0 ≤ fOf W i ∧ fOf W i < 8), tg_505_8, tg_505_9, nm_x, nm_x, wr_s (z := i + 1) (by omega) (by omega)])
    (pgs W + 1 - 1).toNat FU 1 T ⟨Int.le_refl _, oT, fun f f0 f1 => by rw [h8 _ (by omega)]; rfl, fun x x1 x2 => by omega, h9⟩ (by omega) rfl (FU_lt (by omega))
  refine ⟨T', e, hI.2.1, fun f f0 f1 => ?_, fun x x1 x2 => hI.2.2.2.1 x x1 (by omega)⟩
  rw [hI.2.2.1 f f0 f1, show (pgs W + 1 - 1).toNat = (pgs W).toNat by omega]
  rfl
theorem cc_all (h : PT S 5 W) : ∃ T', fn_Searches_countColorPages 505 S = some T' ∧ Off S T' 512 514 ∧ (∀ f : Int, 0 ≤ f → f < 8 → g T' 512 f.toNat = cpN W f) ∧ ∀ x : Int, 1 ≤ x → x ≤ pgs W → g T' 513 x.toNat = bi (hcl W x) := by
  obtain ⟨S1, e1, o1, f1⟩ := A_fill (S := S) (N := 65) (c := 513) (z := 0) (by decide)
  obtain ⟨S2, e2, o2, f2⟩ := A_fill (S := S1) (N := 8) (c := 512) (z := 0) (by decide)
  have oo : Off S S2 512 514 := (o1.mono (by decide) (by decide)).trans (o2.mono (by decide) (by decide))
  obtain ⟨S3, e3, o3, g3, k3⟩ := cc_1 h oo (fun f hf => by rw [o2.rd (by omega), f1 f hf]; exact wr_s (by decide) (by decide))
  obtain ⟨S4, e4, o4, g4, k4⟩ := cc_2 h o3 (fun f hf => by rw [g3, f2 f hf]; exact wr_s (by decide) (by decide)) k3
  refine ⟨S4, ?_, o4, g4, k4⟩
  unfold fn_Searches_countColorPages
  rw [tg_505_9, tg_505_8, e1, bnO_s, e2, bnO_s, e3, bnO_s, e4, bnO_s]
theorem oneIf {z : Int} {S : St} : fn_Searches_oneIfAny z S = some (pos1 z) := by
  unfold fn_Searches_oneIfAny pos1
  split <;> rfl
theorem few_class (h : PT S 5 W) (h8 : ∀ f : Int, 0 ≤ f → f < 8 → g S 512 f.toNat = cpN W f) (h9 : ∀ x : Int, 1 ≤ x → x ≤ pgs W → g S 513 x.toNat = bi (hcl W x)) {p q : Int} (hp : 1 ≤ p ∧ p ≤ pgs W) (hq : 1 ≤ q ∧ q ≤ pgs W) : fn_Searches_fewerColorForms 505 p q S = some (few W p q) := by
  have b := h.pl.b
  have fb : frm W = 2 * sg W := rfl
  have fp := fOf_b h.v hp.1 hp.2
  have fq := fOf_b h.v hq.1 hq.2
  have ep : g S 28 p.toNat = fOf W p := h.pl.fo hp.1 hp.2
  have eq : g S 28 q.toNat = fOf W q := h.pl.fo hq.1 hq.2
  have b1 := bi01 (b := hcl W p)
  have b2 := bi01 (b := hcl W q)
  have c1 := cpN_bd h.v (f := fOf W p)
  have c2 := cpN_bd h.v (f := fOf W q)
  unfold fn_Searches_fewerColorForms few
  rw [if_pos (by omega : 0 ≤ p ∧ p < 65), if_pos (by omega : 0 ≤ q ∧ q < 65), tg_505_0, tg_5_3, ep, eq]
  by_cases c : fOf W p = fOf W q
  · rw [if_pos c, if_pos c]
  · rw [if_neg c, if_neg c, tg_505_9, tg_505_8, h9 p hp.1 hp.2, h9 q hq.1 hq.2, nm_x, if_pos (by omega : 0 ≤ fOf W p ∧ fOf W p < 8), h8 _ fp.1 (by omega), oneIf, bnO_s, if_pos (by omega : 0 ≤ fOf W q ∧ fOf W q < 8), h8 _ fq.1 (by omega), oneIf, bnO_s, nm_x, oneIf, bnO_s, nm_x, oneIf, bnO_s, wr_s (z := bi (hcl W q) - bi (hcl W p)) (by omega) (by omega), wr_s (z := cpN W (fOf W p) + (bi (hcl W q) - bi (hcl W p))) (by omega) (by omega), wr_s (z := cpN W (fOf W q) - (bi (hcl W q) - bi (hcl W p))) (by omega) (by omega)]
    have p1 := pos1_b (z := cpN W (fOf W p))
    have p2 := pos1_b (z := cpN W (fOf W q))
    have p3 := pos1_b (z := cpN W (fOf W p) + (bi (hcl W q) - bi (hcl W p)))
    have p4 := pos1_b (z := cpN W (fOf W q) - (bi (hcl W q) - bi (hcl W p)))
    rw [wr_s (by omega) (by omega)]
def bxF (W : Vw) (p q : Int) (s : Int × Int) : Int × Int := if s.2 < few W p q ∧ exR W p q = 0 then (100 * p + q, few W p q) else s
def bxG (W : Vw) (p : Int) (s : Int × Int) : Int × Int := itR (bxF W p) (p + 1) (pgs W + 1 - (p + 1)).toNat s
def bxN (W : Vw) : Int × Int := itR (bxG W) 1 (pgs W + 1 - 1).toNat (-1, 0)
theorem bx_class (h : PT S 5 W) (hG : Good W) : ∃ S1, fn_FP_betterExchange 0 S = some ((bxN W).1, S1) ∧ Off S S1 512 514 := by
  obtain ⟨S1, e1, o1, h8, h9⟩ := cc_all h
  have h1 := h.off o1 (by omega)
  have b := h.pl.b
  have e7 : g S1 5 1 = pgs W := h1.pl.gp
  refine ⟨S1, ?_, o1⟩
  have inn : ∀ (p : Int) (s : Int × Int), 1 ≤ p → p ≤ pgs W → lo_Searches_bestExchange_26 505 p S1 FU (s.1, s.2, p + 1) = some (bxG W p s) := fun p s p1 p2 => by
    exact lp_it (body := fun go p0 => lb_Searches_bestExchange_26 505 p S1 go p0.1 p0.2.1 p0.2.2) (fun i (s : Int × Int) => (s.1, s.2, i)) (bxF W p) (fun s => s) (fun i s => p + 1 ≤ i) (pgs W + 1)
      (fun go i s _ hi => by
        show lb_Searches_bestExchange_26 505 p S1 go s.1 s.2 i = _
        unfold lb_Searches_bestExchange_26
        rw [tg_505_0, e7, if_pos (by omega)])
      (fun go i s hI hi => by
        refine ⟨?_, by omega⟩
        show lb_Searches_bestExchange_26 505 p S1 go s.1 s.2 i = go ((bxF W p i s).1, (bxF W p i s).2, i + 1)
        unfold lb_Searches_bestExchange_26 bxF
        rw [tg_505_0, e7, if_neg (by omega : ¬ pgs W < i), few_class h1 h8 h9 ⟨p1, p2⟩ ⟨by omega, by omega⟩, bnO_s]
        by_cases c : few W p i ≤ s.2
        · rw [if_pos c, nm_x, wr_s (z := i + 1) (by omega) (by omega), if_neg (by omega : ¬ (s.2 < few W p i ∧ exR W p i = 0))]
        · rw [if_neg c, P_exReason h1 hG ⟨p1, p2⟩ ⟨by omega, by omega⟩, bnO_s]
          by_cases d : exR W p i = 0
          · rw [if_pos d, nm_x, nm_x, wr_s (z := i + 1) (by omega) (by omega), wr_s (z := 100 * p + i) (by omega) (by omega), if_pos ⟨by omega, d⟩]
          · rw [if_neg d, nm_x, wr_s (z := i + 1) (by omega) (by omega), if_neg (fun q => d q.2)]) (pgs W + 1 - (p + 1)).toNat FU (p + 1) s (Int.le_refl _) rfl (FU_lt (by omega))
  have out : lo_Searches_bestExchange_10 505 S1 FU (-1, 0, 1) = some (bxN W).1 :=
    lp_it (body := fun go p0 => lb_Searches_bestExchange_10 505 S1 go p0.1 p0.2.1 p0.2.2) (fun i (s : Int × Int) => (s.1, s.2, i)) (bxG W) (fun s => s.1) (fun i s => 1 ≤ i) (pgs W + 1)
      (fun go i s _ hi => by
        show lb_Searches_bestExchange_10 505 S1 go s.1 s.2 i = _
        unfold lb_Searches_bestExchange_10
        rw [tg_505_0, e7, if_pos (by omega)])
      (fun go i s hI hi => by
        refine ⟨?_, by omega⟩
        show lb_Searches_bestExchange_10 505 S1 go s.1 s.2 i = go ((bxG W i s).1, (bxG W i s).2, i + 1)
        unfold lb_Searches_bestExchange_10
        rw [tg_505_0, e7, if_neg (by omega : ¬ pgs W < i), nm_x, wr_s (z := i + 1) (by omega) (by omega), inn i s hI (by omega), bnO_s, nm_x]) (pgs W + 1 - 1).toNat FU 1 (-1, 0) (Int.le_refl _) rfl (FU_lt (by omega))
  unfold fn_FP_betterExchange fn_Searches_bestExchange
  rw [tg_0_2, e1, bnO_s, out, bnO_s, bnO_s]
theorem bxG_nn {W : Vw} {p : Int} {s : Int × Int} (h : 0 ≤ s.2) : 0 ≤ (bxG W p s).2 := by
  have q := itR_inv (f := bxF W p) (n := (pgs W + 1 - (p + 1)).toNat) (i := p + 1) (s := s) (I := fun j s => 0 ≤ s.2) (fun j s j1 j2 h => by
    show 0 ≤ (bxF W p j s).2
    unfold bxF
    split
    · rename_i c; show 0 ≤ few W p j; omega
    · exact h) h
  exact q
theorem adsO_nn (hV : Val W) {x : Int} : 0 ≤ adsO W x ∧ adsO W x ≤ 40 := by
  have b := hV.1.1
  have q := sumR_bd (w := fun a => if at_ W 6 a = x then (1 : Int) else 0) (l := 0) (h := 1) (n := (nA W).toNat) (i := 0) (fun j _ _ => by
      show 0 ≤ (if at_ W 6 j = x then (1 : Int) else 0) ∧ (if at_ W 6 j = x then (1 : Int) else 0) ≤ 1
      split <;> omega)
  unfold adsO sumA
  rw [wr_s (by omega) (by omega)]
  omega
theorem exR_free {p q : Int} (h : exR W p q = 0) : stOn W p (-1) = -1 ∧ stOn W q (-1) = -1 := by
  unfold exR at h
  by_cases c1 : prP W p = true ∨ prP W q = true
  · rw [if_pos c1] at h; omega
  · rw [if_neg c1] at h
    by_cases c2 : stOn W p (-1) ≠ -1 ∨ stOn W q (-1) ≠ -1
    · rw [if_pos c2] at h; omega
    · omega
end BetterL

