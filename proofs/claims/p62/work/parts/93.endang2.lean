/-! endangered -/
section Endang2
variable {W V V' : Vw} {S T0 T : St} {a f p i z n : Int} {hs : Int → Vw} {L : Nat → Int}
def edP (W : Vw) (a : Int) : Bool := decide (1 ≤ at_ W 6 a ∧ at_ W 15 (fOf W (at_ W 6 a)) = 0 ∧ at_ W 16 (fOf W (at_ W 6 a)) ≠ -1 ∧ at_ W 16 (fOf W (at_ W 6 a)) < at_ W 5 a)
def endW (W : Vw) : Int := sumA W (fun a => if edP W a = true then at_ W 4 a else 0)
theorem F_end (h : PT S 5 W) : lo_FP_endangered_27 0 7 24 S FU (0, 0) = some (wr (endW W)) := by
  have b := h.pl.b
  have fb := frm_b h.v
  have q := lp_sum (body := fun go p0 => lb_FP_endangered_27 0 7 24 S go p0.1 p0.2) (fun a => if edP W a = true then at_ W 4 a else 0) 0 (nA W)
    (fun go a i h0 => by
      show lb_FP_endangered_27 0 7 24 S go a i = _
      have e7 : g S 7 7 = nA W := h.pl.mA
      unfold lb_FP_endangered_27
      rw [e7, if_pos (by omega)])
    (fun go a i ha h1 h2 => by
      show lb_FP_endangered_27 0 7 24 S go a i = _
      have e7 : g S 7 7 = nA W := h.pl.mA
      have x6 : g S 14 i.toNat = at_ W 6 i := h.pl.a6 ⟨h1, h2⟩
      have x5 : g S 13 i.toNat = at_ W 5 i := h.pl.a5 ⟨h1, h2⟩
      have x4 : g S 12 i.toNat = at_ W 4 i := h.pl.a4 ⟨h1, h2⟩
      have v := h.v.2.1 i h1 h2
      have w0 : wr (a + 0) = a := by rw [Int.add_zero, wr_id ha]
      unfold lb_FP_endangered_27
      rw [e7, if_neg (by omega), if_pos (by omega : 0 ≤ i ∧ i < 40), tg_0_3, tg_7_6, x6, P_formAt h.pl, bnO_s, nm_x, wr_s (z := i + 1) (by omega) (by omega)]
      show _ = go (wr (a + if edP W i = true then at_ W 4 i else 0), i + 1)
      by_cases c1 : isP W (at_ W 6 i) = true
      · have pb := isP_b c1
        have fo := fOf_b h.v pb.1 pb.2
        obtain ⟨f, hf⟩ : ∃ f, f = fOf W (at_ W 6 i) := ⟨_, rfl⟩
        rw [if_pos c1, ← hf]
        rw [← hf] at fo
        have y1 : g S 26 f.toNat = at_ W 15 f := h.pl.f1 fo
        rw [if_neg (by omega : ¬ f = -1), if_pos (by omega : 0 ≤ f ∧ f < 8), tg_24_1, y1, tg_24_2, tg_7_5, x5, tg_7_4, x4, nm_x, nm_x]
        by_cases c2 : at_ W 15 f = 0
        · rw [if_pos c2]
          rcases h.pl.cl0 (a := f) fo with w | w
          · have w1 : g S 27 f.toNat = 0 := w.1
            have e : edP W i = false := decide_eq_false (fun y => y.2.2.1 (by rw [← hf]; exact w.2))
            rw [w1, if_pos rfl, e, if_neg Bool.false_ne_true, w0]
          · have w1 : g S 27 f.toNat = at_ W 16 f := w.1
            rw [w1, if_neg (by omega)]
            by_cases c3 : at_ W 5 i ≤ at_ W 16 f
            · have e : edP W i = false := decide_eq_false (fun y => by have := y.2.2.2; rw [← hf] at this; omega)
              rw [if_pos c3, e, if_neg Bool.false_ne_true, w0]
            · have e : edP W i = true := decide_eq_true (by rw [← hf]; exact ⟨pb.1, c2, by omega, by omega⟩)
              rw [if_neg c3, e, if_pos rfl]
        · have e : edP W i = false := decide_eq_false (fun y => c2 (by rw [hf]; exact y.2.1))
          rw [if_neg c2, e, if_neg Bool.false_ne_true, w0]
      · have e : edP W i = false := decide_eq_false (fun y => c1 (decide_eq_true ⟨y.1, v.2.2.2.2.2.2.2⟩))
        rw [if_neg c1, if_pos rfl, e, if_neg Bool.false_ne_true, w0]) (n := FU) (a := 0) in0 (FU_lt (by omega))
  rw [Int.zero_add, Int.sub_zero] at q
  exact q
def unP (W : Vw) : Int := sumR (fun f => if at_ W 15 f = 0 then (1 : Int) else 0) 0 (frm W).toNat
theorem end_step (hG : G3 W) (hf : 0 ≤ f ∧ f < frm W) (h15 : at_ W 15 f = 0) (h16 : at_ W 16 f ≠ -1) : wr (lo_ (clW f (up W 17 5 (at_ W 16 f))) + endW (clW f (up W 17 5 (at_ W 16 f)))) = wr (lo_ W + endW W) ∧ unP (clW f (up W 17 5 (at_ W 16 f))) + 1 ≤ unP W := by
  have b := hG.1.z
  have v := hG.1.2.2.2.2 f hf.1 hf.2
  obtain ⟨U, hU⟩ : ∃ U, U = up W 17 5 (at_ W 16 f) := ⟨_, rfl⟩
  have nU : N5 W U := by rw [hU]; exact N5_up17 (by decide)
  have gU : G3 U := by rw [hU]; exact hG.setT (by omega)
  have tU : tm U = at_ W 16 f := by rw [hU]; exact tm_tm
  have lU : lo_ U = lo_ W := by rw [hU]; exact lo_tm
  have aU : ∀ (k : Nat) x, k ≠ 17 → at_ U k x = at_ W k x := fun k x hk => by rw [hU]; exact at_upn hk
  have fU : ∀ q, fOf U q = fOf W q := fun q => by unfold fOf; rw [nU.2.2.2.2]
  rw [← hU]
  have e := clW_e (f := f) gU.1
  have nV := (clW_n (W := U) (f := f)).1
  have fV : ∀ q, fOf (clW f U) q = fOf W q := fun q => by rw [← fU]; unfold fOf; rw [nV.2.2.2.2]
  have aV : ∀ (k : Nat) x, k ≠ 6 → k ≠ 11 → k ≠ 13 → k ≠ 17 → k ≠ 15 → at_ (clW f U) k x = at_ W k x := fun k x k1 k2 k3 k4 k5 => by rw [clW_at k1 k2 k3 k4 k5, aU k x k4]
  refine ⟨?_, ?_⟩
  · rw [wr_c e.2, lU, Int.add_assoc]
    congr 2
    unfold endW sumA
    rw [nV.1, nU.1, ← sumR_add]
    refine sumR_congr (fun x x1 x2 => ?_)
    show (if lsB U f (pgs U + 1) x = true then at_ U 4 x else 0) + (if edP (clW f U) x = true then at_ (clW f U) 4 x else 0) = if edP W x = true then at_ W 4 x else 0
    have xn : x < nA W := by omega
    have vx := hG.1.2.1 x x1 xn
    have e6 := e.1 x x1 (by rw [nU.1]; exact xn)
    rw [aU 4 x (by decide), aV 4 x (by decide) (by decide) (by decide) (by decide) (by decide)]
    have ls : lsB U f (pgs U + 1) x = decide (1 ≤ at_ W 6 x ∧ fOf W (at_ W 6 x) = f ∧ at_ W 16 f < at_ W 5 x) := by
      unfold lsB laA
      rw [aU 6 x (by decide), aU 5 x (by decide), fU, tU, N5_pgs nU]
      by_cases y : 1 ≤ at_ W 6 x ∧ fOf W (at_ W 6 x) = f ∧ at_ W 16 f < at_ W 5 x
      · rw [decide_eq_true y, decide_eq_true (p := 1 ≤ at_ W 6 x ∧ at_ W 6 x < pgs W + 1 ∧ fOf W (at_ W 6 x) = f) ⟨y.1, by omega, y.2.1⟩, decide_eq_true y.2.2]
        rfl
      · rw [decide_eq_false y]
        by_cases y2 : at_ W 16 f < at_ W 5 x
        · rw [decide_eq_false (p := 1 ≤ at_ W 6 x ∧ at_ W 6 x < pgs W + 1 ∧ fOf W (at_ W 6 x) = f) (fun w => y ⟨w.1, w.2.2, y2⟩), Bool.false_and]
        · rw [decide_eq_false y2, Bool.and_false]
    rw [ls, aU 6 x (by decide)] at e6
    rw [ls]
    by_cases y : 1 ≤ at_ W 6 x ∧ fOf W (at_ W 6 x) = f ∧ at_ W 16 f < at_ W 5 x
    · rw [decide_eq_true y, if_pos rfl] at e6
      have e1 : edP (clW f U) x = false := decide_eq_false (fun w => by have := w.1; omega)
      have e2 : edP W x = true := decide_eq_true ⟨y.1, by rw [y.2.1]; exact h15, by rw [y.2.1]; exact h16, by rw [y.2.1]; exact y.2.2⟩
      rw [decide_eq_true y, e1, e2, if_pos rfl, if_neg Bool.false_ne_true, Int.add_zero]
    · rw [decide_eq_false y, if_neg Bool.false_ne_true] at e6
      have ee : edP (clW f U) x = edP W x := by
        unfold edP
        rw [e6, fV, aV 16 _ (by decide) (by decide) (by decide) (by decide) (by decide), aV 5 _ (by decide) (by decide) (by decide) (by decide) (by decide)]
        by_cases c1 : 1 ≤ at_ W 6 x
        · have fo := fOf_b hG.1 c1 (by omega)
          have e15 := clW_15 (W := U) (f := f) hf.1 (x := fOf W (at_ W 6 x)) fo.1
          by_cases c2 : fOf W (at_ W 6 x) = f
          · rw [e15, if_pos c2, decide_eq_false (p := 1 ≤ at_ W 6 x ∧ (1 : Int) = 0 ∧ _) (fun w => by have := w.2.1; omega)]
            rw [decide_eq_false (fun w => y ⟨c1, c2, by have := w.2.2.2; rw [c2] at this; exact this⟩)]
          · rw [e15, if_neg c2, aU 15 _ (by decide)]
        · rw [decide_eq_false (fun w => c1 w.1), decide_eq_false (fun w => c1 w.1)]
      rw [decide_eq_false y, ee, if_neg Bool.false_ne_true, Int.zero_add]
  · unfold unP
    have ef : frm (clW f U) = frm W := by rw [frm_clW]; unfold frm; rw [nU.2.2.2.1]
    rw [ef]
    refine sumR_strict (w := fun x => if at_ (clW f U) 15 x = 0 then (1 : Int) else 0) (w' := fun x => if at_ W 15 x = 0 then (1 : Int) else 0) (x := f) (fun j j1 j2 => ?_) hf.1 (by omega) ?_
    · show (if at_ (clW f U) 15 j = 0 then (1 : Int) else 0) ≤ if at_ W 15 j = 0 then (1 : Int) else 0
      rw [clW_15 hf.1 j1, aU 15 j (by decide)]
      by_cases c : j = f
      · rw [if_pos c, if_neg (c := (1 : Int) = 0) (by decide)]
        split <;> decide
      · rw [if_neg c]; exact Int.le_refl _
    · show (if at_ (clW f U) 15 f = 0 then (1 : Int) else 0) + 1 ≤ if at_ W 15 f = 0 then (1 : Int) else 0
      rw [clW_15 hf.1 hf.1, if_pos rfl, if_pos h15, if_neg (c := (1 : Int) = 0) (by decide)]
      decide
theorem end_none (h : ∀ f, 0 ≤ f → f < frm W → at_ W 15 f = 0 → at_ W 16 f = -1) (hV : Val W) : endW W = 0 := by
  unfold endW sumA
  have b := hV.z
  refine sumR_0 (fun x x1 x2 => ?_)
  show (if edP W x = true then at_ W 4 x else 0) = 0
  have vx := hV.2.1 x x1 (by omega)
  rw [if_neg (fun w => ?_)]
  have y := of_decide_eq_true w
  have fo := fOf_b hV y.1 (by omega)
  exact y.2.2.1 (h _ fo.1 fo.2 y.2.1)
end Endang2

