/-! THE TABLES MADE ANEW -/
theorem lp_inv {α β σ : Type} {body : (α → Option β) → α → Option β} (mk : Int → σ → α) (out : σ → β) (I : Int → σ → Prop) (B : Int)
    (hx : ∀ go i s, I i s → B ≤ i → body go (mk i s) = some (out s)) (hs : ∀ go i s, I i s → i < B → ∃ s', body go (mk i s) = go (mk (i + 1) s') ∧ I (i + 1) s') :
    ∀ (m n : Nat) (i : Int) (s : σ), I i s → i ≤ B → (B - i).toNat = m → m < n → ∃ s', lp body n (mk i s) = some (out s') ∧ I B s'
  | 0, n + 1, i, s, hI, hB, hm, _ => by
    have e : i = B := by omega
    subst e
    exact ⟨s, hx _ i s hI (Int.le_refl _), hI⟩
  | m + 1, n + 1, i, s, hI, hB, hm, hn => by
    obtain ⟨s', e, hI'⟩ := hs (lp body n) i s hI (by omega)
    obtain ⟨s'', e', hI''⟩ := lp_inv mk out I B hx hs m n (i + 1) s' hI' (by omega) (by omega) (by omega)
    exact ⟨s'', by rw [lp_succ, e]; exact e', hI''⟩
theorem A_fill {S : St} {N c : Nat} {z : Int} (hN : N ≤ 9999) : ∃ S', fn_Arrays_fill N c z S = some S' ∧ Off S S' c (c + 1) ∧ ∀ f, f < N → g S' c f = wr z := by
  obtain ⟨S', e, h1, h2, h3⟩ := lp_inv (body := fun go p => lb_Arrays_fill_5 N c z (N : Int) go p.1 p.2) (fun i s => (i, s)) id (fun i s => 0 ≤ i ∧ Off S s c (c + 1) ∧ ∀ f : Nat, (f : Int) < i → g s c f = wr z) (N : Int)
    (fun go i s hI hi => by
      show lb_Arrays_fill_5 N c z (N : Int) go i s = _
      unfold lb_Arrays_fill_5
      rw [if_pos hi]; rfl)
    (fun go i s hI hi => by
      refine ⟨u s c i.toNat z, ?_, by omega, hI.2.1.tu (Nat.le_refl _) (by omega), fun f hf => ?_⟩
      · show lb_Arrays_fill_5 N c z (N : Int) go i s = _
        unfold lb_Arrays_fill_5
        rw [if_neg (by omega), if_pos (by omega), nm_x, nm_x, wr_s (by omega) (by omega)]
      · rw [g_w]
        split
        · rfl
        · exact hI.2.2 f (by omega)) N FU 0 S ⟨Int.le_refl _, Off.refl, fun f hf => by omega⟩ (by omega) (by omega) (FU_lt (by omega))
  refine ⟨S', ?_, h2, fun f hf => h3 f (by omega)⟩
  unfold fn_Arrays_fill
  have e2 : lo_Arrays_fill_5 N c z (N : Int) FU (0, S) = some S' := e
  rw [e2, bnO_s]
section Recount
variable {S : St} {p : Nat} {W : Vw}
theorem isP_n {q : Int} (h : q = 0) : isP W q = false := decide_eq_false (by omega)
theorem isP_y {q : Int} (h : 1 ≤ q ∧ q ≤ pgs W) : isP W q = true := decide_eq_true h
theorem sumR_to {w : Int → Int} {i : Int} (h : 0 ≤ i) : sumR w 0 (i + 1).toNat = sumR w 0 i.toNat + w i := by
  rw [show (i + 1).toNat = i.toNat + 1 by omega, sumR_snoc, show (0 : Int) + (i.toNat : Int) = i by omega]
theorem R_ads (h : PL S p W) (h5 : ∀ q : Int, 1 ≤ q → q < 65 → g S (p + 25) q.toNat = 4) (h7 : ∀ y s : Int, 0 ≤ y → y ≤ 9 → 0 ≤ s → s ≤ 32 → g S (p + 27) (y * 33 + s).toNat = 0) : ∃ S', lo_Plan_recount_34 p (p + 2) FU (0, S) = some S' ∧ Off S S' (p + 25) (p + 28) ∧ (∀ q : Int, 1 ≤ q → q < 65 → g S' (p + 25) q.toNat = wr (4 + sumA W (fun a => -szA W q (-1) a))) ∧ (∀ q : Int, g S' (p + 26) q.toNat = g S (p + 26) q.toNat) ∧ (∀ y s : Int, 0 ≤ y → y ≤ 9 → 0 ≤ s → s ≤ 32 → g S' (p + 27) (y * 33 + s).toNat = grp W y s) := by
  have b := h.b
  have hq := h.q
  obtain ⟨S', e, h0, h1, h2, h3, h4⟩ := lp_inv (body := fun go p0 => lb_Plan_recount_34 p (p + 2) go p0.1 p0.2) (fun i s => (i, s)) id (fun i s => 0 ≤ i ∧ Off S s (p + 25) (p + 28) ∧ (∀ q : Int, 1 ≤ q → q < 65 → g s (p + 25) q.toNat = wr (4 + sumR (fun a => -szA W q (-1) a) 0 i.toNat)) ∧ (∀ q : Int, g s (p + 26) q.toNat = g S (p + 26) q.toNat) ∧ (∀ y t : Int, 0 ≤ y → y ≤ 9 → 0 ≤ t → t ≤ 32 → g s (p + 27) (y * 33 + t).toNat = wr (sumR (fun a => if grpP W y t a = true then 1 else 0) 0 i.toNat))) (nA W)
    (fun go i s hI hi => by
      show lb_Plan_recount_34 p (p + 2) go i s = _
      unfold lb_Plan_recount_34
      rw [(h.off hI.2.1 (.inr (Nat.le_refl _))).mA, if_pos hi]; rfl)
    (fun go i s hI hi => by
      obtain ⟨hi0, hO, hL, hT, hG⟩ := hI
      have hs := h.off hO (.inr (Nat.le_refl _))
      have v := h.v.2.1 i hi0 hi
      have e6 := hs.a6 ⟨hi0, hi⟩
      have e0 := hs.a0 ⟨hi0, hi⟩
      have e1 := hs.a1 ⟨hi0, hi⟩
      by_cases c : at_ W 6 i = 0
      · refine ⟨s, ?_, by omega, hO, fun q q1 q2 => ?_, hT, fun y t y1 y2 t1 t2 => ?_⟩
        · show lb_Plan_recount_34 p (p + 2) go i s = _
          unfold lb_Plan_recount_34
          simp only [hs.mA, tq_A6 hq, e6]
          rw [if_neg (by omega), if_pos (by omega), P_hasPage hs, bnO_s, isP_n c, if_neg Bool.false_ne_true, nm_x, wr_s (by omega) (by omega)]
        · have ez : szA W q (-1) i = 0 := if_neg (fun z => by omega)
          rw [hL q q1 q2, sumR_to hi0, ez]
          congr 1; omega
        · rw [hG y t y1 y2 t1 t2, sumR_to hi0]
          rw [show grpP W y t i = false from decide_eq_false (by omega), if_neg (by decide)]
          congr 1; omega
      · obtain ⟨s1, es1⟩ : ∃ s1, s1 = u s (p + 25) (at_ W 6 i).toNat (g s (p + 25) (at_ W 6 i).toNat - at_ W 0 i) := ⟨_, rfl⟩
        have e1' : g s1 (p + 4) i.toNat = at_ W 1 i := by rw [es1, g_ne (by omega)]; exact e1
        refine ⟨u s1 (p + 27) (at_ W 1 i * 33 + at_ W 6 i / 2).toNat (g s1 (p + 27) (at_ W 1 i * 33 + at_ W 6 i / 2).toNat + 1), ?_, by omega, ?_, fun q q1 q2 => ?_, fun q => ?_, fun y t y1 y2 t1 t2 => ?_⟩
        · show lb_Plan_recount_34 p (p + 2) go i s = _
          unfold lb_Plan_recount_34
          simp only [hs.mA, tq_A6 hq, tq_A0 hq, tq_A1 hq, tq_5 hq, tq_7 hq, e6, e0, nm_x]
          rw [if_neg (by omega), if_pos (by omega), P_hasPage hs, bnO_s, isP_y (by omega), if_pos rfl, if_pos (by omega), ← es1, e1', td_n (by omega), if_pos (by omega), wr_s (by omega) (by omega)]
        · rw [es1]; exact (hO.tu (by omega) (by omega)).tu (by omega) (by omega)
        · rw [g_ne (by omega), es1, sumR_to hi0]
          by_cases d : at_ W 6 i = q
          · have ez : szA W q (-1) i = at_ W 0 i := if_pos ⟨by omega, d⟩
            rw [d, g_eq, hL q q1 q2, ez, sub_neg', wr_add]
            congr 1; omega
          · have ez : szA W q (-1) i = 0 := if_neg (fun z => d z.2)
            rw [g_ne (by omega), hL q q1 q2, ez]
            congr 1; omega
        · rw [g_ne (by omega), es1, g_ne (by omega)]; exact hT q
        · rw [g_w, sumR_to hi0]
          by_cases d : at_ W 1 i = y ∧ at_ W 6 i / 2 = t
          · rw [if_pos ⟨rfl, by omega⟩, show grpP W y t i = true from decide_eq_true ⟨d.1, by omega, d.2⟩, if_pos rfl, es1, g_ne (by omega), d.1, d.2, hG y t y1 y2 t1 t2, wr_add]
          · rw [if_neg (by omega), show grpP W y t i = false from decide_eq_false (fun z => d ⟨z.1, z.2.2⟩), if_neg (by decide), es1, g_ne (by omega), hG y t y1 y2 t1 t2]
            congr 1; omega) (nA W).toNat FU 0 S ⟨Int.le_refl _, Off.refl, fun q q1 q2 => by rw [h5 q q1 q2]; exact (wr_s (by decide) (by decide)).symm, fun q => rfl, fun y s a1 a2 a3 a4 => by rw [h7 y s a1 a2 a3 a4]; exact (wr_s (by decide) (by decide)).symm⟩ (by omega) (by omega) (FU_lt (by omega))
  refine ⟨S', e, h1, h2, h3, fun y s a1 a2 a3 a4 => ?_⟩
  rw [h4 y s a1 a2 a3 a4]
  have q := grp_cnt h.v (y := y) (s := s)
  have q1 : sumR (fun a => if grpP W y s a = true then 1 else 0) 0 (nA W).toNat = grp W y s := q.1.symm
  rw [q1, wr_s (by omega) (by omega)]
theorem R_stb (h : PL S p W) {F : Int → Int} (h5 : ∀ q : Int, 1 ≤ q → q < 65 → g S (p + 25) q.toNat = wr (F q)) : ∃ S', lo_Plan_recount_110 p (p + 16) FU (0, S) = some S' ∧ Off S S' (p + 25) (p + 26) ∧ (∀ q : Int, 1 ≤ q → q < 65 → g S' (p + 25) q.toNat = wr (F q + sumB W (fun a => -szB W q (-1) a))) := by
  have b := h.b
  have hq := h.q
  obtain ⟨S', e, h0, h1, h2⟩ := lp_inv (body := fun go p0 => lb_Plan_recount_110 p (p + 16) go p0.1 p0.2) (fun i s => (i, s)) id (fun i s => 0 ≤ i ∧ Off S s (p + 25) (p + 26) ∧ (∀ q : Int, 1 ≤ q → q < 65 → g s (p + 25) q.toNat = wr (F q + sumR (fun a => -szB W q (-1) a) 0 i.toNat))) (nB W)
    (fun go i s hI hi => by
      show lb_Plan_recount_110 p (p + 16) go i s = _
      unfold lb_Plan_recount_110
      rw [(h.off hI.2.1 (.inr (Nat.le_refl _))).mB, if_pos hi]; rfl)
    (fun go i s hI hi => by
      obtain ⟨hi0, hO, hL⟩ := hI
      have hs := h.off hO (.inr (Nat.le_refl _))
      have v := h.v.2.2.2.1 i hi0 hi
      have e6 := hs.b1 ⟨hi0, hi⟩
      have e0 := hs.b0 ⟨hi0, hi⟩
      by_cases c : at_ W 13 i = 0
      · refine ⟨s, ?_, by omega, hO, fun q q1 q2 => ?_⟩
        · show lb_Plan_recount_110 p (p + 16) go i s = _
          unfold lb_Plan_recount_110
          simp only [hs.mB, tq_B1 hq, e6]
          rw [if_neg (by omega), if_pos (by omega), P_hasPage hs, bnO_s, isP_n c, if_neg Bool.false_ne_true, nm_x, wr_s (by omega) (by omega)]
        · have ez : szB W q (-1) i = 0 := if_neg (fun z => by omega)
          rw [hL q q1 q2, sumR_to hi0, ez]
          congr 1; omega
      · refine ⟨u s (p + 25) (at_ W 13 i).toNat (g s (p + 25) (at_ W 13 i).toNat - at_ W 12 i), ?_, by omega, hO.tu (by omega) (by omega), fun q q1 q2 => ?_⟩
        · show lb_Plan_recount_110 p (p + 16) go i s = _
          unfold lb_Plan_recount_110
          simp only [hs.mB, tq_B0 hq, tq_B1 hq, tq_5 hq, e6, e0, nm_x]
          rw [if_neg (by omega), if_pos (by omega), P_hasPage hs, bnO_s, isP_y (by omega), if_pos rfl, if_pos (by omega), wr_s (by omega) (by omega)]
        · rw [sumR_to hi0]
          by_cases d : at_ W 13 i = q
          · have ez : szB W q (-1) i = at_ W 12 i := if_pos ⟨by omega, d⟩
            rw [d, g_eq, hL q q1 q2, ez, sub_neg', wr_add]
            congr 1; omega
          · have ez : szB W q (-1) i = 0 := if_neg (fun z => d z.2)
            rw [g_ne (by omega), hL q q1 q2, ez]
            congr 1; omega) (nB W).toNat FU 0 S ⟨Int.le_refl _, Off.refl, fun q q1 q2 => by rw [h5 q q1 q2]; exact congrArg wr (Int.add_zero _).symm⟩ (by omega) (by omega) (FU_lt (by omega))
  exact ⟨S', e, h1, h2⟩
theorem R_story (h : PL S p W) {s : Int} (hs : 0 ≤ s ∧ s < nS W) : ∃ S', lo_Plan_recount_224 p (p + 10) s (if at_ W 11 s = 0 then 0 else at_ W 11 s + at_ W 7 s) FU (at_ W 11 s, S) = some S' ∧ Off S S' (p + 25) (p + 27) ∧ (∀ q : Int, 1 ≤ q → q < 65 → (cov W s q = true → g S' (p + 25) q.toNat = 0 ∧ g S' (p + 26) q.toNat = s) ∧ (cov W s q = false → g S' (p + 25) q.toNat = g S (p + 25) q.toNat ∧ g S' (p + 26) q.toNat = g S (p + 26) q.toNat)) := by
  have b := h.b
  have hq := h.q
  have v := h.v.2.2.1 s hs.1 hs.2
  by_cases c : at_ W 11 s = 0
  · refine ⟨S, ?_, Off.refl, fun q q1 q2 => ⟨fun z => ?_, fun _ => ⟨rfl, rfl⟩⟩⟩
    · rw [if_pos c]
      show lp _ FU _ = _
      rw [show FU = 19999 + 1 from rfl, lp_succ]
      show lb_Plan_recount_224 p (p + 10) s 0 _ (at_ W 11 s) S = _
      unfold lb_Plan_recount_224
      rw [if_pos (by omega)]
    · have := of_decide_eq_true z; omega
  · obtain ⟨S', e, h0, h1, h2⟩ := lp_inv (body := fun go p0 => lb_Plan_recount_224 p (p + 10) s (at_ W 11 s + at_ W 7 s) go p0.1 p0.2) (fun i t => (at_ W 11 s + i, t)) id (fun i t => 0 ≤ i ∧ Off S t (p + 25) (p + 27) ∧ (∀ q : Int, 1 ≤ q → q < 65 → (at_ W 11 s ≤ q ∧ q < at_ W 11 s + i → g t (p + 25) q.toNat = 0 ∧ g t (p + 26) q.toNat = s) ∧ (¬ (at_ W 11 s ≤ q ∧ q < at_ W 11 s + i) → g t (p + 25) q.toNat = g S (p + 25) q.toNat ∧ g t (p + 26) q.toNat = g S (p + 26) q.toNat))) (at_ W 7 s)
      (fun go i t hI hi => by
        show lb_Plan_recount_224 p (p + 10) s (at_ W 11 s + at_ W 7 s) go (at_ W 11 s + i) t = _
        unfold lb_Plan_recount_224
        rw [if_pos (by omega)]; rfl)
      (fun go i t hI hi => by
        obtain ⟨hi0, hO, hL⟩ := hI
        have ht := h.off hO (.inr (Nat.le_refl _))
        refine ⟨u (u t (p + 25) (at_ W 11 s + i).toNat 0) (p + 26) (at_ W 11 s + i).toNat s, ?_, by omega, (hO.tu (by omega) (by omega)).tu (by omega) (by omega), fun q q1 q2 => ⟨fun d => ?_, fun d => ?_⟩⟩
        · show lb_Plan_recount_224 p (p + 10) s (at_ W 11 s + at_ W 7 s) go (at_ W 11 s + i) t = _
          unfold lb_Plan_recount_224
          simp only [tq_5 hq, tq_6 hq, nm_x]
          rw [if_neg (by omega), if_pos (by omega), wr_s (z := at_ W 11 s + i + 1) (by omega) (by omega), show at_ W 11 s + (i + 1) = at_ W 11 s + i + 1 by omega]
        · by_cases d2 : q = at_ W 11 s + i
          · subst d2
            rw [g_ne (by omega), g_eq, g_eq, wr_s (by omega) (by omega), wr_s (by omega) (by omega)]
            exact ⟨rfl, rfl⟩
          · rw [g_ne (by omega), g_ne (by omega), g_ne (by omega), g_ne (by omega)]
            exact (hL q q1 q2).1 (by omega)
        · rw [g_ne (by omega), g_ne (by omega), g_ne (by omega), g_ne (by omega)]
          exact (hL q q1 q2).2 (by omega)) (at_ W 7 s).toNat FU 0 S ⟨Int.le_refl _, Off.refl, fun q q1 q2 => ⟨fun d => by omega, fun _ => ⟨rfl, rfl⟩⟩⟩ (by omega) (by omega) (FU_lt (by omega))
    refine ⟨S', by rw [if_neg c]; have e' := e; rw [Int.add_zero] at e'; exact e', h1, fun q q1 q2 => ⟨fun z => (h2 q q1 q2).1 ?_, fun z => (h2 q q1 q2).2 ?_⟩⟩
    · have := of_decide_eq_true z; omega
    · have := of_decide_eq_false z; omega
theorem R_stories (h : PL S p W) (hW : Wf W) (l5 : ∀ q : Int, 1 ≤ q → q < 65 → g S (p + 25) q.toNat = room W q (-1) (-1)) (t5 : ∀ q : Int, 1 ≤ q → q < 65 → g S (p + 26) q.toNat = -1) : ∃ S', lo_Plan_recount_168 p (p + 10) FU (0, S) = some S' ∧ Off S S' (p + 25) (p + 27) ∧ (∀ q : Int, 1 ≤ q → q < 65 → ((∀ s, 0 ≤ s → s < nS W → cov W s q = false) → g S' (p + 25) q.toNat = room W q (-1) (-1) ∧ g S' (p + 26) q.toNat = -1) ∧ (∀ s, 0 ≤ s → s < nS W → cov W s q = true → g S' (p + 25) q.toNat = 0 ∧ g S' (p + 26) q.toNat = s)) := by
  have b := h.b
  have hq := h.q
  obtain ⟨S6, e6, h60, o6, l6⟩ := lp_inv (body := fun go p0 => lb_Plan_recount_168 p (p + 10) go p0.1 p0.2) (fun i s => (i, s)) id (fun i t => 0 ≤ i ∧ Off S t (p + 25) (p + 27) ∧ (∀ q : Int, 1 ≤ q → q < 65 → ((∀ s, 0 ≤ s → s < i → cov W s q = false) → g t (p + 25) q.toNat = room W q (-1) (-1) ∧ g t (p + 26) q.toNat = -1) ∧ (∀ s, 0 ≤ s → s < i → cov W s q = true → g t (p + 25) q.toNat = 0 ∧ g t (p + 26) q.toNat = s))) (nS W)
    (fun go i t hI hi => by
      show lb_Plan_recount_168 p (p + 10) go i t = _
      unfold lb_Plan_recount_168
      rw [(h.off hI.2.1 (.inr (Nat.le_refl _))).mS, if_pos hi]; rfl)
    (fun go i t hI hi => by
      obtain ⟨hi0, hO, hL⟩ := hI
      have ht := h.off hO (.inr (Nat.le_refl _))
      obtain ⟨t', et, ot, lt⟩ := R_story ht (s := i) ⟨hi0, hi⟩
      refine ⟨t', ?_, by omega, hO.trans ot, fun q q1 q2 => ⟨fun d => ?_, fun s s1 s2 sc => ?_⟩⟩
      · show lb_Plan_recount_168 p (p + 10) go i t = _
        unfold lb_Plan_recount_168
        have v := h.v.2.2.1 i hi0 hi
        simp only [tq_S4 hq, tq_S0 hq, ht.mS, ht.s4 ⟨hi0, hi⟩, ht.s0 ⟨hi0, hi⟩, ht.gp, P_hasPage ht, bnO_s, nm_x]
        rw [if_neg (by omega), if_pos (by omega)]
        by_cases c : at_ W 11 i = 0
        · rw [if_pos c] at et
          rw [isP_n c, if_neg Bool.false_ne_true, et, bnO_s, wr_s (by omega) (by omega)]
        · rw [if_neg c] at et
          rw [isP_y (by omega), if_pos rfl, wr_s (z := at_ W 11 i + at_ W 7 i) (by omega) (by omega), wr_s (z := pgs W + 1) (by omega) (by omega), show i_min (at_ W 11 i + at_ W 7 i) (pgs W + 1) = at_ W 11 i + at_ W 7 i by unfold i_min; split <;> omega, et, bnO_s, wr_s (by omega) (by omega)]
      · have z := (lt q q1 q2).2 (d i hi0 (by omega))
        rw [z.1, z.2]
        exact (hL q q1 q2).1 (fun s s1 s2 => d s s1 (by omega))
      · by_cases d : s = i
        · subst d
          exact (lt q q1 q2).1 sc
        · have ci : cov W i q = false := (hW.2 s s1 (by omega) q sc).2.2 i hi0 hi (fun z => d z.symm)
          have z := (lt q q1 q2).2 ci
          rw [z.1, z.2]
          exact (hL q q1 q2).2 s s1 (by omega) sc) (nS W).toNat FU 0 S ⟨Int.le_refl _, Off.refl, fun q q1 q2 => ⟨fun _ => ⟨l5 q q1 q2, t5 q q1 q2⟩, fun s s1 s2 => by omega⟩⟩ (by omega) (by omega) (FU_lt (by omega))
  exact ⟨S6, e6, o6, l6⟩
theorem wr_4 : wr 4 = 4 := wr_s (by decide) (by decide)
theorem wr_m1 : wr (-1) = -1 := wr_s (by decide) (by decide)
theorem wr_0 : wr 0 = 0 := wr_s (by decide) (by decide)
theorem R_fills {S : St} {p : Nat} : ∃ S1 S2 S3, fn_Arrays_fill 65 (p + 25) 4 S = some S1 ∧ fn_Arrays_fill 65 (p + 26) (-1) S1 = some S2 ∧ fn_Arrays_fill 330 (p + 27) 0 S2 = some S3 ∧ Off S S3 (p + 25) (p + 28) ∧ (∀ q : Int, 1 ≤ q → q < 65 → g S3 (p + 25) q.toNat = 4) ∧ (∀ q : Int, 1 ≤ q → q < 65 → g S3 (p + 26) q.toNat = -1) ∧ (∀ y s : Int, 0 ≤ y → y ≤ 9 → 0 ≤ s → s ≤ 32 → g S3 (p + 27) (y * 33 + s).toNat = 0) := by
  obtain ⟨S1, e1, o1, f1⟩ := A_fill (S := S) (N := 65) (c := p + 25) (z := 4) (by decide)
  obtain ⟨S2, e2, o2, f2⟩ := A_fill (S := S1) (N := 65) (c := p + 26) (z := -1) (by decide)
  obtain ⟨S3, e3, o3, f3⟩ := A_fill (S := S2) (N := 330) (c := p + 27) (z := 0) (by decide)
  refine ⟨S1, S2, S3, e1, e2, e3, ((o1.mono (Nat.le_refl _) (by omega)).trans (o2.mono (by omega) (by omega))).trans (o3.mono (by omega) (by omega)), fun q q1 q2 => ?_, fun q q1 q2 => ?_, fun y s y1 y2 s1 s2 => ?_⟩
  · rw [o3.rd (by omega), o2.rd (by omega), f1 _ (by omega), wr_4]
  · rw [o3.rd (by omega), f2 _ (by omega), wr_m1]
  · rw [f3 _ (by omega), wr_0]
theorem R_tabs {S' : St} (h : PL S' p W) (hW : Wf W) (l6 : ∀ q : Int, 1 ≤ q → q < 65 → ((∀ s, 0 ≤ s → s < nS W → cov W s q = false) → g S' (p + 25) q.toNat = room W q (-1) (-1) ∧ g S' (p + 26) q.toNat = -1) ∧ (∀ s, 0 ≤ s → s < nS W → cov W s q = true → g S' (p + 25) q.toNat = 0 ∧ g S' (p + 26) q.toNat = s)) (g6 : ∀ y s : Int, 0 ≤ y → y ≤ 9 → 0 ≤ s → s ≤ 32 → g S' (p + 27) (y * 33 + s).toNat = grp W y s) : PT S' p W := by
  have b := h.b
  refine ⟨h, ⟨fun q q1 q2 => ?_, g6⟩, hW⟩
  have z := l6 q q1 (by omega)
  rcases stOn_spec h.v (p := q) (but := -1) with ⟨g1, g2⟩ | ⟨g1, g2, g3, g4⟩
  · have el : lf W q = room W q (-1) (-1) := by unfold lf lefO; rw [if_pos g1]
    rw [el, g1]
    exact z.1 (fun s s1 s2 => g2 s s1 s2 (by omega))
  · have el : lf W q = 0 := by unfold lf lefO; rw [if_neg g3]
    rw [el]
    exact z.2 _ g1 g2 g4
theorem R_mid (h : PL S p W) {S3 : St} (O3 : Off S S3 (p + 25) (p + 28)) (l3 : ∀ q : Int, 1 ≤ q → q < 65 → g S3 (p + 25) q.toNat = 4) (t3 : ∀ q : Int, 1 ≤ q → q < 65 → g S3 (p + 26) q.toNat = -1) (g3 : ∀ y s : Int, 0 ≤ y → y ≤ 9 → 0 ≤ s → s ≤ 32 → g S3 (p + 27) (y * 33 + s).toNat = 0) : ∃ S4 S5, lo_Plan_recount_34 p (p + 2) FU (0, S3) = some S4 ∧ lo_Plan_recount_110 p (p + 16) FU (0, S4) = some S5 ∧ Off S S5 (p + 25) (p + 28) ∧ (∀ q : Int, 1 ≤ q → q < 65 → g S5 (p + 25) q.toNat = room W q (-1) (-1)) ∧ (∀ q : Int, 1 ≤ q → q < 65 → g S5 (p + 26) q.toNat = -1) ∧ (∀ y s : Int, 0 ≤ y → y ≤ 9 → 0 ≤ s → s ≤ 32 → g S5 (p + 27) (y * 33 + s).toNat = grp W y s) := by
  have h3 := h.off O3 (.inr (Nat.le_refl _))
  obtain ⟨S4, e4, o4, l4, t4, g4⟩ := R_ads h3 l3 g3
  have h4 := h3.off o4 (.inr (Nat.le_refl _))
  obtain ⟨S5, e5, o5, l5⟩ := R_stb h4 (F := fun q => 4 + sumA W (fun a => -szA W q (-1) a)) l4
  refine ⟨S4, S5, e4, e5, (O3.trans o4).trans (o5.mono (Nat.le_refl _) (by omega)), fun q q1 q2 => ?_, fun q q1 q2 => ?_, fun y s y1 y2 s1 s2 => ?_⟩
  · rw [l5 q q1 q2]; exact (room.eq_1 W q (-1) (-1)).symm
  · rw [o5.rd (by omega), t4 q]; exact t3 q q1 q2
  · rw [o5.rd (by omega)]; exact g4 y s y1 y2 s1 s2
theorem P_recount (h : PL S p W) (hW : Wf W) : ∃ S', fn_Plan_recount p S = some S' ∧ Off S S' (p + 25) (p + 28) ∧ PT S' p W := by
  have hq := h.q
  obtain ⟨S1, S2, S3, e1, e2, e3, O3, l3, t3, g3⟩ := R_fills (S := S) (p := p)
  obtain ⟨S4, S5, e4, e5, O5, l5, t5, g5⟩ := R_mid h O3 l3 t3 g3
  have h5 := h.off O5 (.inr (Nat.le_refl _))
  obtain ⟨S6, e6, o6, l6⟩ := R_stories h5 hW l5 t5
  have O6 : Off S S6 (p + 25) (p + 28) := O5.trans (o6.mono (Nat.le_refl _) (by omega))
  refine ⟨S6, ?_, O6, R_tabs (h.off O6 (.inr (Nat.le_refl _))) hW l6 (fun y s y1 y2 s1 s2 => by rw [o6.rd (by omega)]; exact g5 y s y1 y2 s1 s2)⟩
  unfold fn_Plan_recount
  rw [tq_5 hq, e1, bnO_s, tq_6 hq, e2, bnO_s, tq_7 hq, e3, bnO_s, tq_0 hq, tq_A hq, e4, bnO_s, tq_B hq, e5, bnO_s, tq_S hq, e6, bnO_s]
def SV (S : St) (p : Nat) (W : Vw) : Prop := PQ p ∧ vC S (p + 1) = W ∧ Val W
theorem SV.off {S' : St} {lo hi : Nat} (h : SV S p W) (ho : Off S S' lo hi) (hs : hi ≤ p + 1 ∨ p + 23 ≤ lo) : SV S' p W := ⟨h.1, by rw [vC_off ho (by omega)]; exact h.2.1, h.2.2⟩
theorem SV.msg (h : SV S p W) : g S (p + 1) 4 = sg W := by rw [← h.2.1]; rfl
theorem SV.mpe (h : SV S p W) : g S (p + 1) 5 = pe W := by rw [← h.2.1]; rfl
theorem L_in (h : SV S p W) (hp : g S p 1 = pgs W) {i : Int} (hi : 0 ≤ i ∧ i < sg W) : ∃ S', lo_Plan_layOut_59 p i FU (1 + i * pe W, 0, S) = some (1 + i * pe W + pe W, S') ∧ Off S S' (p + 23) (p + 25) ∧ (∀ q : Int, i * pe W < q → q ≤ i * pe W + pe W → g S' (p + 23) q.toNat = fOf W q ∧ g S' (p + 24) q.toNat = (q - 1) / pe W) ∧ (∀ q : Int, 1 ≤ q → q ≤ i * pe W → g S' (p + 23) q.toNat = g S (p + 23) q.toNat ∧ g S' (p + 24) q.toNat = g S (p + 24) q.toNat) := by
  have hq := h.1
  have b := h.2.2.z
  have hpe := h.2.2.1.2.2.2.2.1
  have e3 : pgs W = sg W * pe W := rfl
  have m1 : 0 ≤ i * pe W ∧ i * pe W + pe W ≤ pgs W := by rcases hpe with c | c | c <;> rw [e3, c] <;> omega
  obtain ⟨S', e, h0, h1, h2, h3⟩ := lp_inv (body := fun go p0 => lb_Plan_layOut_59 p i go p0.1 p0.2.1 p0.2.2) (fun k s => (1 + i * pe W + k, k, s)) (fun s => (1 + i * pe W + pe W, s)) (fun k t => (0 ≤ k ∧ k ≤ pe W) ∧ Off S t (p + 23) (p + 25) ∧ (∀ q : Int, i * pe W < q → q ≤ i * pe W + k → g t (p + 23) q.toNat = fOf W q ∧ g t (p + 24) q.toNat = (q - 1) / pe W) ∧ (∀ q : Int, 1 ≤ q → q ≤ i * pe W → g t (p + 23) q.toNat = g S (p + 23) q.toNat ∧ g t (p + 24) q.toNat = g S (p + 24) q.toNat)) (pe W)
    (fun go k t hI hk => by
      show lb_Plan_layOut_59 p i go (1 + i * pe W + k) k t = _
      unfold lb_Plan_layOut_59
      rw [tq_0 hq, (h.off hI.2.1 (.inr (Nat.le_refl _))).mpe, if_pos hk, show k = pe W by omega])
    (fun go k t hI hk => by
      obtain ⟨⟨k0, k1⟩, hO, hN, hK⟩ := hI
      have ht := h.off hO (.inr (Nat.le_refl _))
      have hp' : g t p 1 = pgs W := by rw [hO.rd (by omega)]; exact hp
      have d1 : (1 + i * pe W + k - 1) / pe W = i := by rcases hpe with c | c | c <;> rw [c] at hk ⊢ <;> omega
      have d2 : (1 + i * pe W + k - 1) % pe W = k := by rcases hpe with c | c | c <;> rw [c] at hk ⊢ <;> omega
      have d3 : fOf W (1 + i * pe W + k) = 2 * i + (if k % 4 = 0 ∨ k % 4 = 3 then 0 else 1) := by unfold fOf; rw [d1, d2]
      refine ⟨u (u t (p + 24) (1 + i * pe W + k).toNat i) (p + 23) (1 + i * pe W + k).toNat (fOf W (1 + i * pe W + k)), ?_, by omega, (hO.tu (by omega) (by omega)).tu (by omega) (by omega), fun q q1 q2 => ?_, fun q q1 q2 => ?_⟩
      · show lb_Plan_layOut_59 p i go (1 + i * pe W + k) k t = _
        unfold lb_Plan_layOut_59
        simp only [tq_0 hq, tq_3 hq, tq_4 hq, ht.mpe, hp', nm_x, tm_n k0, wr_s (z := k % 4) (by omega) (by omega), wr_s (z := k + 1) (by omega) (by omega), wr_s (z := 1 + i * pe W + k + 1) (by omega) (by omega), d3]
        have eb : 0 ≤ 1 + i * pe W + k ∧ 1 + i * pe W + k < 65 := by omega
        rw [if_neg (by omega), if_neg (by omega), show 1 + i * pe W + (k + 1) = 1 + i * pe W + k + 1 by omega]
        by_cases c1 : k % 4 = 0
        · rw [if_pos c1, if_pos eb, if_pos (.inl c1 : k % 4 = 0 ∨ k % 4 = 3)]
        · rw [if_neg c1]
          by_cases c2 : k % 4 = 3
          · rw [if_pos c2, if_pos eb, if_pos (.inr c2 : k % 4 = 0 ∨ k % 4 = 3)]
          · rw [if_neg c2, if_pos eb, if_neg ((fun z => z.elim c1 c2) : ¬ (k % 4 = 0 ∨ k % 4 = 3))]
      · by_cases d : q = 1 + i * pe W + k
        · have fb := fOf_b h.2.2 (p := q) (by omega) (by omega)
          have z8 := b.2.2.2.2.2.2.2
          rw [d] at fb ⊢
          rw [g_eq, g_ne (by omega), g_eq, wr_s (by omega) (by omega), wr_s (by omega) (by omega), d1]
          exact ⟨rfl, rfl⟩
        · rw [g_ne (by omega), g_ne (by omega), g_ne (by omega), g_ne (by omega)]
          exact hN q q1 (by omega)
      · rw [g_ne (by omega), g_ne (by omega), g_ne (by omega), g_ne (by omega)]
        exact hK q q1 q2) (pe W).toNat FU 0 S ⟨by omega, Off.refl, fun q q1 q2 => by omega, fun q _ _ => ⟨rfl, rfl⟩⟩ (by omega) (by omega) (FU_lt (by omega))
  refine ⟨S', ?_, h1, h2, h3⟩
  have e2 : lo_Plan_layOut_59 p i FU (1 + i * pe W + 0, 0, S) = _ := e
  rw [Int.add_zero] at e2
  exact e2
theorem P_layOut (h : SV S p W) : ∃ S', fn_Plan_layOut p S = some S' ∧ Off S S' p (p + 28) ∧ PL S' p W := by
  have hq := h.1
  have b := h.2.2.z
  have hpe := h.2.2.1.2.2.2.2.1
  have e3 : pgs W = sg W * pe W := rfl
  have e8 : frm W = 2 * sg W := rfl
  obtain ⟨S1, es1⟩ : ∃ S1, S1 = u S p 1 (pgs W) := ⟨_, rfl⟩
  obtain ⟨S2, es2⟩ : ∃ S2, S2 = u S1 p 2 (frm W) := ⟨_, rfl⟩
  have o2 : Off S S2 p (p + 1) := by rw [es2, es1]; exact (Off.wt (Nat.le_refl _) (by omega)).tu (Nat.le_refl _) (by omega)
  have h2 := h.off o2 (.inl (Nat.le_refl _))
  have p2 : g S2 p 1 = pgs W := by rw [es2, g_ne (by omega), es1, g_eq, wr_s (by omega) (by omega)]
  have f2 : g S2 p 2 = frm W := by rw [es2, g_eq, wr_s (by omega) (by omega)]
  obtain ⟨S', e, h0, o3, n3⟩ := lp_inv (body := fun go p0 => lb_Plan_layOut_46 p go p0.1 p0.2.1 p0.2.2) (fun i s => (1 + i * pe W, i, s)) id (fun i t => (0 ≤ i ∧ i ≤ sg W) ∧ Off S2 t (p + 23) (p + 25) ∧ (∀ q : Int, 1 ≤ q → q ≤ i * pe W → g t (p + 23) q.toNat = fOf W q ∧ g t (p + 24) q.toNat = (q - 1) / pe W)) (sg W)
    (fun go i t hI hi => by
      show lb_Plan_layOut_46 p go (1 + i * pe W) i t = _
      unfold lb_Plan_layOut_46
      rw [tq_0 hq, (h2.off hI.2.1 (.inr (Nat.le_refl _))).msg, if_pos hi]; rfl)
    (fun go i t hI hi => by
      obtain ⟨hi0, hO, hN⟩ := hI
      have ht := h2.off hO (.inr (Nat.le_refl _))
      obtain ⟨t', et, ot, nt, kt⟩ := L_in ht (by rw [hO.rd (by omega)]; exact p2) (i := i) ⟨hi0.1, hi⟩
      have e5 : 1 + i * pe W + pe W = 1 + (i + 1) * pe W := by rw [Int.add_mul, Int.one_mul]; omega
      have e6 : (i + 1) * pe W = i * pe W + pe W := by rw [Int.add_mul, Int.one_mul]
      refine ⟨t', ?_, by omega, hO.trans ot, fun q q1 q2 => ?_⟩
      · show lb_Plan_layOut_46 p go (1 + i * pe W) i t = _
        unfold lb_Plan_layOut_46
        rw [tq_0 hq, ht.msg, if_neg (by omega), et, bnO_s, nm_x, wr_s (by omega) (by omega), e5]
      · by_cases d : q ≤ i * pe W
        · rw [(kt q q1 d).1, (kt q q1 d).2]; exact hN q q1 d
        · exact nt q (by omega) (by omega)) (sg W).toNat FU 0 S2 ⟨by omega, Off.refl, fun q q1 q2 => by rw [Int.zero_mul] at q2; omega⟩ (by omega) (by omega) (FU_lt (by omega))
  have O : Off S S' p (p + 28) := (o2.mono (Nat.le_refl _) (by omega)).trans (o3.mono (by omega) (by omega))
  have h' := h2.off o3 (.inr (Nat.le_refl _))
  refine ⟨S', ?_, O, ⟨⟨hq, h'.2.1, h.2.2⟩, ⟨?_, ?_⟩, fun q q1 q2 => n3 q q1 q2⟩⟩
  · unfold fn_Plan_layOut
    have e7 : lo_Plan_layOut_46 p FU (1, 0, S2) = some S' := by
      have e4 : lo_Plan_layOut_46 p FU (1 + 0 * pe W, 0, S2) = some S' := e
      rw [Int.zero_mul, Int.add_zero] at e4
      exact e4
    have m : wr (sg W * pe W) = pgs W := wr_s (by show _ ≤ pgs W; omega) (by show pgs W < _; omega)
    have g1 : g S1 (p + 1) 4 = sg W := by rw [es1, g_ne (by omega)]; exact h.msg
    simp only [tq_0 hq, h.msg, h.mpe, nm_x, m]
    rw [show i_min (pgs W) 64 = pgs W by unfold i_min; split <;> omega, ← es1, g1, wr_s (z := 2 * sg W) (by omega) (by omega), show i_min (2 * sg W) 8 = frm W by unfold i_min; split <;> omega, ← es2, e7, bnO_s]
  · rw [o3.rd (by omega)]; exact p2
  · rw [o3.rd (by omega)]; exact f2
theorem P_anew (h : SV S p W) (hW : Wf W) : ∃ S1 S2, fn_Plan_layOut p S = some S1 ∧ fn_Plan_recount p S1 = some S2 ∧ Off S S2 p (p + 28) ∧ PT S2 p W := by
  obtain ⟨S1, e1, o1, h1⟩ := P_layOut h
  obtain ⟨S2, e2, o2, h2⟩ := P_recount h1 hW
  exact ⟨S1, S2, e1, e2, o1.trans (o2.mono (by omega) (Nat.le_refl _)), h2⟩
end Recount

