/-! matching: the reference's rows -/
section Match6
variable {W : Vw} {M : Int → Bool} {k a0 q i v : Int} {T T0 T' : St}
theorem i_nz1 : i_nz 1 = 1 := by decide +kernel
theorem i_nz0 : i_nz 0 = 0 := by decide +kernel
def MR (W : Vw) (T : St) (M : Int → Bool) : Prop := (∀ p : Int, 1 ≤ p → p ≤ pgs W → g T 518 p.toNat = -1 ∨ ((0 ≤ g T 518 p.toNat ∧ g T 518 p.toNat < nA W) ∧ M (g T 518 p.toNat) = true ∧ adjW W (g T 518 p.toNat) p = true)) ∧ (∀ p p' : Int, 1 ≤ p → p ≤ pgs W → 1 ≤ p' → p' ≤ pgs W → g T 518 p.toNat = g T 518 p'.toNat → g T 518 p.toNat ≠ -1 → p = p') ∧ ∀ a, 0 ≤ a → a < nA W → M a = true → ∃ p : Int, 1 ≤ p ∧ p ≤ pgs W ∧ g T 518 p.toNat = a
def MRq (W : Vw) (T : St) (M : Int → Bool) (q : Int) : Prop := (∀ p : Int, 1 ≤ p → p ≤ pgs W → p ≠ q → g T 518 p.toNat = -1 ∨ ((0 ≤ g T 518 p.toNat ∧ g T 518 p.toNat < nA W) ∧ M (g T 518 p.toNat) = true ∧ adjW W (g T 518 p.toNat) p = true)) ∧ (∀ p p' : Int, 1 ≤ p → p ≤ pgs W → 1 ≤ p' → p' ≤ pgs W → p ≠ q → p' ≠ q → g T 518 p.toNat = g T 518 p'.toNat → g T 518 p.toNat ≠ -1 → p = p') ∧ ∀ a, 0 ≤ a → a < nA W → M a = true → ∃ p : Int, 1 ≤ p ∧ p ≤ pgs W ∧ p ≠ q ∧ g T 518 p.toNat = a
theorem MR.eqv (h : MR W T M) (e : ∀ f, g T' 518 f = g T 518 f) : MR W T' M := by
  unfold MR
  simp only [e]
  exact h
theorem MR.mtc (h : MR W T M) : ∃ m, Mtc (adjW W) (nA W) (pgs W) M m := by
  have ex : ∀ a : Int, ∃ p : Int, 0 ≤ a → a < nA W → M a = true → 1 ≤ p ∧ p ≤ pgs W ∧ g T 518 p.toNat = a := fun a => by
    by_cases c : 0 ≤ a ∧ a < nA W ∧ M a = true
    · obtain ⟨p, hp⟩ := h.2.2 a c.1 c.2.1 c.2.2
      exact ⟨p, fun _ _ _ => hp⟩
    · exact ⟨0, fun h1 h2 h3 => absurd ⟨h1, h2, h3⟩ c⟩
  obtain ⟨m, hm⟩ := Classical.axiomOfChoice ex
  refine ⟨m, fun a a1 a2 a3 => ?_, fun a b a1 a2 b1 b2 ha hb e => ?_⟩
  · have z := hm a a1 a2 a3
    refine ⟨⟨z.1, z.2.1⟩, ?_⟩
    rcases h.1 (m a) z.1 z.2.1 with r | r
    · omega
    · have r3 := r.2.2
      rw [z.2.2] at r3
      exact r3
  · have za := hm a a1 a2 ha
    have zb := hm b b1 b2 hb
    rw [← za.2.2, ← zb.2.2, e]
def TrR (W : Vw) (T : St) (a0 k : Int) : Prop := (0 ≤ k ∧ k ≤ 64) ∧ (∀ j : Int, 0 ≤ j → j < k → 1 ≤ g T 520 j.toNat ∧ g T 520 j.toNat ≤ pgs W) ∧ (∀ i j : Int, 0 ≤ i → i < j → j < k → g T 520 i.toNat ≠ g T 520 j.toNat) ∧ ∀ j : Int, 0 ≤ j → j < k → (g T 519 (g T 520 j.toNat).toNat = 0 ∧ adjW W a0 (g T 520 j.toNat) = true) ∨ ∃ i : Int, 0 ≤ i ∧ i < j ∧ g T 519 (g T 520 j.toNat).toNat = g T 520 i.toNat ∧ g T 518 (g T 520 i.toNat).toNat ≠ -1 ∧ adjW W (g T 518 (g T 520 i.toNat).toNat) (g T 520 j.toNat) = true
def BfR (W : Vw) (T : St) (a0 k : Int) : Prop := TrR W T a0 k ∧ ∀ p : Int, 1 ≤ p → p ≤ pgs W → g T 519 p.toNat = -1 ∨ ∃ j : Int, 0 ≤ j ∧ j < k ∧ g T 520 j.toNat = p
theorem TrR.rc (h : TrR W T a0 k) {j : Int} (h0 : 0 ≤ j) (h1 : j < k) : 0 ≤ g T 519 (g T 520 j.toNat).toNat := by
  rcases h.2.2.2 j h0 h1 with r | ⟨l, l0, l1, l2, -⟩
  · omega
  · have := h.2.1 l l0 (by omega)
    omega
theorem gb_walk (hV : Val W) (hT : TrR W T0 a0 k) (ha0 : 0 ≤ a0 ∧ a0 < nA W) (hM0 : M a0 = false) : ∀ (m : Nat) (j : Int) (T : St) (n : Nat), 0 ≤ j → j < k → j < m → m ≤ n → (∀ f, g T 519 f = g T0 519 f) → (∀ l : Int, 0 ≤ l → l ≤ j → l ≠ j → g T 518 (g T0 520 l.toNat).toNat = g T0 518 (g T0 520 l.toNat).toNat) → MRq W T M (g T0 520 j.toNat) →
    ∃ q' T', lp (fun go p0 => lb_Mo_givesBack_2 514 a0 go p0.1 p0.2) n (g T0 520 j.toNat, T) = some (q', T') ∧ Off T T' 518 519 ∧ (1 ≤ q' ∧ q' ≤ pgs W) ∧ MR W (u T' 518 q'.toNat a0) (fun x => M x || decide (x = a0))
  | 0, j, T, n, h0, _, h2, _, _, _, _ => by omega
  | m + 1, j, T, n + 1, h0, h1, h2, h3, hr, hw, hC => by
    have b := hV.pg
    have bA := hV.1.1
    have kb := hT.1
    have wj := hT.2.1 j h0 h1
    obtain ⟨q, hq⟩ : ∃ q, q = g T0 520 j.toNat := ⟨_, rfl⟩
    have tr := hT.2.2.2 j h0 h1
    rw [← hq] at wj hC tr ⊢
    rw [lp_succ]
    rcases tr with ⟨t1, t2⟩ | ⟨i, i0, i1, i2, i3, i4⟩
    · refine ⟨q, T, ?_, Off.refl, wj, ?_⟩
      · show lb_Mo_givesBack_2 514 a0 _ q T = _
        unfold lb_Mo_givesBack_2
        rw [if_pos (by omega : 0 ≤ q ∧ q < 65), tg_514_8, hr, t1, if_pos (Int.le_refl _)]
      · have s8 : ∀ p : Int, 0 ≤ p → g (u T 518 q.toNat a0) 518 p.toNat = if p = q then a0 else g T 518 p.toNat := fun p p0 => by
          by_cases e : p = q
          · rw [e, g_eq, if_pos rfl, wr_s (by omega) (by omega)]
          · rw [g_ne (by omega), if_neg e]
        refine ⟨fun p p1 p2 => ?_, fun p p' p1 p2 p3 p4 e ne => ?_, fun a a1 a2 a3 => ?_⟩
        · rw [s8 p (by omega)]
          by_cases e : p = q
          · rw [if_pos e, e]
            exact .inr ⟨ha0, by show (M a0 || decide (a0 = a0)) = true; rw [decide_eq_true rfl, Bool.or_true], t2⟩
          · rw [if_neg e]
            rcases hC.1 p p1 p2 e with r | ⟨r1, r2, r3⟩
            · exact .inl r
            · exact .inr ⟨r1, by show (M (g T 518 p.toNat) || decide (g T 518 p.toNat = a0)) = true; rw [r2]; rfl, r3⟩
        · have no : ∀ x : Int, 1 ≤ x → x ≤ pgs W → x ≠ q → g T 518 x.toNat ≠ a0 := fun x x1 x2 x3 z => by
            rcases hC.1 x x1 x2 x3 with r | ⟨-, r2, -⟩
            · omega
            · rw [z, hM0] at r2; exact Bool.false_ne_true r2
          rw [s8 p (by omega), s8 p' (by omega)] at e
          rw [s8 p (by omega)] at ne
          by_cases z : p = q
          · by_cases z' : p' = q
            · omega
            · rw [if_pos z, if_neg z'] at e
              exact absurd e.symm (no p' p3 p4 z')
          · rw [if_neg z] at e ne
            by_cases z' : p' = q
            · rw [if_pos z'] at e
              exact absurd e (no p p1 p2 z)
            · rw [if_neg z'] at e
              exact hC.2.1 p p' p1 p2 p3 p4 z z' e ne
        · by_cases e : a = a0
          · exact ⟨q, wj.1, wj.2, by rw [s8 q (by omega), if_pos rfl, e]⟩
          · have a3' : (M a || decide (a = a0)) = true := a3
            rw [decide_eq_false e, Bool.or_false] at a3'
            obtain ⟨p, p1, p2, p3, p4⟩ := hC.2.2 a a1 a2 a3'
            exact ⟨p, p1, p2, by rw [s8 p (by omega), if_neg p3]; exact p4⟩
    · have wi := hT.2.1 i i0 (by omega)
      have ne : g T0 520 i.toNat ≠ q := by rw [hq]; exact hT.2.2.1 i j i0 i1 h1
      have oi := hw i i0 (by omega) (by omega)
      obtain ⟨q1, hq1⟩ : ∃ q1, q1 = g T0 520 i.toNat := ⟨_, rfl⟩
      rw [← hq1] at wi ne oi i2 i3 i4
      obtain ⟨x, hx⟩ : ∃ x, x = g T 518 q1.toNat := ⟨_, rfl⟩
      have xq := hC.1 q1 wi.1 wi.2 ne
      rw [← oi] at i3 i4
      rw [← hx] at xq i3 i4
      have xr := xq.resolve_left i3
      obtain ⟨T1, hT1⟩ : ∃ T1, T1 = u T 518 q.toNat x := ⟨_, rfl⟩
      have o1 : Off T T1 518 519 := by rw [hT1]; exact Off.wt (by omega) (by omega)
      have s8 : ∀ p : Int, 0 ≤ p → g T1 518 p.toNat = if p = q then x else g T 518 p.toNat := fun p p0 => by
        rw [hT1]
        by_cases e : p = q
        · rw [e, g_eq, if_pos rfl, wr_s (by omega) (by omega)]
        · rw [g_ne (by omega), if_neg e]
      have s9 : ∀ f, g T1 519 f = g T 519 f := fun f => by rw [hT1, g_ne (by omega)]
      have body : ∀ go, lb_Mo_givesBack_2 514 a0 go q T = go (q1, T1) := fun go => by
        unfold lb_Mo_givesBack_2
        rw [if_pos (by omega : 0 ≤ q ∧ q < 65), tg_514_8, hr, i2, if_neg (by omega), if_pos (by omega : 0 ≤ q1 ∧ q1 < 65), nm_x, tg_514_7, ← hx, ← hT1, s9, hr, i2]
      have body' : lb_Mo_givesBack_2 514 a0 (lp (fun go p0 => lb_Mo_givesBack_2 514 a0 go p0.1 p0.2) n) (q, T).1 (q, T).2 = _ := body _
      rw [body', hq1]
      obtain ⟨q', T', e, o, r⟩ := gb_walk hV hT ha0 hM0 m i T1 n i0 (by omega) (by omega) (by omega) (fun f => (s9 f).trans (hr f))
        (fun l l0 l1 l2 => by
          have := hT.2.1 l l0 (by omega)
          have nq : g T0 520 l.toNat ≠ q := by rw [hq]; exact hT.2.2.1 l j l0 (by omega) h1
          rw [s8 _ (by omega), if_neg nq]
          exact hw l l0 (by omega) (by omega))
        ⟨fun p p1 p2 p3 => by
          rw [← hq1] at p3
          rw [s8 p (by omega)]
          by_cases e : p = q
          · rw [if_pos e, e]
            exact .inr ⟨xr.1, xr.2.1, i4⟩
          · rw [if_neg e]
            exact hC.1 p p1 p2 e,
        fun p p' p1 p2 p3 p4 n1 n2 e ne' => by
          rw [← hq1] at n1 n2
          rw [s8 p (by omega), s8 p' (by omega)] at e
          rw [s8 p (by omega)] at ne'
          by_cases z : p = q
          · by_cases z' : p' = q
            · omega
            · rw [if_pos z, if_neg z', hx] at e
              exact absurd (hC.2.1 q1 p' wi.1 wi.2 p3 p4 ne z' e (by rw [← hx]; exact i3)).symm n2
          · rw [if_neg z] at e ne'
            by_cases z' : p' = q
            · rw [if_pos z', hx] at e
              exact absurd (hC.2.1 p q1 p1 p2 wi.1 wi.2 z ne e ne') n1
            · rw [if_neg z'] at e
              exact hC.2.1 p p' p1 p2 p3 p4 z z' e ne',
        fun a a1 a2 a3 => by
          rw [← hq1]
          by_cases e : a = x
          · exact ⟨q, wj.1, wj.2, fun z => ne z.symm, by rw [s8 q (by omega), if_pos rfl, e]⟩
          · obtain ⟨p, p1, p2, p3, p4⟩ := hC.2.2 a a1 a2 a3
            refine ⟨p, p1, p2, fun z => e ?_, by rw [s8 p (by omega), if_neg p3]; exact p4⟩
            rw [← p4, z, ← hx]⟩
      exact ⟨q', T', e, o1.trans o, r⟩
theorem BfR.add (hV : Val W) (h : BfR W T a0 k) (hq : 1 ≤ q ∧ q ≤ pgs W) (hu : g T 519 q.toNat = -1) (hv : (v = 0 ∧ adjW W a0 q = true) ∨ ∃ i : Int, 0 ≤ i ∧ i < k ∧ v = g T 520 i.toNat ∧ g T 518 (g T 520 i.toNat).toNat ≠ -1 ∧ adjW W (g T 518 (g T 520 i.toNat).toNat) q = true)
    (hT' : T' = u (u T 519 q.toNat v) 520 k.toNat q) : k < 64 ∧ 0 ≤ v ∧ Off T T' 519 521 ∧ BfR W T' a0 (k + 1) ∧ (∀ l : Int, 0 ≤ l → l < k → g T' 520 l.toNat = g T 520 l.toNat) ∧ (∀ p : Int, 0 ≤ p → g T' 519 p.toNat = if p = q then v else g T 519 p.toNat) ∧ (∀ f, g T' 518 f = g T 518 f) := by
  have b := hV.pg
  have vb : 0 ≤ v ∧ v ≤ 64 := by
    rcases hv with z | ⟨l, l0, l1, l2, -⟩
    · omega
    · have := h.1.2.1 l l0 l1
      omega
  have tr0 := h.1
  obtain ⟨⟨kb, wb, wd, wt⟩, hp⟩ := h
  have ne : ∀ j : Int, 0 ≤ j → j < k → g T 520 j.toNat ≠ q := fun j j0 j1 e => by
    have := tr0.rc j0 j1
    rw [e, hu] at this
    omega
  have kl : k < 64 := by
    have cnt := sumR_inj (R := fun _ => true) (P := fun _ => true) (m := fun j => if j = k then q else g T 520 j.toNat) (l := 0) (l' := 1) (N := (k + 1).toNat) (N' := (pgs W).toNat) (fun j j0 j1 _ => by
      refine ⟨?_, rfl⟩
      show 1 ≤ (if j = k then q else g T 520 j.toNat) ∧ (if j = k then q else g T 520 j.toNat) < 1 + ((pgs W).toNat : Int)
      by_cases z : j = k
      · rw [if_pos z]; omega
      · rw [if_neg z]
        have := wb j j0 (by omega)
        omega) (fun j j' j0 j1 j2 j3 _ _ e => by
      have e' : (if j = k then q else g T 520 j.toNat) = (if j' = k then q else g T 520 j'.toNat) := e
      by_cases z : j = k
      · rw [if_pos z] at e'
        by_cases z' : j' = k
        · omega
        · rw [if_neg z'] at e'
          exact absurd e'.symm (ne j' j2 (by omega))
      · rw [if_neg z] at e'
        by_cases z' : j' = k
        · rw [if_pos z'] at e'
          exact absurd e' (ne j j0 (by omega))
        · rw [if_neg z'] at e'
          by_cases l1 : j < j'
          · exact absurd e' (wd j j' j0 l1 (by omega))
          · by_cases l2 : j' < j
            · exact absurd e'.symm (wd j' j j2 l2 (by omega))
            · omega)
    have e1 : sumR (fun a => if (fun _ : Int => true) a = true then (1 : Int) else 0) 0 (k + 1).toNat = ((k + 1).toNat : Int) := sumR_k
    have e2 : sumR (fun a => if (fun _ : Int => true) a = true then (1 : Int) else 0) 1 (pgs W).toNat = ((pgs W).toNat : Int) := sumR_k
    rw [e1, e2] at cnt
    omega
  have e1 : ∀ l : Int, 0 ≤ l → l < k → g T' 520 l.toNat = g T 520 l.toNat := fun l l0 l1 => by rw [hT', g_ne (by omega), g_ne (by omega)]
  have ek : g T' 520 k.toNat = q := by rw [hT', g_eq, wr_s (by omega) (by omega)]
  have e0 : ∀ p : Int, 0 ≤ p → g T' 519 p.toNat = if p = q then v else g T 519 p.toNat := fun p p0 => by
    rw [hT', g_ne (by omega)]
    by_cases e : p = q
    · rw [e, g_eq, if_pos rfl, wr_s (by omega) (by omega)]
    · rw [g_ne (by omega), if_neg e]
  have e8 : ∀ f, g T' 518 f = g T 518 f := fun f => by rw [hT', g_ne (by omega), g_ne (by omega)]
  refine ⟨kl, vb.1, by rw [hT']; exact (Off.wt (by omega) (by omega)).tu (by omega) (by omega), ⟨⟨by omega, fun j j0 j1 => ?_, fun j j' j0 j1 j2 => ?_, fun j j0 j1 => ?_⟩, fun p p1 p2 => ?_⟩, e1, e0, e8⟩
  · by_cases c : j = k
    · rw [c, ek]; exact hq
    · rw [e1 j j0 (by omega)]; exact wb j j0 (by omega)
  · rw [e1 j j0 (by omega)]
    by_cases c : j' = k
    · rw [c, ek]; exact ne j j0 (by omega)
    · rw [e1 j' (by omega) (by omega)]; exact wd j j' j0 j1 (by omega)
  · by_cases c : j = k
    · rw [c, ek, e0 q (by omega), if_pos rfl]
      rcases hv with z | ⟨l, l0, l1, l2, l3, l4⟩
      · exact .inl z
      · refine .inr ⟨l, l0, l1, ?_, ?_, ?_⟩
        · rw [e1 l l0 l1]; exact l2
        · rw [e1 l l0 l1, e8]; exact l3
        · rw [e1 l l0 l1, e8]; exact l4
    · have := wb j j0 (by omega)
      rw [e1 j j0 (by omega), e0 _ (by omega), if_neg (ne j j0 (by omega))]
      rcases wt j j0 (by omega) with z | ⟨l, l0, l1, l2, l3, l4⟩
      · exact .inl z
      · refine .inr ⟨l, l0, l1, ?_, ?_, ?_⟩
        · rw [e1 l l0 (by omega)]; exact l2
        · rw [e1 l l0 (by omega), e8]; exact l3
        · rw [e1 l l0 (by omega), e8]; exact l4
  · rw [e0 p (by omega)]
    by_cases c : p = q
    · exact .inr ⟨k, by omega, by omega, by rw [ek, c]⟩
    · rw [if_neg c]
      rcases hp p p1 p2 with r | ⟨j, j0, j1, j2⟩
      · exact .inl r
      · exact .inr ⟨j, j0, by omega, by rw [e1 j j0 j1]; exact j2⟩
end Match6
