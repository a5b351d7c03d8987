/-! matching: the reference's rows -/
section Match6
variable {W : Vw} {M : Int → Bool} {k a0 q i v : Int} {T T0 T' : St}
theorem i_nz1 : i_nz 1 = 1 := by decide +kernel
theorem i_nz0 : i_nz 0 = 0 := by decide +kernel
def MR (W : Vw) (T : St) (M : Int → Bool) : Prop := (∀ p : Int, 1 ≤ p → p ≤ pgs W → g T 518 p.toNat = -1 ∨ ((0 ≤ g T 518 p.toNat ∧ g T 518 p.toNat < nA W) ∧ M (g T 518 p.toNat) = true ∧ adjW W (g T 518 p.toNat) p = true)) ∧ (∀ p p' : Int, 1 ≤ p → p ≤ pgs W → 1 ≤ p' → p' ≤ pgs W → g T 518 p.toNat = g T 518 p'.toNat → g T 518 p.toNat ≠ -1 → p = p') ∧ ∀ a, 0 ≤ a → a < nA W → M a = true → ∃ p : Int, 1 ≤ p ∧ p ≤ pgs W ∧ g T 518 p.toNat = a
def MRq (W : Vw) (T : St) (M : Int → Bool) (q : Int) : Prop := (∀ p : Int, 1 ≤ p → p ≤ pgs W → p ≠ q → g T 518 p.toNat = -1 ∨ ((0 ≤ g T 518 p.toNat ∧ g T 518 p.toNat < nA W) ∧ M (g T 518 p.toNat) = true ∧ adjW W (g T 518 p.toNat) p = true)) ∧ (∀ p p' : Int, 1 ≤ p → p ≤ pgs W → 1 ≤ p' → p' ≤ pgs W → p ≠ q → p' ≠ q → g T 518 p.toNat = g T 518 p'.toNat → g T 518 p.toNat ≠ -1 → p = p') ∧ ∀ a, 0 ≤ a → a < nA W → M a = true → ∃ p : Int, 1 ≤ p ∧ p ≤ pgs W ∧ p ≠ q ∧ g T 518 p.toNat = a
theorem MR.eqv (h : MR W T M) (e : ∀ f, g T' 518 f = g T 518 f) : MR W T' M := by
  unfold MR
  simp only [e]
  exact h
theorem MR.mtc (h : MR W T M) : ∃ m, Mtc (adjW W) (nA W) (pgs W) M m := by
  have ex : ∀ a : Int, ∃ p : Int, 0 ≤ a → a < nA W → M a = true → 1 ≤ p ∧ p ≤ pgs W ∧ g T 518 p.toNat = a := fun a => by
    by_cases c : 0 ≤ a ∧ a < nA W ∧ M a = true
    · obtain ⟨p, hp⟩ := h.2.2 a c.1 c.2.1 c.2.2
      exact ⟨p, fun _ _ _ => hp⟩
    · exact ⟨0, fun h1 h2 h3 => absurd ⟨h1, h2, h3⟩ c⟩
  obtain ⟨m, hm⟩ := Classical.axiomOfChoice ex
  refine ⟨m, fun a a1 a2 a3 => ?_, fun a b a1 a2 b1 b2 ha hb e => ?_⟩
  · have z := hm a a1 a2 a3
    refine ⟨⟨z.1, z.2.1⟩, ?_⟩
    rcases h.1 (m a) z.1 z.2.1 with r | r
    · omega
    · have r3 := r.2.2
      rw [z.2.2] at r3
      exact r3
  · have za := hm a a1 a2 ha
    have zb := hm b b1 b2 hb
    rw [← za.2.2, ← zb.2.2, e]
def TrR (W : Vw) (T : St) (a0 k : Int) : Prop := (0 ≤ k ∧ k ≤ 64) ∧ (∀ j : Int, 0 ≤ j → j < k → 1 ≤ g T 520 j.toNat ∧ g T 520 j.toNat ≤ pgs W) ∧ (∀ i j : Int, 0 ≤ i → i < j → j < k → g T 520 i.toNat ≠ g T 520 j.toNat) ∧ ∀ j : Int, 0 ≤ j → j < k → (g T 519 (g T 520 j.toNat).toNat = 0 ∧ adjW W a0 (g T 520 j.toNat) = true) ∨ ∃ i : Int, 0 ≤ i ∧ i < j ∧ g T 519 (g T 520 j.toNat).toNat = g T 520 i.toNat ∧ g T 518 (g T 520 i.toNat).toNat ≠ -1 ∧ adjW W (g T 518 (g T 520 i.toNat).toNat) (g T 520 j.toNat) = true
def BfR (W : Vw) (T : St) (a0 k : Int) : Prop := TrR W T a0 k ∧ ∀ p : Int, 1 ≤ p → p ≤ pgs W → g T 519 p.toNat = -1 ∨ ∃ j : Int, 0 ≤ j ∧ j < k ∧ g T 520 j.toNat = p
theorem TrR.rc (h : TrR W T a0 k) {j : Int} (h0 : 0 ≤ j) (h1 : j < k) : 0 ≤ g T 519 (g T 520 j.toNat).toNat := by
  rcases h.2.2.2 j h0 h1 with r | ⟨l, l0, l1, l2, -⟩
  · omega
  · have := h.2.1 l l0 (by omega)
    omega
theorem BfR.add (hV : Val W) (h : BfR W T a0 k) (hq : 1 ≤ q ∧ q ≤ pgs W) (hu : g T 519 q.toNat = -1) (hv : (v = 0 ∧ adjW W a0 q = true) ∨ ∃ i : Int, 0 ≤ i ∧ i < k ∧ v = g T 520 i.toNat ∧ g T 518 (g T 520 i.toNat).toNat ≠ -1 ∧ adjW W (g T 518 (g T 520 i.toNat).toNat) q = true)
    (hT' : T' = u (u T 519 q.toNat v) 520 k.toNat q) : k < 64 ∧ 0 ≤ v ∧ Off T T' 519 521 ∧ BfR W T' a0 (k + 1) ∧ (∀ l : Int, 0 ≤ l → l < k → g T' 520 l.toNat = g T 520 l.toNat) ∧ (∀ p : Int, 0 ≤ p → g T' 519 p.toNat = if p = q then v else g T 519 p.toNat) ∧ (∀ f, g T' 518 f = g T 518 f) := by
  have b := hV.pg
  have vb : 0 ≤ v ∧ v ≤ 64 := by
    rcases hv with z | ⟨l, l0, l1, l2, -⟩
    · omega
    · have := h.1.2.1 l l0 l1
      omega
  have tr0 := h.1
  obtain ⟨⟨kb, wb, wd, wt⟩, hp⟩ := h
  have ne : ∀ j : Int, 0 ≤ j → j < k → g T 520 j.toNat ≠ q := fun j j0 j1 e => by
    have := tr0.rc j0 j1
    rw [e, hu] at this
    omega
  have kl : k < 64 := by
    have cnt := sumR_inj (R := fun _ => true) (P := fun _ => true) (m := fun j => if j = k then q else g T 520 j.toNat) (l := 0) (l' := 1) (N := (k + 1).toNat) (N' := (pgs W).toNat) (fun j j0 j1 _ => by
      refine ⟨?_, rfl⟩
      show 1 ≤ (if j = k then q else g T 520 j.toNat) ∧ (if j = k then q else g T 520 j.toNat) < 1 + ((pgs W).toNat : Int)
      by_cases z : j = k
      · rw [if_pos z]; omega
      · rw [if_neg z]
        have := wb j j0 (by omega)
        omega) (fun j j' j0 j1 j2 j3 _ _ e => by
      have e' : (if j = k then q else g T 520 j.toNat) = (if j' = k then q else g T 520 j'.toNat) := e
      by_cases z : j = k
      · rw [if_pos z] at e'
        by_cases z' : j' = k
        · omega
        · rw [if_neg z'] at e'
          exact absurd e'.symm (ne j' j2 (by omega))
      · rw [if_neg z] at e'
        by_cases z' : j' = k
        · rw [if_pos z'] at e'
          exact absurd e' (ne j j0 (by omega))
        · rw [if_neg z'] at e'
          by_cases l1 : j < j'
          · exact absurd e' (wd j j' j0 l1 (by omega))
          · by_cases l2 : j' < j
            · exact absurd e'.symm (wd j' j j2 l2 (by omega))
            · omega)
    have e1 : sumR (fun a => if (fun _ : Int => true) a = true then (1 : Int) else 0) 0 (k + 1).toNat = ((k + 1).toNat : Int) := sumR_k
    have e2 : sumR (fun a => if (fun _ : Int => true) a = true then (1 : Int) else 0) 1 (pgs W).toNat = ((pgs W).toNat : Int) := sumR_k
    rw [e1, e2] at cnt
    omega
  have e1 : ∀ l : Int, 0 ≤ l → l < k → g T' 520 l.toNat = g T 520 l.toNat := fun l l0 l1 => by rw [hT', g_ne (by omega), g_ne (by omega)]
  have ek : g T' 520 k.toNat = q := by rw [hT', g_eq, wr_s (by omega) (by omega)]
  have e0 : ∀ p : Int, 0 ≤ p → g T' 519 p.toNat = if p = q then v else g T 519 p.toNat := fun p p0 => by
    rw [hT', g_ne (by omega)]
    by_cases e : p = q
    · rw [e, g_eq, if_pos rfl, wr_s (by omega) (by omega)]
    · rw [g_ne (by omega), if_neg e]
  have e8 : ∀ f, g T' 518 f = g T 518 f := fun f => by rw [hT', g_ne (by omega), g_ne (by omega)]
  refine ⟨kl, vb.1, by rw [hT']; exact (Off.wt (by omega) (by omega)).tu (by omega) (by omega), ⟨⟨by omega, fun j j0 j1 => ?_, fun j j' j0 j1 j2 => ?_, fun j j0 j1 => ?_⟩, fun p p1 p2 => ?_⟩, e1, e0, e8⟩
  · by_cases c : j = k
    · rw [c, ek]; exact hq
    · rw [e1 j j0 (by omega)]; exact wb j j0 (by omega)
  · rw [e1 j j0 (by omega)]
    by_cases c : j' = k
    · rw [c, ek]; exact ne j j0 (by omega)
    · rw [e1 j' (by omega) (by omega)]; exact wd j j' j0 j1 (by omega)
  · by_cases c : j = k
    · rw [c, ek, e0 q (by omega), if_pos rfl]
      rcases hv with z | ⟨l, l0, l1, l2, l3, l4⟩
      · exact .inl z
      · refine .inr ⟨l, l0, l1, ?_, ?_, ?_⟩
        · rw [e1 l l0 l1]; exact l2
        · rw [e1 l l0 l1, e8]; exact l3
        · rw [e1 l l0 l1, e8]; exact l4
    · have := wb j j0 (by omega)
      rw [e1 j j0 (by omega), e0 _ (by omega), if_neg (ne j j0 (by omega))]
      rcases wt j j0 (by omega) with z | ⟨l, l0, l1, l2, l3, l4⟩
      · exact .inl z
      · refine .inr ⟨l, l0, l1, ?_, ?_, ?_⟩
        · rw [e1 l l0 (by omega)]; exact l2
        · rw [e1 l l0 (by omega), e8]; exact l3
        · rw [e1 l l0 (by omega), e8]; exact l4
  · rw [e0 p (by omega)]
    by_cases c : p = q
    · exact .inr ⟨k, by omega, by omega, by rw [ek, c]⟩
    · rw [if_neg c]
      rcases hp p p1 p2 with r | ⟨j, j0, j1, j2⟩
      · exact .inl r
      · exact .inr ⟨j, j0, by omega, by rw [e1 j j0 j1]; exact j2⟩
end Match6

