/-! FRAMES: what a method leaves alone -/
def Off (S S' : St) (lo hi : Nat) : Prop := ∀ a, (a < lo ∨ hi ≤ a) → S'.1 a = S.1 a ∧ S'.2.1 a = S.2.1 a ∧ S'.2.2 a = S.2.2 a
theorem Off.refl {S : St} {lo hi : Nat} : Off S S lo hi := fun _ _ => ⟨rfl, rfl, rfl⟩
theorem Off.trans {S S' S'' : St} {lo hi : Nat} (h : Off S S' lo hi) (h' : Off S' S'' lo hi) : Off S S'' lo hi := fun a ha => ⟨(h' a ha).1.trans (h a ha).1, (h' a ha).2.1.trans (h a ha).2.1, (h' a ha).2.2.trans (h a ha).2.2⟩
theorem Off.mono {S S' : St} {lo hi lo' hi' : Nat} (h : Off S S' lo hi) (h1 : lo' ≤ lo) (h2 : hi ≤ hi') : Off S S' lo' hi' := fun a ha => h a (by omega)
theorem Off.rd {S S' : St} {lo hi : Nat} (h : Off S S' lo hi) {a f : Nat} (ha : a < lo ∨ hi ≤ a) : g S' a f = g S a f := by
  unfold g; rw [(h a ha).1]
theorem Off.rl {S S' : St} {lo hi : Nat} (h : Off S S' lo hi) {a f : Nat} (ha : a < lo ∨ hi ≤ a) : gl S' a f = gl S a f := by
  unfold gl; rw [(h a ha).2.1]
theorem Off.wt {S : St} {lo hi a f : Nat} {z : Int} (h1 : lo ≤ a) (h2 : a < hi) : Off S (u S a f z) lo hi := by
  intro b hb
  refine ⟨?_, rfl, rfl⟩
  funext f'
  exact uI_ne (fun q => by omega)
theorem Off.wtl {S : St} {lo hi a f : Nat} {z : Int} (h1 : lo ≤ a) (h2 : a < hi) : Off S (ul S a f z) lo hi := by
  intro b hb
  refine ⟨rfl, ?_, rfl⟩
  funext f'
  exact uL_ne (fun q => by omega)
theorem Off.wc {S : St} {lo hi a b n : Nat} (h1 : lo ≤ b) (h2 : b < hi) : Off S (cpI S a b n) lo hi := by
  intro c hc
  refine ⟨?_, rfl, rfl⟩
  funext f'
  show (if c = b ∧ f' < n then S.1 a f' else S.1 c f') = _
  rw [if_neg (fun q => by omega)]
theorem Off.tu {S S' : St} {lo hi a f : Nat} {z : Int} (h : Off S S' lo hi) (h1 : lo ≤ a) (h2 : a < hi) : Off S (u S' a f z) lo hi := h.trans (Off.wt h1 h2)
theorem Off.tcp {S S' : St} {lo hi a b n : Nat} (h : Off S S' lo hi) (h1 : lo ≤ b) (h2 : b < hi) : Off S (cpI S' a b n) lo hi := h.trans (Off.wc h1 h2)
theorem g_ne {S : St} {a f a' f' : Nat} {z : Int} (h : ¬ (a' = a ∧ f' = f)) : g (u S a f z) a' f' = g S a' f' := by rw [g_w, if_neg h]
theorem g_eq {S : St} {a f : Nat} {z : Int} : g (u S a f z) a f = wr z := by rw [g_w, if_pos ⟨rfl, rfl⟩]
theorem vC_off {S S' : St} {lo hi s : Nat} (h : Off S S' lo hi) (hs : hi ≤ s ∨ s + 22 ≤ lo) : vC S' s = vC S s := by
  have hg : ∀ c f, (c < lo ∨ hi ≤ c) → g S' c f = g S c f := fun c f hc => h.rd hc
  funext k i
  unfold vC
  by_cases k1 : k < 7
  · simp only [k1, if_true]
    rw [hg (s + 1) _ (by omega), hg (s + 2 + k) _ (by omega)]
  · by_cases k2 : k < 12
    · simp only [k1, k2, if_true, if_false]
      rw [hg (s + 9) _ (by omega), hg (s + 3 + k) _ (by omega)]
    · by_cases k3 : k < 14
      · simp only [k1, k2, k3, if_true, if_false]
        rw [hg (s + 15) _ (by omega), hg (s + 4 + k) _ (by omega)]
      · by_cases k4 : k < 16
        · simp only [k1, k2, k3, k4, if_true, if_false]
          rw [hg s _ (by omega), hg (s + 5 + k) _ (by omega)]
        · by_cases k5 : k = 16
          · subst k5
            simp only [k1, k2, k3, k4, if_true, if_false, eq_self]
            rw [hg s _ (by omega), hg (s + 5 + 16) _ (by omega)]
          · simp only [k1, k2, k3, k4, k5, if_false]
            simp (disch := omega) only [hg]
def up (W : Vw) (k i : Nat) (z : Int) : Vw := fun k' i' => if k' = k ∧ i' = i then z else W k' i'
theorem at_up {W : Vw} {k k' i : Nat} {z a : Int} : at_ (up W k i z) k' a = if k' = k ∧ a.toNat = i then z else at_ W k' a := rfl
theorem at_upn {W : Vw} {k k' i : Nat} {z a : Int} (h : ¬ k' = k) : at_ (up W k i z) k' a = at_ W k' a := if_neg (fun q => h q.1)
theorem at_upe {W : Vw} {k : Nat} {z a b : Int} (ha : 0 ≤ a) (hb : 0 ≤ b) : at_ (up W k b.toNat z) k a = if a = b then z else at_ W k a := by
  rw [at_up]
  by_cases h : a = b
  · subst h; rw [if_pos ⟨rfl, rfl⟩, if_pos rfl]
  · rw [if_neg (fun q => h (by omega)), if_neg h]
theorem nA_up {W : Vw} {k i : Nat} {z : Int} (h : k < 17) : nA (up W k i z) = nA W := if_neg (fun q => by omega)
theorem nS_up {W : Vw} {k i : Nat} {z : Int} (h : k < 17) : nS (up W k i z) = nS W := if_neg (fun q => by omega)
theorem nB_up {W : Vw} {k i : Nat} {z : Int} (h : k < 17) : nB (up W k i z) = nB W := if_neg (fun q => by omega)
theorem sg_up {W : Vw} {k i : Nat} {z : Int} (h : k < 17) : sg (up W k i z) = sg W := if_neg (fun q => by omega)
theorem pe_up {W : Vw} {k i : Nat} {z : Int} (h : k < 17) : pe (up W k i z) = pe W := if_neg (fun q => by omega)
theorem tm_up {W : Vw} {k i : Nat} {z : Int} (h : k < 17) : tm (up W k i z) = tm W := if_neg (fun q => by omega)
theorem lo_up {W : Vw} {k i : Nat} {z : Int} (h : k < 17) : lo_ (up W k i z) = lo_ W := if_neg (fun q => by omega)
theorem pgs_up {W : Vw} {k i : Nat} {z : Int} (h : k < 17) : pgs (up W k i z) = pgs W := by unfold pgs; rw [sg_up h, pe_up h]
section ViewUps
variable {S : St} {s : Nat} {z : Int}
theorem vC_uA {k a : Nat} (hk : k < 7) (ha : (a : Int) < g S (s + 1) 7) : vC (u S (s + 2 + k) a z) s = up (vC S s) k a (wr z) := by
  have hg : ∀ c f, ¬ (c = s + 2 + k ∧ f = a) → g (u S (s + 2 + k) a z) c f = g S c f := fun c f h => g_ne h
  funext k' i'
  by_cases h : k' = k ∧ i' = a
  · obtain ⟨rfl, rfl⟩ := h
    rw [up, if_pos ⟨rfl, rfl⟩]
    unfold vC
    rw [if_pos hk, hg _ _ (by omega), if_pos ha, g_eq]
  · rw [up, if_neg h]
    unfold vC
    by_cases k1 : k' < 7
    · simp only [k1, if_true]
      rw [hg (s + 1) _ (by omega), hg (s + 2 + k') _ (by omega)]
    · by_cases k2 : k' < 12
      · simp only [k1, k2, if_true, if_false]
        rw [hg (s + 9) _ (by omega), hg (s + 3 + k') _ (by omega)]
      · by_cases k3 : k' < 14
        · simp only [k1, k2, k3, if_true, if_false]
          rw [hg (s + 15) _ (by omega), hg (s + 4 + k') _ (by omega)]
        · by_cases k4 : k' < 16
          · simp only [k1, k2, k3, k4, if_true, if_false]
            rw [hg s _ (by omega), hg (s + 5 + k') _ (by omega)]
          · by_cases k5 : k' = 16
            · subst k5
              simp only [k1, k2, k3, k4, if_true, if_false, eq_self]
              rw [hg s _ (by omega), hg (s + 5 + 16) _ (by omega)]
            · simp only [k1, k2, k3, k4, k5, if_false]
              simp (disch := omega) only [hg]
theorem vC_uS {k a : Nat} (hk : 7 ≤ k ∧ k < 12) (ha : (a : Int) < g S (s + 9) 5) : vC (u S (s + 3 + k) a z) s = up (vC S s) k a (wr z) := by
  have hg : ∀ c f, ¬ (c = s + 3 + k ∧ f = a) → g (u S (s + 3 + k) a z) c f = g S c f := fun c f h => g_ne h
  funext k' i'
  by_cases h : k' = k ∧ i' = a
  · obtain ⟨rfl, rfl⟩ := h
    rw [up, if_pos ⟨rfl, rfl⟩]
    unfold vC
    rw [if_neg (by omega), if_pos hk.2, hg _ _ (by omega), if_pos ha, g_eq]
  · rw [up, if_neg h]
    unfold vC
    by_cases k1 : k' < 7
    · simp only [k1, if_true]
      rw [hg (s + 1) _ (by omega), hg (s + 2 + k') _ (by omega)]
    · by_cases k2 : k' < 12
      · simp only [k1, k2, if_true, if_false]
        rw [hg (s + 9) _ (by omega), hg (s + 3 + k') _ (by omega)]
      · by_cases k3 : k' < 14
        · simp only [k1, k2, k3, if_true, if_false]
          rw [hg (s + 15) _ (by omega), hg (s + 4 + k') _ (by omega)]
        · by_cases k4 : k' < 16
          · simp only [k1, k2, k3, k4, if_true, if_false]
            rw [hg s _ (by omega), hg (s + 5 + k') _ (by omega)]
          · by_cases k5 : k' = 16
            · subst k5
              simp only [k1, k2, k3, k4, if_true, if_false, eq_self]
              rw [hg s _ (by omega), hg (s + 5 + 16) _ (by omega)]
            · simp only [k1, k2, k3, k4, k5, if_false]
              simp (disch := omega) only [hg]
theorem vC_uB {k a : Nat} (hk : 12 ≤ k ∧ k < 14) (ha : (a : Int) < g S (s + 15) 2) : vC (u S (s + 4 + k) a z) s = up (vC S s) k a (wr z) := by
  have hg : ∀ c f, ¬ (c = s + 4 + k ∧ f = a) → g (u S (s + 4 + k) a z) c f = g S c f := fun c f h => g_ne h
  funext k' i'
  by_cases h : k' = k ∧ i' = a
  · obtain ⟨rfl, rfl⟩ := h
    rw [up, if_pos ⟨rfl, rfl⟩]
    unfold vC
    rw [if_neg (by omega), if_neg (by omega), if_pos hk.2, hg _ _ (by omega), if_pos ha, g_eq]
  · rw [up, if_neg h]
    unfold vC
    by_cases k1 : k' < 7
    · simp only [k1, if_true]
      rw [hg (s + 1) _ (by omega), hg (s + 2 + k') _ (by omega)]
    · by_cases k2 : k' < 12
      · simp only [k1, k2, if_true, if_false]
        rw [hg (s + 9) _ (by omega), hg (s + 3 + k') _ (by omega)]
      · by_cases k3 : k' < 14
        · simp only [k1, k2, k3, if_true, if_false]
          rw [hg (s + 15) _ (by omega), hg (s + 4 + k') _ (by omega)]
        · by_cases k4 : k' < 16
          · simp only [k1, k2, k3, k4, if_true, if_false]
            rw [hg s _ (by omega), hg (s + 5 + k') _ (by omega)]
          · by_cases k5 : k' = 16
            · subst k5
              simp only [k1, k2, k3, k4, if_true, if_false, eq_self]
              rw [hg s _ (by omega), hg (s + 5 + 16) _ (by omega)]
            · simp only [k1, k2, k3, k4, k5, if_false]
              simp (disch := omega) only [hg]
theorem vC_uF {k a : Nat} (hk : 14 ≤ k ∧ k < 17) (ha : (a : Int) < 2 * g S s 4) : vC (u S (s + 5 + k) a z) s = up (vC S s) k a (if k = 16 then cl6 (wr z) else wr z) := by
  have hg : ∀ c f, ¬ (c = s + 5 + k ∧ f = a) → g (u S (s + 5 + k) a z) c f = g S c f := fun c f h => g_ne h
  funext k' i'
  by_cases h : k' = k ∧ i' = a
  · obtain ⟨rfl, rfl⟩ := h
    rw [up, if_pos ⟨rfl, rfl⟩]
    unfold vC
    by_cases k4 : k' = 16
    · subst k4
      rw [if_neg (by omega), if_neg (by omega), if_neg (by omega), if_neg (by omega), if_pos rfl, hg _ _ (by omega), if_pos ha, g_eq, if_pos rfl]
    · rw [if_neg (by omega), if_neg (by omega), if_neg (by omega), if_pos (by omega), hg _ _ (by omega), if_pos ha, g_eq, if_neg k4]
  · rw [up, if_neg h]
    unfold vC
    by_cases k1 : k' < 7
    · simp only [k1, if_true]
      rw [hg (s + 1) _ (by omega), hg (s + 2 + k') _ (by omega)]
    · by_cases k2 : k' < 12
      · simp only [k1, k2, if_true, if_false]
        rw [hg (s + 9) _ (by omega), hg (s + 3 + k') _ (by omega)]
      · by_cases k3 : k' < 14
        · simp only [k1, k2, k3, if_true, if_false]
          rw [hg (s + 15) _ (by omega), hg (s + 4 + k') _ (by omega)]
        · by_cases k4 : k' < 16
          · simp only [k1, k2, k3, k4, if_true, if_false]
            rw [hg s _ (by omega), hg (s + 5 + k') _ (by omega)]
          · by_cases k5 : k' = 16
            · subst k5
              simp only [k1, k2, k3, k4, if_true, if_false, eq_self]
              rw [hg s _ (by omega), hg (s + 5 + 16) _ (by omega)]
            · simp only [k1, k2, k3, k4, k5, if_false]
              simp (disch := omega) only [hg]
theorem vC_uT {f : Nat} (hf : f = 6 ∨ f = 7) : vC (u S s f z) s = up (vC S s) 17 (f - 1) (wr z) := by
  have hg : ∀ c f', ¬ (c = s ∧ f' = f) → g (u S s f z) c f' = g S c f' := fun c f h => g_ne h
  funext k' i'
  unfold vC up
  by_cases k1 : k' < 7
  · simp only [k1, if_true]
    rw [hg (s + 1) _ (by omega), hg (s + 2 + k') _ (by omega), if_neg (c := k' = 17 ∧ i' = f - 1) (by omega)]
  · by_cases k2 : k' < 12
    · simp only [k1, k2, if_true, if_false]
      rw [hg (s + 9) _ (by omega), hg (s + 3 + k') _ (by omega), if_neg (c := k' = 17 ∧ i' = f - 1) (by omega)]
    · by_cases k3 : k' < 14
      · simp only [k1, k2, k3, if_true, if_false]
        rw [hg (s + 15) _ (by omega), hg (s + 4 + k') _ (by omega), if_neg (c := k' = 17 ∧ i' = f - 1) (by omega)]
      · by_cases k4 : k' < 16
        · simp only [k1, k2, k3, k4, if_true, if_false]
          rw [hg s 4 (by omega), hg (s + 5 + k') _ (by omega), if_neg (c := k' = 17 ∧ i' = f - 1) (by omega)]
        · by_cases k5 : k' = 16
          · subst k5
            simp only [k1, k2, k3, k4, if_true, if_false, eq_self]
            rw [hg s 4 (by omega), hg (s + 5 + 16) _ (by omega), if_neg (c := 16 = 17 ∧ i' = f - 1) (by omega)]
          · simp only [k1, k2, k3, k4, k5, if_false]
            by_cases k6 : 17 < k'
            · rw [if_pos k6, if_pos k6, if_neg (by omega)]
            · rw [if_neg k6, if_neg k6]
              have e17 : k' = 17 := by omega
              subst e17
              rw [hg (s + 1) _ (by omega), hg (s + 9) _ (by omega), hg (s + 15) _ (by omega), hg s 4 (by omega), hg s 5 (by omega)]
              rcases hf with rfl | rfl
              · rw [g_eq, hg s 7 (by omega), cntV_5 (a5 := g S s 6)]
                by_cases e : i' = 5
                · rw [if_pos e, if_pos ⟨rfl, e⟩]
                · rw [if_neg e, if_neg (fun q => e q.2)]
              · rw [g_eq, hg s 6 (by omega), cntV_6 (a6 := g S s 7)]
                by_cases e : i' = 6
                · rw [if_pos e, if_pos ⟨rfl, e⟩]
                · rw [if_neg e, if_neg (fun q => e q.2)]
end ViewUps
def MB (S : St) : Prop := 0 ≤ g S 515 1 ∧ g S 515 1 ≤ 40 ∧ 0 ≤ g S 515 2 ∧ g S 515 2 ≤ 10 ∧ 0 ≤ g S 515 3 ∧ g S 515 3 ≤ 8 ∧ 1 ≤ g S 514 1 ∧ g S 514 1 ≤ 4
section ModUps
variable {S : St} {z : Int}
end ModUps

