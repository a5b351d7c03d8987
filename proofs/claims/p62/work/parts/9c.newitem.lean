/-! load: an item more -/
section NewItem
variable {S S' T T' : St} {V V' : Vw} {n : Int} {F : Nat → Int} {k lo hi ci : Nat} {a : Int}
def nwV (V : Vw) (lo hi ci : Nat) (n : Int) (F : Nat → Int) : Vw := fun k i => if (lo ≤ k ∧ k < hi) ∧ (i : Int) = n then F k else if k = 17 ∧ i = ci then n + 1 else V k i
theorem nwV_o (hn : 0 ≤ n) (ha : 0 ≤ a) (h : (lo ≤ k ∧ k < hi) → a ≠ n) (h17 : k < 17) : at_ (nwV V lo hi ci n F) k a = at_ V k a := by
  unfold at_ nwV
  rw [if_neg (fun z => by have := h z.1; omega), if_neg (fun z => by omega)]
theorem nwV_new (hn : 0 ≤ n) (h : lo ≤ k ∧ k < hi) : at_ (nwV V lo hi ci n F) k n = F k := by
  unfold at_ nwV
  rw [if_pos ⟨h, by omega⟩]
theorem nwV_c (hh : hi ≤ 17) (j : Nat) : nwV V lo hi ci n F 17 j = if j = ci then n + 1 else V 17 j := by
  unfold nwV
  rw [if_neg (fun z => by omega)]
  by_cases c : j = ci
  · rw [if_pos ⟨rfl, c⟩, if_pos c]
  · rw [if_neg (fun z => c z.2), if_neg c]
theorem cntV_g {a0 a1 a2 a3 a4 a5 a6 b0 b1 b2 b3 b4 b5 b6 : Int} : ∀ {i : Nat}, (i = 0 → a0 = b0) → (i = 1 → a1 = b1) → (i = 2 → a2 = b2) → a3 = b3 → a4 = b4 → a5 = b5 → a6 = b6 → cntV a0 a1 a2 a3 a4 a5 a6 i = cntV b0 b1 b2 b3 b4 b5 b6 i
  | 0, h, _, _, _, _, _, _ => h rfl
  | 1, _, h, _, _, _, _, _ => h rfl
  | 2, _, _, h, _, _, _, _ => h rfl
  | 3, _, _, _, h, _, _, _ => h
  | 4, _, _, _, _, h, _, _ => h
  | 5, _, _, _, _, _, h, _ => h
  | 6, _, _, _, _, _, _, h => h
  | _ + 7, _, _, _, _, _, _, _ => rfl
theorem vC_nwA {s N : Nat} (hN : g S (s + 1) 7 = (N : Int)) (e1 : g S' (s + 1) 7 = (N : Int) + 1) (eF : ∀ k, 0 ≤ k → k < 7 → g S' (s + 2 + k) N = F k) (oth : ∀ k i : Nat, 0 ≤ k → k < 7 → i < N → g S' (s + 2 + k) i = g S (s + 2 + k) i) (oc : ∀ c f, (c < s + 1 ∨ s + 9 ≤ c) → g S' c f = g S c f) : vC S' s = nwV (vC S s) 0 7 0 N F := by
  funext k i
  unfold nwV
  by_cases c : (0 ≤ k ∧ k < 7) ∧ (i : Int) = N
  · rw [if_pos c]
    have ei : i = N := by omega
    unfold vC
    rw [if_pos c.1.2, e1, if_pos (by omega), ei]
    exact eF k c.1.1 c.1.2
  · rw [if_neg c]
    by_cases d : k = 17 ∧ i = 0
    · rw [if_pos d, d.1, d.2]
      exact e1
    · rw [if_neg d]
      unfold vC
      by_cases k1 : k < 7
      · simp only [k1, if_true]
        rw [hN, e1]
        by_cases ic : (i : Int) < N
        · rw [if_pos (by omega), if_pos ic, oth k i (by omega) (by omega) (by omega)]
        · rw [if_neg (by omega), if_neg ic]
      · by_cases k2 : k < 12
        · simp only [k1, k2, if_true, if_false]
          rw [oc _ _ (by omega), oc _ _ (by omega)]
        · by_cases k3 : k < 14
          · simp only [k1, k2, k3, if_true, if_false]
            rw [oc _ _ (by omega), oc _ _ (by omega)]
          · by_cases k4 : k < 16
            · simp only [k1, k2, k3, k4, if_true, if_false]
              rw [oc _ _ (by omega), oc _ _ (by omega)]
            · by_cases k5 : k = 16
              · subst k5
                simp only [k1, k2, k3, k4, if_true, if_false, eq_self]
                rw [oc _ _ (by omega), oc _ _ (by omega)]
              · by_cases k6 : 17 < k
                · simp only [k1, k2, k3, k4, k5, k6, if_true, if_false]
                · simp only [k1, k2, k3, k4, k5, k6, if_false]
                  refine cntV_g (fun z => ?_) (fun z => ?_) (fun z => ?_) (oc _ _ (by omega)) (oc _ _ (by omega)) (oc _ _ (by omega)) (oc _ _ (by omega))
                  · exact absurd ⟨by omega, z⟩ d
                  · exact oc _ _ (by omega)
                  · exact oc _ _ (by omega)
theorem vC_nwS {s N : Nat} (hN : g S (s + 9) 5 = (N : Int)) (e1 : g S' (s + 9) 5 = (N : Int) + 1) (eF : ∀ k, 7 ≤ k → k < 12 → g S' (s + 3 + k) N = F k) (oth : ∀ k i : Nat, 7 ≤ k → k < 12 → i < N → g S' (s + 3 + k) i = g S (s + 3 + k) i) (oc : ∀ c f, (c < s + 9 ∨ s + 15 ≤ c) → g S' c f = g S c f) : vC S' s = nwV (vC S s) 7 12 1 N F := by
  funext k i
  unfold nwV
  by_cases c : (7 ≤ k ∧ k < 12) ∧ (i : Int) = N
  · rw [if_pos c]
    have ei : i = N := by omega
    unfold vC
    rw [if_neg (by omega : ¬ k < 7), if_pos c.1.2, e1, if_pos (by omega), ei]
    exact eF k c.1.1 c.1.2
  · rw [if_neg c]
    by_cases d : k = 17 ∧ i = 1
    · rw [if_pos d, d.1, d.2]
      exact e1
    · rw [if_neg d]
      unfold vC
      by_cases k1 : k < 7
      · simp only [k1, if_true]
        rw [oc _ _ (by omega), oc _ _ (by omega)]
      · by_cases k2 : k < 12
        · simp only [k1, k2, if_true, if_false]
          rw [hN, e1]
          by_cases ic : (i : Int) < N
          · rw [if_pos (by omega), if_pos ic, oth k i (by omega) (by omega) (by omega)]
          · rw [if_neg (by omega), if_neg ic]
        · by_cases k3 : k < 14
          · simp only [k1, k2, k3, if_true, if_false]
            rw [oc _ _ (by omega), oc _ _ (by omega)]
          · by_cases k4 : k < 16
            · simp only [k1, k2, k3, k4, if_true, if_false]
              rw [oc _ _ (by omega), oc _ _ (by omega)]
            · by_cases k5 : k = 16
              · subst k5
                simp only [k1, k2, k3, k4, if_true, if_false, eq_self]
                rw [oc _ _ (by omega), oc _ _ (by omega)]
              · by_cases k6 : 17 < k
                · simp only [k1, k2, k3, k4, k5, k6, if_true, if_false]
                · simp only [k1, k2, k3, k4, k5, k6, if_false]
                  refine cntV_g (fun z => ?_) (fun z => ?_) (fun z => ?_) (oc _ _ (by omega)) (oc _ _ (by omega)) (oc _ _ (by omega)) (oc _ _ (by omega))
                  · exact oc _ _ (by omega)
                  · exact absurd ⟨by omega, z⟩ d
                  · exact oc _ _ (by omega)
theorem vC_nwB {s N : Nat} (hN : g S (s + 15) 2 = (N : Int)) (e1 : g S' (s + 15) 2 = (N : Int) + 1) (eF : ∀ k, 12 ≤ k → k < 14 → g S' (s + 4 + k) N = F k) (oth : ∀ k i : Nat, 12 ≤ k → k < 14 → i < N → g S' (s + 4 + k) i = g S (s + 4 + k) i) (oc : ∀ c f, (c < s + 15 ∨ s + 18 ≤ c) → g S' c f = g S c f) : vC S' s = nwV (vC S s) 12 14 2 N F := by
  funext k i
  unfold nwV
  by_cases c : (12 ≤ k ∧ k < 14) ∧ (i : Int) = N
  · rw [if_pos c]
    have ei : i = N := by omega
    unfold vC
    rw [if_neg (by omega : ¬ k < 7), if_neg (by omega : ¬ k < 12), if_pos c.1.2, e1, if_pos (by omega), ei]
    exact eF k c.1.1 c.1.2
  · rw [if_neg c]
    by_cases d : k = 17 ∧ i = 2
    · rw [if_pos d, d.1, d.2]
      exact e1
    · rw [if_neg d]
      unfold vC
      by_cases k1 : k < 7
      · simp only [k1, if_true]
        rw [oc _ _ (by omega), oc _ _ (by omega)]
      · by_cases k2 : k < 12
        · simp only [k1, k2, if_true, if_false]
          rw [oc _ _ (by omega), oc _ _ (by omega)]
        · by_cases k3 : k < 14
          · simp only [k1, k2, k3, if_true, if_false]
            rw [hN, e1]
            by_cases ic : (i : Int) < N
            · rw [if_pos (by omega), if_pos ic, oth k i (by omega) (by omega) (by omega)]
            · rw [if_neg (by omega), if_neg ic]
          · by_cases k4 : k < 16
            · simp only [k1, k2, k3, k4, if_true, if_false]
              rw [oc _ _ (by omega), oc _ _ (by omega)]
            · by_cases k5 : k = 16
              · subst k5
                simp only [k1, k2, k3, k4, if_true, if_false, eq_self]
                rw [oc _ _ (by omega), oc _ _ (by omega)]
              · by_cases k6 : 17 < k
                · simp only [k1, k2, k3, k4, k5, k6, if_true, if_false]
                · simp only [k1, k2, k3, k4, k5, k6, if_false]
                  refine cntV_g (fun z => ?_) (fun z => ?_) (fun z => ?_) (oc _ _ (by omega)) (oc _ _ (by omega)) (oc _ _ (by omega)) (oc _ _ (by omega))
                  · exact oc _ _ (by omega)
                  · exact oc _ _ (by omega)
                  · exact absurd ⟨by omega, z⟩ d
theorem PT_same {p : Nat} (h : PT S p V) (hv : vC S' (p + 1) = V') (hV' : Val V') (hW' : Wf V') (ho : Off S S' (p + 2) (p + 23)) (e4 : sg V' = sg V) (e5 : pe V' = pe V) (el : ∀ q, 1 ≤ q → q ≤ pgs V → rawR V' q (-1) (-1) = rawR V q (-1) (-1)) (es : ∀ q, stOn V' q (-1) = stOn V q (-1)) (eg : ∀ y s, grp V' y s = grp V y s) : PT S' p V' := by
  have ep : pgs V' = pgs V := by unfold pgs; rw [e4, e5]
  refine ⟨⟨⟨h.pl.q, hv, hV'⟩, ⟨?_, ?_⟩, fun q q1 q2 => ?_⟩, ⟨fun q q1 q2 => ?_, fun y s y1 y2 s1 s2 => ?_⟩, hW'⟩
  · rw [ho.rd (by omega), ep]; exact h.pl.gp
  · rw [ho.rd (by omega)]; unfold frm; rw [e4]; exact h.pl.gf
  · rw [ep] at q2
    unfold fOf
    rw [e5, ho.rd (by omega), ho.rd (by omega)]
    exact ⟨h.pl.fo q1 q2, h.pl.sO q1 q2⟩
  · rw [ep] at q2
    have l : lf V' q = lf V q := by
      unfold lf lefO
      rw [es, room_raw hV', room_raw h.v, el q q1 q2]
    rw [l, es, ho.rd (by omega), ho.rd (by omega)]
    exact ⟨h.l q1 q2, h.s q1 q2⟩
  · rw [eg, ho.rd (by omega)]
    exact h.gr ⟨y1, y2⟩ ⟨s1, s2⟩
end NewItem

