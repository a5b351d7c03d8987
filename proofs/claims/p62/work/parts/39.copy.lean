/-! STATES COPIED -/
def SQ (s : Nat) : Prop := s = 6 ∨ s = 34 ∨ ∃ i, i < 20 ∧ s = 65 + 22 * i
theorem SQ.of {s : Nat} (h : SQ s) {P : Nat → Prop} (h1 : P 6) (h2 : P 34) (h3 : ∀ i, i < 20 → P (65 + 22 * i)) : P s := by
  rcases h with rfl | rfl | ⟨i, hi, rfl⟩
  · exact h1
  · exact h2
  · exact h3 i hi
theorem SQ.all {s : Nat} (h : SQ s) {q : Nat → Bool} (hk : (q 6 && q 34 && (List.range 20).all (fun i => q (65 + 22 * i))) = true) : q s = true := by
  rw [Bool.and_eq_true, Bool.and_eq_true] at hk
  exact h.of (P := fun s => q s = true) hk.1.1 hk.1.2 (fun i hi => List.all_eq_true.mp hk.2 i (List.mem_range.mpr hi))
section CopyCells
variable {s : Nat}
theorem ts_A (h : SQ s) : tgt s 0 = s + 1 := Nat.eq_of_beq_eq_true (h.all (q := fun s => Nat.beq (tgt s 0) (s + 1)) (by decide +kernel))
theorem ts_S (h : SQ s) : tgt s 1 = s + 9 := Nat.eq_of_beq_eq_true (h.all (q := fun s => Nat.beq (tgt s 1) (s + 9)) (by decide +kernel))
theorem ts_B (h : SQ s) : tgt s 2 = s + 15 := Nat.eq_of_beq_eq_true (h.all (q := fun s => Nat.beq (tgt s 2) (s + 15)) (by decide +kernel))
theorem ts_F (h : SQ s) : tgt s 3 = s + 18 := Nat.eq_of_beq_eq_true (h.all (q := fun s => Nat.beq (tgt s 3) (s + 18)) (by decide +kernel))
theorem ts_A0 (h : SQ s) : tgt (s + 1) 0 = s + 2 := Nat.eq_of_beq_eq_true (h.all (q := fun s => Nat.beq (tgt (s + 1) 0) (s + 2)) (by decide +kernel))
theorem ts_A1 (h : SQ s) : tgt (s + 1) 1 = s + 3 := Nat.eq_of_beq_eq_true (h.all (q := fun s => Nat.beq (tgt (s + 1) 1) (s + 3)) (by decide +kernel))
theorem ts_A2 (h : SQ s) : tgt (s + 1) 2 = s + 4 := Nat.eq_of_beq_eq_true (h.all (q := fun s => Nat.beq (tgt (s + 1) 2) (s + 4)) (by decide +kernel))
theorem ts_A3 (h : SQ s) : tgt (s + 1) 3 = s + 5 := Nat.eq_of_beq_eq_true (h.all (q := fun s => Nat.beq (tgt (s + 1) 3) (s + 5)) (by decide +kernel))
theorem ts_A4 (h : SQ s) : tgt (s + 1) 4 = s + 6 := Nat.eq_of_beq_eq_true (h.all (q := fun s => Nat.beq (tgt (s + 1) 4) (s + 6)) (by decide +kernel))
theorem ts_A5 (h : SQ s) : tgt (s + 1) 5 = s + 7 := Nat.eq_of_beq_eq_true (h.all (q := fun s => Nat.beq (tgt (s + 1) 5) (s + 7)) (by decide +kernel))
theorem ts_A6 (h : SQ s) : tgt (s + 1) 6 = s + 8 := Nat.eq_of_beq_eq_true (h.all (q := fun s => Nat.beq (tgt (s + 1) 6) (s + 8)) (by decide +kernel))
theorem ts_S0 (h : SQ s) : tgt (s + 9) 0 = s + 10 := Nat.eq_of_beq_eq_true (h.all (q := fun s => Nat.beq (tgt (s + 9) 0) (s + 10)) (by decide +kernel))
theorem ts_S1 (h : SQ s) : tgt (s + 9) 1 = s + 11 := Nat.eq_of_beq_eq_true (h.all (q := fun s => Nat.beq (tgt (s + 9) 1) (s + 11)) (by decide +kernel))
theorem ts_S2 (h : SQ s) : tgt (s + 9) 2 = s + 12 := Nat.eq_of_beq_eq_true (h.all (q := fun s => Nat.beq (tgt (s + 9) 2) (s + 12)) (by decide +kernel))
theorem ts_S3 (h : SQ s) : tgt (s + 9) 3 = s + 13 := Nat.eq_of_beq_eq_true (h.all (q := fun s => Nat.beq (tgt (s + 9) 3) (s + 13)) (by decide +kernel))
theorem ts_S4 (h : SQ s) : tgt (s + 9) 4 = s + 14 := Nat.eq_of_beq_eq_true (h.all (q := fun s => Nat.beq (tgt (s + 9) 4) (s + 14)) (by decide +kernel))
theorem ts_B0 (h : SQ s) : tgt (s + 15) 0 = s + 16 := Nat.eq_of_beq_eq_true (h.all (q := fun s => Nat.beq (tgt (s + 15) 0) (s + 16)) (by decide +kernel))
theorem ts_B1 (h : SQ s) : tgt (s + 15) 1 = s + 17 := Nat.eq_of_beq_eq_true (h.all (q := fun s => Nat.beq (tgt (s + 15) 1) (s + 17)) (by decide +kernel))
theorem ts_F0 (h : SQ s) : tgt (s + 18) 0 = s + 19 := Nat.eq_of_beq_eq_true (h.all (q := fun s => Nat.beq (tgt (s + 18) 0) (s + 19)) (by decide +kernel))
theorem ts_F1 (h : SQ s) : tgt (s + 18) 1 = s + 20 := Nat.eq_of_beq_eq_true (h.all (q := fun s => Nat.beq (tgt (s + 18) 1) (s + 20)) (by decide +kernel))
theorem ts_F2 (h : SQ s) : tgt (s + 18) 2 = s + 21 := Nat.eq_of_beq_eq_true (h.all (q := fun s => Nat.beq (tgt (s + 18) 2) (s + 21)) (by decide +kernel))
end CopyCells
section Copies
variable {S : St} {s0 s1 : Nat}
theorem gcp_ne {S : St} {a b n a' f' : Nat} (h : a' ≠ b) : g (cpI S a b n) a' f' = g S a' f' := by rw [g_cp, if_neg (fun q => h q.1)]
theorem gcp_eq {S : St} {a b n f' : Nat} (h : f' < n) : g (cpI S a b n) b f' = g S a f' := by rw [g_cp, if_pos ⟨rfl, h⟩]
theorem gu_c {S : St} {a f a' f' : Nat} {z : Int} (h : a' ≠ a) : g (u S a f z) a' f' = g S a' f' := g_ne (fun q => h q.1)
theorem wr_g {S : St} {a f : Nat} : wr (g S a f) = g S a f := wr_id (g_in S a f)
theorem C_ads (h0 : SQ s0) (h1 : SQ s1) (hd : s0 + 22 ≤ s1 ∨ s1 + 22 ≤ s0) : ∃ S', fn_Ads_copyFrom (s0 + 1) (s1 + 1) S = some S' ∧ Off S S' (s0 + 1) (s0 + 9) ∧ g S' (s0 + 1) 7 = g S (s1 + 1) 7 ∧ ∀ k, k < 7 → ∀ f, f < 40 → g S' (s0 + 2 + k) f = g S (s1 + 2 + k) f := by
  unfold fn_Ads_copyFrom
  simp only [ts_A0 h0, ts_A0 h1, ts_A1 h0, ts_A1 h1, ts_A2 h0, ts_A2 h1, ts_A3 h0, ts_A3 h1, ts_A4 h0, ts_A4 h1, ts_A5 h0, ts_A5 h1, ts_A6 h0, ts_A6 h1, nm_x]
  refine ⟨_, rfl, ?_, ?_, fun k hk f hf => ?_⟩
  · refine Off.tu ?_ (by omega) (by omega)
    refine Off.tcp (Off.tcp (Off.tcp (Off.tcp (Off.tcp (Off.tcp (Off.wc ?_ ?_) ?_ ?_) ?_ ?_) ?_ ?_) ?_ ?_) ?_ ?_) ?_ ?_ <;> omega
  · rw [g_eq, wr_g]
    simp (disch := omega) only [gcp_ne]
  · rw [gu_c (by omega)]
    have hk' : k = 0 ∨ k = 1 ∨ k = 2 ∨ k = 3 ∨ k = 4 ∨ k = 5 ∨ k = 6 := by omega
    rcases hk' with rfl | rfl | rfl | rfl | rfl | rfl | rfl
    · show g _ (s0 + 2) f = g S (s1 + 2) f
      simp (disch := omega) only [gcp_ne, gcp_eq]
    · show g _ (s0 + 3) f = g S (s1 + 3) f
      simp (disch := omega) only [gcp_ne, gcp_eq]
    · show g _ (s0 + 4) f = g S (s1 + 4) f
      simp (disch := omega) only [gcp_ne, gcp_eq]
    · show g _ (s0 + 5) f = g S (s1 + 5) f
      simp (disch := omega) only [gcp_ne, gcp_eq]
    · show g _ (s0 + 6) f = g S (s1 + 6) f
      simp (disch := omega) only [gcp_ne, gcp_eq]
    · show g _ (s0 + 7) f = g S (s1 + 7) f
      simp (disch := omega) only [gcp_ne, gcp_eq]
    · show g _ (s0 + 8) f = g S (s1 + 8) f
      simp (disch := omega) only [gcp_ne, gcp_eq]
theorem C_stories (h0 : SQ s0) (h1 : SQ s1) (hd : s0 + 22 ≤ s1 ∨ s1 + 22 ≤ s0) : ∃ S', fn_Stories_copyFrom (s0 + 9) (s1 + 9) S = some S' ∧ Off S S' (s0 + 9) (s0 + 15) ∧ g S' (s0 + 9) 5 = g S (s1 + 9) 5 ∧ ∀ k, k < 5 → ∀ f, f < 10 → g S' (s0 + 10 + k) f = g S (s1 + 10 + k) f := by
  unfold fn_Stories_copyFrom
  simp only [ts_S0 h0, ts_S0 h1, ts_S1 h0, ts_S1 h1, ts_S2 h0, ts_S2 h1, ts_S3 h0, ts_S3 h1, ts_S4 h0, ts_S4 h1, nm_x]
  refine ⟨_, rfl, ?_, ?_, fun k hk f hf => ?_⟩
  · refine Off.tu ?_ (by omega) (by omega)
    refine Off.tcp (Off.tcp (Off.tcp (Off.tcp (Off.wc ?_ ?_) ?_ ?_) ?_ ?_) ?_ ?_) ?_ ?_ <;> omega
  · rw [g_eq, wr_g]
    simp (disch := omega) only [gcp_ne]
  · rw [gu_c (by omega)]
    have hk' : k = 0 ∨ k = 1 ∨ k = 2 ∨ k = 3 ∨ k = 4 := by omega
    rcases hk' with rfl | rfl | rfl | rfl | rfl
    · show g _ (s0 + 10) f = g S (s1 + 10) f
      simp (disch := omega) only [gcp_ne, gcp_eq]
    · show g _ (s0 + 11) f = g S (s1 + 11) f
      simp (disch := omega) only [gcp_ne, gcp_eq]
    · show g _ (s0 + 12) f = g S (s1 + 12) f
      simp (disch := omega) only [gcp_ne, gcp_eq]
    · show g _ (s0 + 13) f = g S (s1 + 13) f
      simp (disch := omega) only [gcp_ne, gcp_eq]
    · show g _ (s0 + 14) f = g S (s1 + 14) f
      simp (disch := omega) only [gcp_ne, gcp_eq]
theorem C_standbys (h0 : SQ s0) (h1 : SQ s1) (hd : s0 + 22 ≤ s1 ∨ s1 + 22 ≤ s0) : ∃ S', fn_Standbys_copyFrom (s0 + 15) (s1 + 15) S = some S' ∧ Off S S' (s0 + 15) (s0 + 18) ∧ g S' (s0 + 15) 2 = g S (s1 + 15) 2 ∧ ∀ k, k < 2 → ∀ f, f < 8 → g S' (s0 + 16 + k) f = g S (s1 + 16 + k) f := by
  unfold fn_Standbys_copyFrom
  simp only [ts_B0 h0, ts_B0 h1, ts_B1 h0, ts_B1 h1, nm_x]
  refine ⟨_, rfl, ?_, ?_, fun k hk f hf => ?_⟩
  · refine Off.tu ?_ (by omega) (by omega)
    refine Off.tcp (Off.wc ?_ ?_) ?_ ?_ <;> omega
  · rw [g_eq, wr_g]
    simp (disch := omega) only [gcp_ne]
  · rw [gu_c (by omega)]
    have hk' : k = 0 ∨ k = 1 := by omega
    rcases hk' with rfl | rfl
    · show g _ (s0 + 16) f = g S (s1 + 16) f
      simp (disch := omega) only [gcp_ne, gcp_eq]
    · show g _ (s0 + 17) f = g S (s1 + 17) f
      simp (disch := omega) only [gcp_ne, gcp_eq]
theorem C_forms (h0 : SQ s0) (h1 : SQ s1) (hd : s0 + 22 ≤ s1 ∨ s1 + 22 ≤ s0) : ∃ S', fn_Forms_copyFrom (s0 + 18) (s1 + 18) S = some S' ∧ Off S S' (s0 + 18) (s0 + 22) ∧ ∀ k, k < 3 → ∀ f, f < 8 → g S' (s0 + 19 + k) f = g S (s1 + 19 + k) f := by
  unfold fn_Forms_copyFrom
  simp only [ts_F0 h0, ts_F0 h1, ts_F1 h0, ts_F1 h1, ts_F2 h0, ts_F2 h1, nm_x]
  refine ⟨_, rfl, ?_, fun k hk f hf => ?_⟩
  · refine Off.tcp (Off.tcp (Off.wc ?_ ?_) ?_ ?_) ?_ ?_ <;> omega
  · have hk' : k = 0 ∨ k = 1 ∨ k = 2 := by omega
    rcases hk' with rfl | rfl | rfl
    · show g _ (s0 + 19) f = g S (s1 + 19) f
      simp (disch := omega) only [gcp_ne, gcp_eq]
    · show g _ (s0 + 20) f = g S (s1 + 20) f
      simp (disch := omega) only [gcp_ne, gcp_eq]
    · show g _ (s0 + 21) f = g S (s1 + 21) f
      simp (disch := omega) only [gcp_ne, gcp_eq]
theorem vC_eqv {S' : St} (hV : Val (vC S s1)) (hA : g S' (s0 + 1) 7 = g S (s1 + 1) 7) (hS : g S' (s0 + 9) 5 = g S (s1 + 9) 5) (hB : g S' (s0 + 15) 2 = g S (s1 + 15) 2) (h4 : g S' s0 4 = g S s1 4) (h5 : g S' s0 5 = g S s1 5) (h6 : g S' s0 6 = g S s1 6) (h7 : g S' s0 7 = g S s1 7)
    (cA : ∀ k, k < 7 → ∀ f, f < 40 → g S' (s0 + 2 + k) f = g S (s1 + 2 + k) f) (cS : ∀ k, k < 5 → ∀ f, f < 10 → g S' (s0 + 10 + k) f = g S (s1 + 10 + k) f) (cB : ∀ k, k < 2 → ∀ f, f < 8 → g S' (s0 + 16 + k) f = g S (s1 + 16 + k) f) (cF : ∀ k, k < 3 → ∀ f, f < 8 → g S' (s0 + 19 + k) f = g S (s1 + 19 + k) f) : vC S' s0 = vC S s1 := by
  have b := hV.z
  have bA : g S (s1 + 1) 7 ≤ 40 := b.1.2
  have bS : g S (s1 + 9) 5 ≤ 10 := b.2.1.2
  have bB : g S (s1 + 15) 2 ≤ 8 := b.2.2.1.2
  have bF : g S s1 4 ≤ 4 := b.2.2.2.1.2
  funext k i
  unfold vC
  by_cases k1 : k < 7
  · simp only [k1, if_true]
    rw [hA]
    by_cases c : (i : Int) < g S (s1 + 1) 7
    · rw [if_pos c, if_pos c, cA k k1 i (by omega)]
    · rw [if_neg c, if_neg c]
  · by_cases k2 : k < 12
    · simp only [k1, k2, if_true, if_false]
      rw [hS]
      by_cases c : (i : Int) < g S (s1 + 9) 5
      · have q := cS (k - 7) (by omega) i (by omega)
        rw [show s0 + 10 + (k - 7) = s0 + 3 + k by omega, show s1 + 10 + (k - 7) = s1 + 3 + k by omega] at q
        rw [if_pos c, if_pos c, q]
      · rw [if_neg c, if_neg c]
    · by_cases k3 : k < 14
      · simp only [k1, k2, k3, if_true, if_false]
        rw [hB]
        by_cases c : (i : Int) < g S (s1 + 15) 2
        · have q := cB (k - 12) (by omega) i (by omega)
          rw [show s0 + 16 + (k - 12) = s0 + 4 + k by omega, show s1 + 16 + (k - 12) = s1 + 4 + k by omega] at q
          rw [if_pos c, if_pos c, q]
        · rw [if_neg c, if_neg c]
      · by_cases k4 : k < 16
        · simp only [k1, k2, k3, k4, if_true, if_false]
          rw [h4]
          by_cases c : (i : Int) < 2 * g S s1 4
          · have q := cF (k - 14) (by omega) i (by omega)
            rw [show s0 + 19 + (k - 14) = s0 + 5 + k by omega, show s1 + 19 + (k - 14) = s1 + 5 + k by omega] at q
            rw [if_pos c, if_pos c, q]
          · rw [if_neg c, if_neg c]
        · by_cases k5 : k = 16
          · subst k5
            simp only [k1, k2, k3, k4, if_true, if_false]
            rw [h4]
            by_cases c : (i : Int) < 2 * g S s1 4
            · have q := cF 2 (by omega) i (by omega)
              rw [if_pos c, if_pos c]
              exact congrArg cl6 q
            · rw [if_neg c, if_neg c]
          · simp only [k1, k2, k3, k4, k5, if_false]
            rw [hA, hS, hB, h4, h5, h6, h7]
theorem C_state (h0 : SQ s0) (h1 : SQ s1) (hd : s0 + 22 ≤ s1 ∨ s1 + 22 ≤ s0) (hV : Val (vC S s1)) : ∃ S', fn_State_copyFrom s0 s1 S = some S' ∧ Off S S' s0 (s0 + 22) ∧ vC S' s0 = vC S s1 := by
  obtain ⟨S1, e1, o1, n1, c1⟩ := C_ads (S := S) h0 h1 hd
  obtain ⟨S2, e2, o2, n2, c2⟩ := C_stories (S := S1) h0 h1 hd
  obtain ⟨S3, e3, o3, n3, c3⟩ := C_standbys (S := S2) h0 h1 hd
  obtain ⟨S4, e4, o4, c4⟩ := C_forms (S := S3) h0 h1 hd
  obtain ⟨S5, e5⟩ : ∃ S5, S5 = u S4 s0 4 (g S4 s1 4) := ⟨_, rfl⟩
  obtain ⟨S6, e6⟩ : ∃ S6, S6 = u S5 s0 5 (g S5 s1 5) := ⟨_, rfl⟩
  obtain ⟨S7, e7⟩ : ∃ S7, S7 = u S6 s0 6 (g S6 s1 6) := ⟨_, rfl⟩
  obtain ⟨S8, e8⟩ : ∃ S8, S8 = u S7 s0 7 (g S7 s1 7) := ⟨_, rfl⟩
  have o5 : Off S4 S5 s0 (s0 + 1) := by rw [e5]; exact Off.wt (Nat.le_refl _) (by omega)
  have o6 : Off S5 S6 s0 (s0 + 1) := by rw [e6]; exact Off.wt (Nat.le_refl _) (by omega)
  have o7 : Off S6 S7 s0 (s0 + 1) := by rw [e7]; exact Off.wt (Nat.le_refl _) (by omega)
  have o8 : Off S7 S8 s0 (s0 + 1) := by rw [e8]; exact Off.wt (Nat.le_refl _) (by omega)
  have o48 : Off S4 S8 s0 (s0 + 1) := ((o5.trans o6).trans o7).trans o8
  have O4 : Off S S4 s0 (s0 + 22) := (((o1.mono (by omega) (by omega)).trans (o2.mono (by omega) (by omega))).trans (o3.mono (by omega) (by omega))).trans (o4.mono (by omega) (by omega))
  have gs : ∀ f, g S4 s1 f = g S s1 f := fun f => O4.rd (by omega)
  have gs5 : ∀ f, g S5 s1 f = g S s1 f := fun f => (o5.rd (by omega)).trans (gs f)
  have gs6 : ∀ f, g S6 s1 f = g S s1 f := fun f => (o6.rd (by omega)).trans (gs5 f)
  have gs7 : ∀ f, g S7 s1 f = g S s1 f := fun f => (o7.rd (by omega)).trans (gs6 f)
  refine ⟨S8, ?_, O4.trans (o48.mono (Nat.le_refl _) (by omega)), vC_eqv hV ?_ ?_ ?_ ?_ ?_ ?_ ?_ (fun k hk f hf => ?_) (fun k hk f hf => ?_) (fun k hk f hf => ?_) (fun k hk f hf => ?_)⟩
  · unfold fn_State_copyFrom
    rw [ts_A h0, ts_A h1, e1, bnO_s, ts_S h0, ts_S h1, e2, bnO_s, ts_B h0, ts_B h1, e3, bnO_s, ts_F h0, ts_F h1, e4, bnO_s, nm_x, ← e5, nm_x, ← e6, nm_x, ← e7, nm_x, ← e8]
  · rw [o48.rd (by omega), o4.rd (by omega), o3.rd (by omega), o2.rd (by omega)]; exact n1
  · rw [o48.rd (by omega), o4.rd (by omega), o3.rd (by omega), n2, o1.rd (by omega)]
  · rw [o48.rd (by omega), o4.rd (by omega), n3, o2.rd (by omega), o1.rd (by omega)]
  · rw [e8, g_ne (by omega), e7, g_ne (by omega), e6, g_ne (by omega), e5, g_eq, gs, wr_g]
  · rw [e8, g_ne (by omega), e7, g_ne (by omega), e6, g_eq, gs5, wr_g]
  · rw [e8, g_ne (by omega), e7, g_eq, gs6, wr_g]
  · rw [e8, g_eq, gs7, wr_g]
  · rw [o48.rd (by omega), o4.rd (by omega), o3.rd (by omega), o2.rd (by omega)]; exact c1 k hk f hf
  · rw [o48.rd (by omega), o4.rd (by omega), o3.rd (by omega), c2 k hk f hf, o1.rd (by omega)]
  · rw [o48.rd (by omega), o4.rd (by omega), c3 k hk f hf, o2.rd (by omega), o1.rd (by omega)]
  · rw [o48.rd (by omega), c4 k hk f hf, o3.rd (by omega), o2.rd (by omega), o1.rd (by omega)]
theorem PQ.sq {p : Nat} (h : PQ p) : SQ (p + 1) := by
  rcases h with rfl | rfl
  · exact .inl rfl
  · exact .inr (.inl rfl)
theorem P_become {p : Nat} (hq : PQ p) (h1 : SQ s1) (hd : p + 23 ≤ s1 ∨ s1 + 22 ≤ p + 1) (hV : Val (vC S s1)) (hW : Wf (vC S s1)) : ∃ S', fn_Plan_become p s1 S = some S' ∧ Off S S' p (p + 28) ∧ PT S' p (vC S s1) := by
  obtain ⟨S1, e1, o1, v1⟩ := C_state (S := S) hq.sq h1 (by omega) hV
  obtain ⟨S2, S3, e2, e3, o3, p3⟩ := P_anew (S := S1) (p := p) (W := vC S s1) ⟨hq, v1, hV⟩ hW
  refine ⟨S3, ?_, (o1.mono (by omega) (by omega)).trans o3, p3⟩
  unfold fn_Plan_become
  rw [tq_0 hq, e1, bnO_s, e2, bnO_s, e3, bnO_s]
end Copies

