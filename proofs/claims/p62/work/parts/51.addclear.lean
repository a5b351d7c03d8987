/-! AN AD MORE -/
def addV (W : Vw) (s y p r : Int) : Vw := fun k i => if k < 7 ∧ (i : Int) = nA W then (if k = 0 then s else if k = 1 then y else if k = 4 then p else if k = 5 then r else 0) else if k = 17 ∧ i = 0 then nA W + 1 else W k i
theorem cntV_0 {a0 b0 a1 a2 a3 a4 a5 a6 : Int} : ∀ {i : Nat}, i ≠ 0 → cntV a0 a1 a2 a3 a4 a5 a6 i = cntV b0 a1 a2 a3 a4 a5 a6 i
  | 0, h => absurd rfl h
  | 1, _ => rfl
  | 2, _ => rfl
  | 3, _ => rfl
  | 4, _ => rfl
  | 5, _ => rfl
  | 6, _ => rfl
  | _ + 7, _ => rfl
section AddAd
variable {S T : St} {W : Vw} {s y p r : Int}
theorem addV_n : nA (addV W s y p r) = nA W + 1 ∧ nS (addV W s y p r) = nS W ∧ nB (addV W s y p r) = nB W ∧ sg (addV W s y p r) = sg W ∧ pe (addV W s y p r) = pe W ∧ tm (addV W s y p r) = tm W := by
  have e : ∀ j, addV W s y p r 17 (j + 1) = W 17 (j + 1) := by
    intro j
    unfold addV
    rw [if_neg (fun z => by omega), if_neg (fun z => by omega)]
  refine ⟨?_, e 0, e 1, e 2, e 3, e 4⟩
  show addV W s y p r 17 0 = _
  unfold addV
  rw [if_neg (fun z => by omega), if_pos ⟨rfl, rfl⟩]
theorem addV_o {k : Nat} {a : Int} (ha : 0 ≤ a) (h : k < 7 → a < nA W) (h17 : k < 17) : at_ (addV W s y p r) k a = at_ W k a := by
  unfold at_ addV
  rw [if_neg (fun z => by have := h z.1; omega), if_neg (fun z => by omega)]
theorem addV_new {k : Nat} (hn : 0 ≤ nA W) (hk : k < 7) : at_ (addV W s y p r) k (nA W) = (if k = 0 then s else if k = 1 then y else if k = 4 then p else if k = 5 then r else 0) := by
  unfold at_ addV
  rw [if_pos ⟨hk, by omega⟩]
theorem Good_add (hG : Good W) (hn : nA W < 40) (hs : s = 1 ∨ s = 2 ∨ s = 4) (hy : 0 ≤ y ∧ y ≤ 9) (hp : 1 ≤ p ∧ p ≤ 999) (hr : 0 ≤ r ∧ r ≤ 9999) : Good (addV W s y p r) := by
  obtain ⟨hV, hW, hF, hD⟩ := hG
  have z := hV.z
  obtain ⟨n1, n2, n3, n4, n5, n6⟩ := addV_n (W := W) (s := s) (y := y) (p := p) (r := r)
  have ep : pgs (addV W s y p r) = pgs W := by unfold pgs; rw [n4, n5]
  have ef : frm (addV W s y p r) = frm W := by unfold frm; rw [n4]
  have o : ∀ (k : Nat) (a : Int), 0 ≤ a → (k < 7 → a < nA W) → k < 17 → at_ (addV W s y p r) k a = at_ W k a := fun k a h1 h2 h3 => addV_o h1 h2 h3
  have w0 : at_ (addV W s y p r) 0 (nA W) = s := addV_new z.1.1 (by decide)
  have w1 : at_ (addV W s y p r) 1 (nA W) = y := addV_new z.1.1 (by decide)
  have w2 : at_ (addV W s y p r) 2 (nA W) = 0 := addV_new z.1.1 (by decide)
  have w3 : at_ (addV W s y p r) 3 (nA W) = 0 := addV_new z.1.1 (by decide)
  have w4 : at_ (addV W s y p r) 4 (nA W) = p := addV_new z.1.1 (by decide)
  have w5 : at_ (addV W s y p r) 5 (nA W) = r := addV_new z.1.1 (by decide)
  have w6 : at_ (addV W s y p r) 6 (nA W) = 0 := addV_new z.1.1 (by decide)
  have hV' : Val (addV W s y p r) := by
    refine ⟨by rw [n1, n2, n3, n4, n5, n6]; have := hV.1; omega, fun a a1 a2 => ?_, fun t t1 t2 => ?_, fun b b1 b2 => ?_, fun f f1 f2 => ?_⟩
    · rw [n1] at a2
      rw [ep]
      by_cases c : a = nA W
      · rw [c, w0, w1, w2, w3, w4, w5, w6]
        refine ⟨hs, hy, .inl rfl, ⟨by decide, by decide⟩, hp, hr, by omega⟩
      · simp only [o _ a a1 (fun _ => by omega) (by decide : (0 : Nat) < 17), o 1 a a1 (fun _ => by omega) (by decide), o 2 a a1 (fun _ => by omega) (by decide), o 3 a a1 (fun _ => by omega) (by decide), o 4 a a1 (fun _ => by omega) (by decide), o 5 a a1 (fun _ => by omega) (by decide), o 6 a a1 (fun _ => by omega) (by decide)]
        exact hV.2.1 a a1 (by omega)
    · rw [n2] at t2
      rw [ep, o 7 t t1 (by omega) (by decide), o 8 t t1 (by omega) (by decide), o 9 t t1 (by omega) (by decide), o 10 t t1 (by omega) (by decide), o 11 t t1 (by omega) (by decide)]
      exact hV.2.2.1 t t1 t2
    · rw [n3] at b2
      rw [ep, o 12 b b1 (by omega) (by decide), o 13 b b1 (by omega) (by decide)]
      exact hV.2.2.2.1 b b1 b2
    · rw [n4] at f2
      rw [o 14 f f1 (by omega) (by decide), o 15 f f1 (by omega) (by decide), o 16 f f1 (by omega) (by decide)]
      exact hV.2.2.2.2 f f1 f2
  have hsum : ∀ q, 1 ≤ q → rawR (addV W s y p r) q (-1) (-1) = rawR W q (-1) (-1) := by
    intro q q1
    unfold rawR sumA sumB
    rw [n1, n3, show (nA W + 1).toNat = (nA W).toNat + 1 by omega, sumR_snoc, show (0 : Int) + ((nA W).toNat : Int) = nA W by omega]
    have e1 : sumR (fun a => -szA (addV W s y p r) q (-1) a) 0 (nA W).toNat = sumR (fun a => -szA W q (-1) a) 0 (nA W).toNat := by
      refine sumR_congr (fun j h1 h2 => ?_)
      unfold szA
      rw [o 6 j h1 (fun _ => by omega) (by decide), o 0 j h1 (fun _ => by omega) (by decide)]
    have e2 : sumR (fun b => -szB (addV W s y p r) q (-1) b) 0 (nB W).toNat = sumR (fun b => -szB W q (-1) b) 0 (nB W).toNat := by
      refine sumR_congr (fun j h1 h2 => ?_)
      unfold szB
      rw [o 13 j h1 (by omega) (by decide), o 12 j h1 (by omega) (by decide)]
    have e3 : szA (addV W s y p r) q (-1) (nA W) = 0 := by
      unfold szA
      rw [w6, if_neg (by omega)]
    rw [e1, e2, e3]
    omega
  have ec : ∀ t q, 0 ≤ t → cov (addV W s y p r) t q = cov W t q := by
    intro t q ht
    unfold cov
    rw [o 11 t ht (by omega) (by decide), o 7 t ht (by omega) (by decide)]
  refine ⟨hV', ⟨fun q q1 q2 => ?_, fun t t1 t2 q qc => ?_⟩, fun a a1 a2 a3 => ?_, fun f f1 f2 f3 => ?_⟩
  · rw [ep] at q2
    rw [hsum q q1]; exact hW.1 q q1 q2
  · rw [n2] at t2
    rw [ec t q t1] at qc
    have w := hW.2 t t1 t2 q qc
    have cc := of_decide_eq_true qc
    refine ⟨fun a a1 a2 => ?_, fun b b1 b2 => ?_, fun t' u1 u2 u3 => ?_⟩
    · rw [n1] at a2
      by_cases c : a = nA W
      · rw [c, w6]; omega
      · rw [o 6 a a1 (fun _ => by omega) (by decide)]; exact w.1 a a1 (by omega)
    · rw [n3] at b2
      rw [o 13 b b1 (by omega) (by decide)]; exact w.2.1 b b1 b2
    · rw [n2] at u2
      rw [ec t' q u1]; exact w.2.2 t' u1 u2 u3
  · rw [n1] at a2
    by_cases c : a = nA W
    · rw [c, w6] at a3; omega
    · have a2' : a < nA W := by omega
      rw [o 6 a a1 (fun _ => a2') (by decide)] at a3 ⊢
      rw [o 2 a a1 (fun _ => a2') (by decide), o 3 a a1 (fun _ => a2') (by decide)]
      have q := hF a a1 a2' a3
      have v := hV.2.1 a a1 a2'
      have fb := fOf_b hV (p := at_ W 6 a) (by omega) (by omega)
      refine ⟨fun e => ?_, q.2.1, rivl_no ?_⟩
      · have q1 := q.1 e
        unfold coP fOf at q1 ⊢
        unfold fOf at fb
        rw [n5, o 14 _ fb.1 (by omega) (by decide)]; exact q1
      · rintro ⟨g1, x, x1, x2, x3, x4, x5, x6⟩
        rw [n1] at x2
        rw [o 1 a a1 (fun _ => a2') (by decide)] at g1 x6
        by_cases d : x = nA W
        · rw [d, w6] at x4; omega
        · rw [o 6 x x1 (fun _ => by omega) (by decide)] at x4 x5
          rw [o 1 x x1 (fun _ => by omega) (by decide)] at x6
          have := rivl_iff.mpr (⟨g1, x, x1, by omega, x3, x4, x5, x6⟩ : at_ W 1 a ≠ 0 ∧ _)
          rw [q.2.2] at this; cases this
  · rw [ef] at f2
    rw [o 15 f f1 (by omega) (by decide)] at f3
    rw [o 16 f f1 (by omega) (by decide), n6]
    exact hD f f1 f2 f3
theorem K_add (h : vC S 6 = W) (hn : 0 ≤ nA W ∧ nA W < 40) (hs : inR s) (hy : inR y) (hp : inR p) (hr : inR r) : ∃ S', fn_Ads_add 7 s y p r S = some (nA W, S') ∧ Off S S' 7 15 ∧ vC S' 6 = addV W s y p r := by
  have e7 : g S 7 7 = nA W := by rw [← h]; rfl
  unfold fn_Ads_add
  rw [e7, if_pos hn.2, if_pos hn, tg_7_0, tg_7_1, tg_7_2, tg_7_3, tg_7_4, tg_7_5, tg_7_6]
  simp only [nm_x]
  obtain ⟨S1, h1⟩ : ∃ S1, S1 = u S 8 (nA W).toNat s := ⟨_, rfl⟩
  obtain ⟨S2, h2⟩ : ∃ S2, S2 = u S1 9 (nA W).toNat y := ⟨_, rfl⟩
  obtain ⟨S3, h3⟩ : ∃ S3, S3 = u S2 10 (nA W).toNat 0 := ⟨_, rfl⟩
  obtain ⟨S4, h4⟩ : ∃ S4, S4 = u S3 11 (nA W).toNat 0 := ⟨_, rfl⟩
  obtain ⟨S5, h5⟩ : ∃ S5, S5 = u S4 12 (nA W).toNat p := ⟨_, rfl⟩
  obtain ⟨S6, h6⟩ : ∃ S6, S6 = u S5 13 (nA W).toNat r := ⟨_, rfl⟩
  obtain ⟨S7, h7⟩ : ∃ S7, S7 = u S6 14 (nA W).toNat 0 := ⟨_, rfl⟩
  rw [← h1, ← h2, ← h3, ← h4, ← h5, ← h6, ← h7]
  have o7 : Off S S7 8 15 := by
    rw [h7, h6, h5, h4, h3, h2, h1]
    refine Off.tu (Off.tu (Off.tu (Off.tu (Off.tu (Off.tu (Off.wt ?_ ?_) ?_ ?_) ?_ ?_) ?_ ?_) ?_ ?_) ?_ ?_) ?_ ?_ <;> omega
  have g7 : g S7 7 7 = nA W := by rw [o7.rd (by omega)]; exact e7
  rw [g7]
  obtain ⟨S8, h8⟩ : ∃ S8, S8 = u S7 7 7 (nA W + 1) := ⟨_, rfl⟩
  rw [← h8]
  have o8 : Off S S8 7 15 := by rw [h8]; exact (o7.mono (by omega) (by omega)).tu (by omega) (by omega)
  refine ⟨S8, rfl, o8, ?_⟩
  have g8 : g S8 7 7 = nA W + 1 := by rw [h8, g_eq, wr_s (by omega) (by omega)]
  have other : ∀ (k i : Nat), k < 7 → (i : Int) < nA W → g S8 (8 + k) i = g S (8 + k) i := by
    intro k i hk hi
    rw [h8, g_ne (by omega), h7, g_ne (by omega), h6, g_ne (by omega), h5, g_ne (by omega), h4, g_ne (by omega), h3, g_ne (by omega), h2, g_ne (by omega), h1, g_ne (by omega)]
  have hc : ∀ c f, (c < 7 ∨ 15 ≤ c) → g S8 c f = g S c f := fun c f hc => o8.rd (by omega)
  funext k i
  unfold addV
  by_cases c : k < 7 ∧ (i : Int) = nA W
  · rw [if_pos c]
    have ei : i = (nA W).toNat := by omega
    unfold vC
    rw [if_pos c.1, show 6 + 1 = 7 from rfl, g8, if_pos (by omega), ei]
    have hk := c.1
    have k7 : k = 0 ∨ k = 1 ∨ k = 2 ∨ k = 3 ∨ k = 4 ∨ k = 5 ∨ k = 6 := by omega
    rcases k7 with rfl | rfl | rfl | rfl | rfl | rfl | rfl
    · show g S8 8 _ = s
      rw [h8, g_ne (by omega), h7, g_ne (by omega), h6, g_ne (by omega), h5, g_ne (by omega), h4, g_ne (by omega), h3, g_ne (by omega), h2, g_ne (by omega), h1, g_eq, wr_id hs]
    · show g S8 9 _ = y
      rw [h8, g_ne (by omega), h7, g_ne (by omega), h6, g_ne (by omega), h5, g_ne (by omega), h4, g_ne (by omega), h3, g_ne (by omega), h2, g_eq, wr_id hy]
    · show g S8 10 _ = 0
      rw [h8, g_ne (by omega), h7, g_ne (by omega), h6, g_ne (by omega), h5, g_ne (by omega), h4, g_ne (by omega), h3, g_eq, wr_0]
    · show g S8 11 _ = 0
      rw [h8, g_ne (by omega), h7, g_ne (by omega), h6, g_ne (by omega), h5, g_ne (by omega), h4, g_eq, wr_0]
    · show g S8 12 _ = p
      rw [h8, g_ne (by omega), h7, g_ne (by omega), h6, g_ne (by omega), h5, g_eq, wr_id hp]
    · show g S8 13 _ = r
      rw [h8, g_ne (by omega), h7, g_ne (by omega), h6, g_eq, wr_id hr]
    · show g S8 14 _ = 0
      rw [h8, g_ne (by omega), h7, g_eq, wr_0]
  · rw [if_neg c]
    by_cases d : k = 17 ∧ i = 0
    · rw [if_pos d, d.1, d.2]
      show g S8 7 7 = _
      exact g8
    · rw [if_neg d, ← h]
      unfold vC
      by_cases k1 : k < 7
      · simp only [k1, if_true]
        rw [show 6 + 1 = 7 from rfl, g8, e7]
        by_cases ci : (i : Int) < nA W
        · rw [if_pos (by omega), if_pos ci, show 6 + 2 + k = 8 + k by omega, other k i k1 ci]
        · rw [if_neg (by omega), if_neg ci]
      · by_cases k2 : k < 12
        · simp only [k1, k2, if_true, if_false]
          rw [hc _ _ (by omega), hc _ _ (by omega)]
        · by_cases k3 : k < 14
          · simp only [k1, k2, k3, if_true, if_false]
            rw [hc _ _ (by omega), hc _ _ (by omega)]
          · by_cases k4 : k < 16
            · simp only [k1, k2, k3, k4, if_true, if_false]
              rw [hc _ _ (by omega), hc _ _ (by omega)]
            · by_cases k5 : k = 16
              · subst k5
                simp only [k1, k2, k3, k4, if_true, if_false, eq_self]
                rw [hc _ _ (by omega), hc _ _ (by omega)]
              · by_cases k6 : 17 < k
                · simp only [k1, k2, k3, k4, k5, k6, if_true, if_false]
                · simp only [k1, k2, k3, k4, k5, k6, if_false]
                  have i0 : i ≠ 0 := fun z => d ⟨by omega, z⟩
                  rw [hc (6 + 9) 5 (by omega), hc (6 + 15) 2 (by omega), hc 6 4 (by omega), hc 6 5 (by omega), hc 6 6 (by omega), hc 6 7 (by omega)]
                  exact cntV_0 i0
end AddAd

