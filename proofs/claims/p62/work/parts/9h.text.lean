/-! load: statements, and a plan's begin -/
section Text
variable {B : Int → Int} {L p s n v z c : Int} {S S' S0 T T' T0 : St} {V V' W : Vw} {a : Int}
theorem tkK_0 (h : Txt B L) (hs : 0 ≤ s ∧ s ≤ L) : tkK B L s = 0 ↔ s = L := by
  have k := tk0_0 h hs
  have kv := tk0_v (B := B) (s := s)
  rw [← k]
  unfold tkK
  by_cases c1 : tk0 B s = 1 ∧ 8 < tkE B L s - s
  · rw [if_pos c1]; omega
  · rw [if_neg c1]
    by_cases c2 : tk0 B s = 2 ∧ 4 < tkE B L s - s
    · rw [if_pos c2]; omega
    · rw [if_neg c2]
theorem NXT (h : St2 B L S0 T0 p S T) : ∃ S1, fn_Reader_nextToken 61 S = some S1 ∧ Cu2 B L S0 T0 (tkS B L p) S1 T ∧ Off S S1 61 63 := by
  obtain ⟨⟨h1, h2⟩, ⟨h3, h4⟩, h5, h6, h7, h8⟩ := h
  have sb := tkS_b (B := B) h5
  obtain ⟨S1, e1, r1, a5, a3, a4⟩ := R_next h1 h6 h5
  exact ⟨S1, e1, ⟨⟨h1.off r1.1 (by omega), h2.trans (r1.1.mono (by omega) (by omega))⟩, ⟨h3, h4⟩, by omega, ⟨a5, a3, a4⟩, h7, by rw [r1.2 6 (by decide) (by decide) (by decide)]; exact h8.1, by rw [r1.2 7 (by decide) (by decide) (by decide)]; exact h8.2⟩, r1.1.mono (by omega) (by omega)⟩
/-! the empty plan -/
def emV (s e : Int) : Vw := fun k i => if k = 16 then (if (i : Int) < 2 * s then -1 else 0) else if k = 17 then (if i = 3 then s else if i = 4 then e else 0) else 0
theorem emV_n {e : Int} : nA (emV s e) = 0 ∧ nS (emV s e) = 0 ∧ nB (emV s e) = 0 ∧ sg (emV s e) = s ∧ pe (emV s e) = e ∧ tm (emV s e) = 0 := ⟨rfl, rfl, rfl, rfl, rfl, rfl⟩
theorem emV_at {e : Int} {k : Nat} (h : k < 16) (x : Int) : at_ (emV s e) k x = 0 := by
  unfold at_ emV
  rw [if_neg (by omega), if_neg (by omega)]
theorem emV_16 {e x : Int} (h0 : 0 ≤ x) (h : x < 2 * s) : at_ (emV s e) 16 x = -1 := by
  unfold at_ emV
  rw [if_pos rfl, if_pos (by omega)]
theorem Good_em {e : Int} (hs : 1 ≤ s ∧ s ≤ 4) (he : e = 4 ∨ e = 8 ∨ e = 16) : Good (emV s e) := by
  obtain ⟨n1, n2, n3, n4, n5, n6⟩ := emV_n (s := s) (e := e)
  refine ⟨⟨by rw [n1, n2, n3, n4, n5, n6]; omega, fun a a1 a2 => by rw [n1] at a2; omega, fun a a1 a2 => by rw [n2] at a2; omega, fun a a1 a2 => by rw [n3] at a2; omega, fun f f1 f2 => ?_⟩, ⟨fun q q1 q2 => ?_, fun t t1 t2 => by rw [n2] at t2; omega⟩, fun a a1 a2 => by rw [n1] at a2; omega, fun f f1 f2 f3 => ?_⟩
  · rw [n4] at f2
    rw [emV_at (by decide), emV_at (by decide), emV_16 f1 f2]
    exact ⟨.inl rfl, .inl rfl, .inl rfl⟩
  · unfold rawR sumA sumB
    rw [n1, n3]
    show 0 ≤ (4 : Int) + 0 + 0
    decide
  · have e4 : frm (emV s e) = 2 * s := by unfold frm; rw [n4]
    rw [e4] at f2
    exact .inl (emV_16 f1 f2)
theorem cntV_em {e : Int} : ∀ i : Nat, cntV 0 0 0 s e 0 0 i = if i = 3 then s else if i = 4 then e else 0
  | 0 => rfl
  | 1 => rfl
  | 2 => rfl
  | 3 => rfl
  | 4 => rfl
  | 5 => rfl
  | 6 => rfl
  | n + 7 => by rw [if_neg (by omega), if_neg (by omega)]; rfl
theorem vC_em {q : Nat} {e : Int} (h1 : g S (q + 1) 7 = 0) (h2 : g S (q + 9) 5 = 0) (h3 : g S (q + 15) 2 = 0) (h4 : g S q 4 = s) (h5 : g S q 5 = e) (h6 : g S q 6 = 0) (h7 : g S q 7 = 0) (hs : s ≤ 4) (hf : ∀ k i : Nat, 14 ≤ k → k < 17 → i < 8 → g S (q + 5 + k) i = 0) : vC S q = emV s e := by
  funext k i
  unfold vC emV
  by_cases k1 : k < 7
  · rw [if_pos k1, h1, if_neg (by omega), if_neg (by omega), if_neg (by omega)]
  · rw [if_neg k1]
    by_cases k2 : k < 12
    · rw [if_pos k2, h2, if_neg (by omega), if_neg (by omega), if_neg (by omega)]
    · rw [if_neg k2]
      by_cases k3 : k < 14
      · rw [if_pos k3, h3, if_neg (by omega), if_neg (by omega), if_neg (by omega)]
      · rw [if_neg k3]
        by_cases k4 : k < 16
        · rw [if_pos k4, h4, if_neg (c := k = 16) (by omega), if_neg (c := k = 17) (by omega)]
          by_cases c : (i : Int) < 2 * s
          · rw [if_pos c, hf k i (by omega) (by omega) (by omega)]
          · rw [if_neg c]
        · rw [if_neg k4]
          by_cases k5 : k = 16
          · rw [if_pos k5, if_pos k5, h4]
            by_cases c : (i : Int) < 2 * s
            · rw [if_pos c, if_pos c, hf k i (by omega) (by omega) (by omega)]
              rfl
            · rw [if_neg c, if_neg c]
          · rw [if_neg k5, if_neg k5]
            by_cases k6 : 17 < k
            · rw [if_pos k6, if_neg (by omega)]
            · rw [if_neg k6, if_pos (by omega), h1, h2, h3, h4, h5, h6, h7]
              exact cntV_em i
theorem P_begin {q : Nat} (hq : PQ q) {e : Int} (hs : 1 ≤ s ∧ s ≤ 4) (he : e = 4 ∨ e = 8 ∨ e = 16) : ∃ S', fn_Plan_begin q s e S = some S' ∧ Off S S' q (q + 28) ∧ PT S' q (emV s e) := by
  have q1 : q ≤ 33 := by rcases hq with rfl | rfl <;> decide
  obtain ⟨S1, h1⟩ : ∃ S1, S1 = u S (q + 1) 4 s := ⟨_, rfl⟩
  obtain ⟨S2, h2⟩ : ∃ S2, S2 = u S1 (q + 1) 5 e := ⟨_, rfl⟩
  obtain ⟨S3, h3⟩ : ∃ S3, S3 = u S2 (q + 2) 7 0 := ⟨_, rfl⟩
  obtain ⟨S4, h4⟩ : ∃ S4, S4 = u S3 (q + 10) 5 0 := ⟨_, rfl⟩
  obtain ⟨S5, h5⟩ : ∃ S5, S5 = u S4 (q + 16) 2 0 := ⟨_, rfl⟩
  obtain ⟨S6, h6⟩ : ∃ S6, S6 = u S5 (q + 1) 6 0 := ⟨_, rfl⟩
  obtain ⟨S7, h7⟩ : ∃ S7, S7 = u S6 (q + 1) 7 0 := ⟨_, rfl⟩
  obtain ⟨S8, e8, o8, f8⟩ := A_fill (S := S7) (N := 8) (c := q + 20) (z := 0) (by decide)
  obtain ⟨S9, e9, o9, f9⟩ := A_fill (S := S8) (N := 8) (c := q + 21) (z := 0) (by decide)
  obtain ⟨S10, e10, o10, f10⟩ := A_fill (S := S9) (N := 8) (c := q + 22) (z := 0) (by decide)
  have o7 : Off S S7 (q + 1) (q + 17) := by
    rw [h7, h6, h5, h4, h3, h2, h1]
    refine Off.tu (Off.tu (Off.tu (Off.tu (Off.tu (Off.tu (Off.wt ?_ ?_) ?_ ?_) ?_ ?_) ?_ ?_) ?_ ?_) ?_ ?_) ?_ ?_ <;> omega
  have oF : Off S7 S10 (q + 20) (q + 23) := ((o8.mono (by omega) (by omega)).trans (o9.mono (by omega) (by omega))).trans (o10.mono (by omega) (by omega))
  have hv : vC S10 (q + 1) = emV s e := by
    refine vC_em ?_ ?_ ?_ ?_ ?_ ?_ ?_ hs.2 (fun k i k1 k2 ki => ?_)
    · rw [show q + 1 + 1 = q + 2 from rfl, oF.rd (by omega), h7, g_ne (by omega), h6, g_ne (by omega), h5, g_ne (by omega), h4, g_ne (by omega), h3, g_eq, wr_0]
    · rw [show q + 1 + 9 = q + 10 from rfl, oF.rd (by omega), h7, g_ne (by omega), h6, g_ne (by omega), h5, g_ne (by omega), h4, g_eq, wr_0]
    · rw [show q + 1 + 15 = q + 16 from rfl, oF.rd (by omega), h7, g_ne (by omega), h6, g_ne (by omega), h5, g_eq, wr_0]
    · rw [oF.rd (by omega), h7, g_ne (by omega), h6, g_ne (by omega), h5, g_ne (by omega), h4, g_ne (by omega), h3, g_ne (by omega), h2, g_ne (by omega), h1, g_eq, wr_s (by omega) (by omega)]
    · rw [oF.rd (by omega), h7, g_ne (by omega), h6, g_ne (by omega), h5, g_ne (by omega), h4, g_ne (by omega), h3, g_ne (by omega), h2, g_eq, wr_s (by omega) (by omega)]
    · rw [oF.rd (by omega), h7, g_ne (by omega), h6, g_eq, wr_0]
    · rw [oF.rd (by omega), h7, g_eq, wr_0]
    · have kc : k = 14 ∨ k = 15 ∨ k = 16 := by omega
      rcases kc with rfl | rfl | rfl
      · rw [show q + 1 + 5 + 14 = q + 20 from rfl, o10.rd (by omega), o9.rd (by omega), f8 i ki, wr_0]
      · rw [show q + 1 + 5 + 15 = q + 21 from rfl, o10.rd (by omega), f9 i ki, wr_0]
      · rw [show q + 1 + 5 + 16 = q + 22 from rfl, f10 i ki, wr_0]
  have hG := Good_em (s := s) (e := e) hs he
  obtain ⟨S11, S12, e11, e12, o12, p12⟩ := P_anew (S := S10) (p := q) (W := emV s e) ⟨hq, hv, hG.1⟩ hG.2.1
  refine ⟨S12, ?_, ((o7.mono (by omega) (by omega)).trans (oF.mono (by omega) (by omega))).trans o12, p12⟩
  unfold fn_Plan_begin
  rw [tq_0 hq, tq_A hq, tq_S hq, tq_B hq, tq_F hq, tq_F0 hq, tq_F1 hq, tq_F2 hq]
  simp only [nm_x]
  rw [← h1, ← h2, ← h3, ← h4, ← h5, ← h6, ← h7, e8, bnO_s, e9, bnO_s, e10, bnO_s, e11, bnO_s, e12, bnO_s]
end Text

