/-! load: the reference's scan -/
section Token2
variable {B : Int → Int} {L p s n : Int} {S S' T T' : St} {q : Int → Bool}
def TxM (B : Int → Int) (L : Int) (T : St) : Prop := Txt B L ∧ g T 514 14 = L ∧ ∀ j : Int, 0 ≤ j → j < L → i_and (g T 523 j.toNat) 255 = B j
theorem M_byte (h : TxM B L T) (hp : 0 ≤ p) : fn_Mo_byteAt 514 p T = some (B p) := by
  have b := h.1.1
  unfold fn_Mo_byteAt
  rw [h.2.1]
  by_cases c : L ≤ p
  · rw [if_pos c, h.1.2.1 p c]
  · rw [if_neg c, if_pos (by omega), tg_514_13, h.2.2 p hp (by omega)]
/-- what the scan leaves -/
def RaM (T T' : St) : Prop := Off T T' 514 515 ∧ ∀ f, f ≠ 15 → f ≠ 18 → f ≠ 19 → g T' 514 f = g T 514 f
theorem RaM.refl : RaM T T := ⟨Off.refl, fun _ _ _ _ => rfl⟩
theorem RaM.trans {T'' : St} (h : RaM T T') (h' : RaM T' T'') : RaM T T'' := ⟨h.1.trans h'.1, fun f a b c => (h'.2 f a b c).trans (h.2 f a b c)⟩
theorem RaM.wt {f : Nat} {z : Int} (hf : f = 15 ∨ f = 18 ∨ f = 19) : RaM T (u T 514 f z) := ⟨Off.wt (by omega) (by omega), fun f' a b c => g_ne (by omega)⟩
theorem RaM.wl {z : Int} : RaM T (ul T 514 21 z) := ⟨Off.wtl (by omega) (by omega), fun _ _ _ _ => rfl⟩
theorem TxM.ra (h : TxM B L T) (r : RaM T T') : TxM B L T' := ⟨h.1, by rw [r.2 14 (by decide) (by decide) (by decide)]; exact h.2.1, fun j j1 j2 => by rw [r.1.rd (by omega)]; exact h.2.2 j j1 j2⟩
/-- the value of the digits from s on -/
def vlN (base off : Int) (B : Int → Int) (s : Int) : Nat → Int
  | 0 => 0
  | n + 1 => vlN base off B s n * base + B (s + n) - off
def pw32 : Nat → Int
  | 0 => 1
  | n + 1 => pw32 n * 32
def pw10 : Nat → Int
  | 0 => 1
  | n + 1 => pw10 n * 10
theorem vl32 : ∀ {n : Nat}, (∀ j, s ≤ j → j < s + n → ltr B j = true) → 0 ≤ vlN 32 96 B s n ∧ vlN 32 96 B s n + 1 ≤ pw32 n
  | 0, _ => by
    show 0 ≤ (0 : Int) ∧ (0 : Int) + 1 ≤ 1
    omega
  | n + 1, h => by
    have q := vl32 (n := n) (fun j j1 j2 => h j j1 (by omega))
    have d := of_decide_eq_true (h (s + n) (by omega) (by omega))
    show 0 ≤ vlN 32 96 B s n * 32 + B (s + n) - 96 ∧ vlN 32 96 B s n * 32 + B (s + n) - 96 + 1 ≤ pw32 n * 32
    omega
theorem vl10 : ∀ {n : Nat}, (∀ j, s ≤ j → j < s + n → dgt B j = true) → 0 ≤ vlN 10 48 B s n ∧ vlN 10 48 B s n + 1 ≤ pw10 n
  | 0, _ => by
    show 0 ≤ (0 : Int) ∧ (0 : Int) + 1 ≤ 1
    omega
  | n + 1, h => by
    have q := vl10 (n := n) (fun j j1 j2 => h j j1 (by omega))
    have d := of_decide_eq_true (h (s + n) (by omega) (by omega))
    show 0 ≤ vlN 10 48 B s n * 10 + B (s + n) - 48 ∧ vlN 10 48 B s n * 10 + B (s + n) - 48 + 1 ≤ pw10 n * 10
    omega
theorem pw32_8 : ∀ n : Nat, n < 9 → pw32 n ≤ 1099511627776 := by decide
theorem pw10_4 : ∀ n : Nat, n < 5 → pw10 n ≤ 10000 := by decide
theorem M_blanks : ∀ (m : Nat) (p : Int) (T : St) (k : Nat), TxM B L T → g T 514 15 = p → 0 ≤ p → p + m = L → m < k → ∃ T', lp (fun go T => lb_Mo_advance_0 514 go T) k T = some T' ∧ RaM T T' ∧ g T' 514 15 = skW (blk B) p m
  | 0, p, T, k + 1, h, hp, h0, h1, _ => by
    have e := h.1.2.1 p (by omega)
    refine ⟨T, ?_, RaM.refl, hp⟩
    rw [lp_succ]
    show lb_Mo_advance_0 514 _ T = _
    unfold lb_Mo_advance_0
    rw [hp, M_byte h h0, bnO_s, e, if_neg (by decide), bnO_s, if_neg (by decide)]
  | m + 1, p, T, k + 1, h, hp, h0, h1, h2 => by
    have b := h.1.1
    rw [lp_succ]
    have bd : lb_Mo_advance_0 514 (lp (fun go T => lb_Mo_advance_0 514 go T) k) T = if blk B p = true then lp (fun go T => lb_Mo_advance_0 514 go T) k (u T 514 15 (p + 1)) else some T := by
      unfold lb_Mo_advance_0 blk
      rw [hp, M_byte h h0, bnO_s, bnO_s, nm_x]
      by_cases c1 : B p = 32
      · rw [if_pos c1, if_pos (decide_eq_true (.inl c1))]
      · rw [if_neg c1]
        by_cases c2 : B p = 10
        · rw [if_pos c2, if_pos (decide_eq_true (.inr c2))]
        · rw [if_neg c2, if_neg (by rw [decide_eq_true_eq]; omega)]
    show ∃ T', lb_Mo_advance_0 514 (lp (fun go T => lb_Mo_advance_0 514 go T) k) T = _ ∧ _ ∧ g T' 514 15 = if blk B p = true then skW (blk B) (p + 1) m else p
    rw [bd]
    by_cases c : blk B p = true
    · rw [if_pos c, if_pos c]
      have r1 : RaM T (u T 514 15 (p + 1)) := RaM.wt (.inl rfl)
      obtain ⟨T', e, r, v⟩ := M_blanks m (p + 1) (u T 514 15 (p + 1)) k (h.ra r1) (by rw [g_eq, wr_s (by omega) (by omega)]) (by omega) (by omega) (by omega)
      exact ⟨T', e, r1.trans r, v⟩
    · rw [if_neg c, if_neg c]
      exact ⟨T, rfl, RaM.refl, hp⟩
theorem M_letter {x : Int} : fn_Mo_isLetter x S = some (decide (97 ≤ x ∧ x ≤ 122)) := by
  unfold fn_Mo_isLetter
  rw [Mo_inRange, bnO_s]
theorem M_digit {x : Int} : fn_Mo_isDigit x S = some (decide (48 ≤ x ∧ x ≤ 57)) := by
  unfold fn_Mo_isDigit
  rw [Mo_inRange, bnO_s]
theorem M_letters : ∀ (m : Nat) (p : Int) (T : St) (k : Nat), TxM B L T → g T 514 15 = p → g T 514 18 = 1 → g T 514 19 = s → 0 ≤ s → s ≤ p → p + m = L → m < k → (∀ j, s ≤ j → j < p → ltr B j = true) → (p - s ≤ 8 → gl T 514 21 = vlN 32 96 B s (p - s).toNat) →
    ∃ T', lp (fun go T => lb_Mo_advance_125 514 go T) k T = some T' ∧ RaM T T' ∧ g T' 514 15 = skW (ltr B) p m ∧ g T' 514 18 = 1 ∧ g T' 514 19 = s ∧ (skW (ltr B) p m - s ≤ 8 → gl T' 514 21 = vlN 32 96 B s (skW (ltr B) p m - s).toNat)
  | m, p, T, k + 1, h, hp, h8, h9, h0, hs, h1, h2, hl, hv => by
    have b := h.1.1
    rw [lp_succ]
    show ∃ T', lb_Mo_advance_125 514 (lp (fun go T => lb_Mo_advance_125 514 go T) k) T = _ ∧ _
    by_cases c : ltr B p = true
    · have d := of_decide_eq_true c
      have pl : p < L := by
        by_cases z : p < L
        · exact z
        · have := h.1.2.1 p (by omega)
          omega
      obtain ⟨m', rfl⟩ : ∃ m', m = m' + 1 := ⟨m - 1, by omega⟩
      have ek : skW (ltr B) p (m' + 1) = skW (ltr B) (p + 1) m' := by
        show (if ltr B p = true then skW (ltr B) (p + 1) m' else p) = _
        rw [if_pos c]
      rw [ek]
      have hl' : ∀ j, s ≤ j → j < p + 1 → ltr B j = true := fun j j1 j2 => by
        by_cases z : j = p
        · rw [z]; exact c
        · exact hl j j1 (by omega)
      have pl' : fn_Mo_isLetter (B p) T = some true := by rw [M_letter]; exact congrArg some c
      by_cases c8 : 8 ≤ p - s
      · have r1 : RaM T (u T 514 15 (p + 1)) := RaM.wt (.inl rfl)
        obtain ⟨T', e, r, v1, v2, v3, v4⟩ := M_letters m' (p + 1) (u T 514 15 (p + 1)) k (h.ra r1) (by rw [g_eq, wr_s (by omega) (by omega)]) (by rw [g_ne (by omega)]; exact h8) (by rw [g_ne (by omega)]; exact h9) h0 (by omega) (by omega) (by omega) hl' (fun z => by omega)
        refine ⟨T', ?_, r1.trans r, v1, v2, v3, v4⟩
        unfold lb_Mo_advance_125
        rw [if_pos h8, hp, M_byte h (by omega), bnO_s, pl', bnO_s, if_pos rfl, nm_x, h9, wr_s (z := p - s) (by omega) (by omega), if_pos c8, nm_x]
        exact e
      · have vb := vl32 (s := s) (B := B) (n := (p - s).toNat) (fun j j1 j2 => hl j j1 (by omega))
        have pb := pw32_8 (p - s).toNat (by omega)
        have ev := hv (by omega)
        obtain ⟨T1, hT1⟩ : ∃ T1, T1 = u (ul T 514 21 (vlN 32 96 B s (p - s).toNat * 32 + B p - 96)) 514 15 (p + 1) := ⟨_, rfl⟩
        have r1 : RaM T T1 := by rw [hT1]; exact RaM.wl.trans (RaM.wt (.inl rfl))
        have g1 : gl T1 514 21 = vlN 32 96 B s (p + 1 - s).toNat := by
          rw [hT1, gl_u, gl_w, if_pos ⟨rfl, rfl⟩, wl_id (by unfold inL; omega), show (p + 1 - s).toNat = (p - s).toNat + 1 by omega]
          show _ = vlN 32 96 B s (p - s).toNat * 32 + B (s + ((p - s).toNat : Int)) - 96
          rw [show s + ((p - s).toNat : Int) = p by omega]
        obtain ⟨T', e, r, v1, v2, v3, v4⟩ := M_letters m' (p + 1) T1 k (h.ra r1) (by rw [hT1, g_eq, wr_s (by omega) (by omega)]) (by rw [hT1, g_ne (by omega), g_ul]; exact h8) (by rw [hT1, g_ne (by omega), g_ul]; exact h9) h0 (by omega) (by omega) (by omega) hl' (fun _ => g1)
        refine ⟨T', ?_, r1.trans r, v1, v2, v3, v4⟩
        unfold lb_Mo_advance_125
        rw [if_pos h8, hp, M_byte h (by omega), bnO_s, pl', bnO_s, if_pos rfl, nm_x, h9, wr_s (z := p - s) (by omega) (by omega), if_neg c8, bnO_s, nm_x, nm_x, ev, g_ul, hp, ← hT1]
        exact e
    · have ek : skW (ltr B) p m = p := by
        cases m with
        | zero => rfl
        | succ m' =>
          show (if ltr B p = true then skW (ltr B) (p + 1) m' else p) = _
          rw [if_neg c]
      have pl' : fn_Mo_isLetter (B p) T = some false := by rw [M_letter]; exact congrArg some (Bool.eq_false_iff.mpr c)
      rw [ek]
      refine ⟨T, ?_, RaM.refl, hp, h8, h9, hv⟩
      unfold lb_Mo_advance_125
      rw [if_pos h8, hp, M_byte h (by omega), bnO_s, pl', bnO_s, if_neg Bool.false_ne_true]
theorem M_digits : ∀ (m : Nat) (p : Int) (T : St) (k : Nat), TxM B L T → g T 514 15 = p → g T 514 18 = 2 → g T 514 19 = s → 0 ≤ s → s ≤ p → p + m = L → m < k → (∀ j, s ≤ j → j < p → dgt B j = true) → (p - s ≤ 4 → gl T 514 21 = vlN 10 48 B s (p - s).toNat) →
    ∃ T', lp (fun go T => lb_Mo_advance_200 514 go T) k T = some T' ∧ RaM T T' ∧ g T' 514 15 = skW (dgt B) p m ∧ g T' 514 18 = 2 ∧ g T' 514 19 = s ∧ (skW (dgt B) p m - s ≤ 4 → gl T' 514 21 = vlN 10 48 B s (skW (dgt B) p m - s).toNat)
  | m, p, T, k + 1, h, hp, h8, h9, h0, hs, h1, h2, hl, hv => by
    have b := h.1.1
    rw [lp_succ]
    show ∃ T', lb_Mo_advance_200 514 (lp (fun go T => lb_Mo_advance_200 514 go T) k) T = _ ∧ _
    by_cases c : dgt B p = true
    · have d := of_decide_eq_true c
      have pl : p < L := by
        by_cases z : p < L
        · exact z
        · have := h.1.2.1 p (by omega)
          omega
      obtain ⟨m', rfl⟩ : ∃ m', m = m' + 1 := ⟨m - 1, by omega⟩
      have ek : skW (dgt B) p (m' + 1) = skW (dgt B) (p + 1) m' := by
        show (if dgt B p = true then skW (dgt B) (p + 1) m' else p) = _
        rw [if_pos c]
      rw [ek]
      have hl' : ∀ j, s ≤ j → j < p + 1 → dgt B j = true := fun j j1 j2 => by
        by_cases z : j = p
        · rw [z]; exact c
        · exact hl j j1 (by omega)
      have pl' : fn_Mo_isDigit (B p) T = some true := by rw [M_digit]; exact congrArg some c
      by_cases c8 : 4 ≤ p - s
      · have r1 : RaM T (u T 514 15 (p + 1)) := RaM.wt (.inl rfl)
        obtain ⟨T', e, r, v1, v2, v3, v4⟩ := M_digits m' (p + 1) (u T 514 15 (p + 1)) k (h.ra r1) (by rw [g_eq, wr_s (by omega) (by omega)]) (by rw [g_ne (by omega)]; exact h8) (by rw [g_ne (by omega)]; exact h9) h0 (by omega) (by omega) (by omega) hl' (fun z => by omega)
        refine ⟨T', ?_, r1.trans r, v1, v2, v3, v4⟩
        unfold lb_Mo_advance_200
        rw [if_pos h8, hp, M_byte h (by omega), bnO_s, pl', bnO_s, if_pos rfl, nm_x, h9, wr_s (z := p - s) (by omega) (by omega), if_pos c8, nm_x]
        exact e
      · have vb := vl10 (s := s) (B := B) (n := (p - s).toNat) (fun j j1 j2 => hl j j1 (by omega))
        have pb := pw10_4 (p - s).toNat (by omega)
        have ev := hv (by omega)
        obtain ⟨T1, hT1⟩ : ∃ T1, T1 = u (ul T 514 21 (vlN 10 48 B s (p - s).toNat * 10 + B p - 48)) 514 15 (p + 1) := ⟨_, rfl⟩
        have r1 : RaM T T1 := by rw [hT1]; exact RaM.wl.trans (RaM.wt (.inl rfl))
        have g1 : gl T1 514 21 = vlN 10 48 B s (p + 1 - s).toNat := by
          rw [hT1, gl_u, gl_w, if_pos ⟨rfl, rfl⟩, wl_id (by unfold inL; omega), show (p + 1 - s).toNat = (p - s).toNat + 1 by omega]
          show _ = vlN 10 48 B s (p - s).toNat * 10 + B (s + ((p - s).toNat : Int)) - 48
          rw [show s + ((p - s).toNat : Int) = p by omega]
        obtain ⟨T', e, r, v1, v2, v3, v4⟩ := M_digits m' (p + 1) T1 k (h.ra r1) (by rw [hT1, g_eq, wr_s (by omega) (by omega)]) (by rw [hT1, g_ne (by omega), g_ul]; exact h8) (by rw [hT1, g_ne (by omega), g_ul]; exact h9) h0 (by omega) (by omega) (by omega) hl' (fun _ => g1)
        refine ⟨T', ?_, r1.trans r, v1, v2, v3, v4⟩
        unfold lb_Mo_advance_200
        rw [if_pos h8, hp, M_byte h (by omega), bnO_s, pl', bnO_s, if_pos rfl, nm_x, h9, wr_s (z := p - s) (by omega) (by omega), if_neg c8, bnO_s, nm_x, nm_x, ev, g_ul, hp, ← hT1]
        exact e
    · have ek : skW (dgt B) p m = p := by
        cases m with
        | zero => rfl
        | succ m' =>
          show (if dgt B p = true then skW (dgt B) (p + 1) m' else p) = _
          rw [if_neg c]
      have pl' : fn_Mo_isDigit (B p) T = some false := by rw [M_digit]; exact congrArg some (Bool.eq_false_iff.mpr c)
      rw [ek]
      refine ⟨T, ?_, RaM.refl, hp, h8, h9, hv⟩
      unfold lb_Mo_advance_200
      rw [if_pos h8, hp, M_byte h (by omega), bnO_s, pl', bnO_s, if_neg Bool.false_ne_true]
theorem M_let0 (h : ¬ g T 514 18 = 1) : lo_Mo_advance_125 514 FU T = some T := by
  obtain ⟨m, hm⟩ : ∃ m, FU = m + 1 := ⟨FU - 1, by have := FU_lt (m := 1) (by omega); omega⟩
  show lp (fun go T => lb_Mo_advance_125 514 go T) FU T = some T
  rw [hm, lp_succ]
  show lb_Mo_advance_125 514 _ T = some T
  unfold lb_Mo_advance_125
  rw [if_neg h]
theorem M_dig0 (h : ¬ g T 514 18 = 2) : lo_Mo_advance_200 514 FU T = some T := by
  obtain ⟨m, hm⟩ : ∃ m, FU = m + 1 := ⟨FU - 1, by have := FU_lt (m := 1) (by omega); omega⟩
  show lp (fun go T => lb_Mo_advance_200 514 go T) FU T = some T
  rw [hm, lp_succ]
  show lb_Mo_advance_200 514 _ T = some T
  unfold lb_Mo_advance_200
  rw [if_neg h]
/-- the token that begins at s is the one in hand -/
def TkM (B : Int → Int) (L : Int) (T : St) (s : Int) : Prop := g T 514 19 = s ∧ g T 514 15 = tkE B L s ∧ g T 514 18 = tkK B L s ∧ (tkK B L s = 1 → gl T 514 21 = vlN 32 96 B s (tkE B L s - s).toNat) ∧ (tkK B L s = 2 → gl T 514 21 = vlN 10 48 B s (tkE B L s - s).toNat)
theorem M_kind (h : TxM B L T) (hp : g T 514 15 = s) (h9 : g T 514 19 = s) (hl : gl T 514 21 = 0) (h0 : 0 ≤ s ∧ s ≤ L) : ∃ T', jf_Mo_advance_104 514 (tk0 B s) 514 T = some T' ∧ RaM T T' ∧ TkM B L T' s := by
  have b := h.1.1
  have tb := tkE_b h.1 h0
  have kv := tk0_v (B := B) (s := s)
  obtain ⟨k, hk⟩ : ∃ k, k = tk0 B s := ⟨_, rfl⟩
  rw [← hk] at kv ⊢
  obtain ⟨T1, hT1⟩ : ∃ T1, T1 = u T 514 18 k := ⟨_, rfl⟩
  have r1 : RaM T T1 := by rw [hT1]; exact RaM.wt (.inr (.inl rfl))
  have t1 := h.ra r1
  have e8 : g T1 514 18 = k := by rw [hT1, g_eq, wr_s (by omega) (by omega)]
  have e5 : g T1 514 15 = s := by rw [hT1, g_ne (by omega)]; exact hp
  have e9 : g T1 514 19 = s := by rw [hT1, g_ne (by omega)]; exact h9
  have el : gl T1 514 21 = 0 := by rw [hT1, gl_u]; exact hl
  unfold jf_Mo_advance_104
  rw [nm_x, ← hT1, e8]
  by_cases c1 : k = 1
  · have eE : tkE B L s = skW (ltr B) s (L - s).toNat := by unfold tkE; rw [← hk, c1, if_neg (by decide), if_pos rfl]
    obtain ⟨T2, f2, r2, a1, a2, a3, a4⟩ := M_letters (s := s) (L - s).toNat s T1 FU t1 e5 (by rw [e8, c1]) e9 h0.1 (Int.le_refl _) (by omega) (FU_lt (by omega)) (fun j j1 j2 => by omega) (fun _ => by rw [el, Int.sub_self]; rfl)
    have f2' : lo_Mo_advance_125 514 FU T1 = some T2 := f2
    rw [← eE] at a1 a4
    have n2 : ¬ g T2 514 18 = 2 := by rw [a2]; decide
    rw [if_pos (by omega), f2', bnO_s, M_dig0 n2, bnO_s]
    unfold jf_Mo_advance_274
    rw [if_pos a2, nm_x, a1, a3, wr_s (by omega) (by omega)]
    by_cases c8 : 8 < tkE B L s - s
    · have eK : tkK B L s = 4 := by unfold tkK; rw [if_pos ⟨by omega, c8⟩]
      rw [if_pos c8, nm_x]
      refine ⟨_, rfl, (r1.trans r2).trans (RaM.wt (.inr (.inl rfl))), by rw [g_ne (by omega)]; exact a3, by rw [g_ne (by omega)]; exact a1, by rw [g_eq, eK]; exact wr_s (by decide) (by decide), fun z => by omega, fun z => by omega⟩
    · have eK : tkK B L s = 1 := by unfold tkK; rw [if_neg (fun w => c8 w.2), ← hk, c1, if_neg (fun w => absurd w.1 (by decide))]
      rw [if_neg c8, if_neg n2]
      exact ⟨T2, rfl, r1.trans r2, a3, a1, by rw [a2, eK], fun _ => a4 (by omega), fun z => by omega⟩
  · have n1 : ¬ g T1 514 18 = 1 := by rw [e8]; exact c1
    by_cases c2 : k = 2
    · have eE : tkE B L s = skW (dgt B) s (L - s).toNat := by unfold tkE; rw [← hk, c2, if_neg (by decide), if_neg (by decide), if_pos rfl]
      obtain ⟨T2, f2, r2, a1, a2, a3, a4⟩ := M_digits (s := s) (L - s).toNat s T1 FU t1 e5 (by rw [e8, c2]) e9 h0.1 (Int.le_refl _) (by omega) (FU_lt (by omega)) (fun j j1 j2 => by omega) (fun _ => by rw [el, Int.sub_self]; rfl)
      have f2' : lo_Mo_advance_200 514 FU T1 = some T2 := f2
      rw [← eE] at a1 a4
      have n2 : ¬ g T2 514 18 = 1 := by rw [a2]; decide
      rw [if_pos (by omega), M_let0 n1, bnO_s, f2', bnO_s]
      unfold jf_Mo_advance_274
      rw [if_neg n2, if_pos a2, nm_x, a1, a3, wr_s (by omega) (by omega)]
      by_cases c4 : tkE B L s - s ≤ 4
      · have eK : tkK B L s = 2 := by unfold tkK; rw [if_neg (fun w => by have := w.1; omega), if_neg (fun w => by have := w.2; omega), ← hk, c2]
        rw [if_pos c4]
        exact ⟨T2, rfl, r1.trans r2, a3, a1, by rw [a2, eK], fun z => by omega, fun _ => a4 (by omega)⟩
      · have eK : tkK B L s = 4 := by unfold tkK; rw [if_neg (fun w => by have := w.1; omega), if_pos ⟨by omega, by omega⟩]
        rw [if_neg c4, nm_x]
        refine ⟨_, rfl, (r1.trans r2).trans (RaM.wt (.inr (.inl rfl))), by rw [g_ne (by omega)]; exact a3, by rw [g_ne (by omega)]; exact a1, by rw [g_eq, eK]; exact wr_s (by decide) (by decide), fun z => by omega, fun z => by omega⟩
    · have n2 : ¬ g T1 514 18 = 2 := by rw [e8]; exact c2
      have eK : tkK B L s = k := by unfold tkK; rw [← hk, if_neg (fun w => c1 w.1), if_neg (fun w => c2 w.1)]
      by_cases c0 : k ≤ 2
      · have k0 : k = 0 := by omega
        have eE : tkE B L s = s := by unfold tkE; rw [← hk, if_pos k0]
        rw [if_pos c0, M_let0 n1, bnO_s, M_dig0 n2, bnO_s]
        unfold jf_Mo_advance_274
        rw [if_neg n1, if_neg n2]
        exact ⟨T1, rfl, r1, e9, by rw [e5, eE], by rw [e8, eK], fun z => by omega, fun z => by omega⟩
      · have eE : tkE B L s = s + 1 := by unfold tkE; rw [← hk, if_neg (by omega), if_neg c1, if_neg c2]
        obtain ⟨T2, hT2⟩ : ∃ T2, T2 = u T1 514 15 (s + 1) := ⟨_, rfl⟩
        have r2 : RaM T1 T2 := by rw [hT2]; exact RaM.wt (.inl rfl)
        have e82 : g T2 514 18 = k := by rw [hT2, g_ne (by omega)]; exact e8
        rw [if_neg c0, nm_x, e5, ← hT2, M_let0 (by rw [e82]; exact c1), bnO_s, M_dig0 (by rw [e82]; exact c2), bnO_s]
        unfold jf_Mo_advance_274
        rw [if_neg (by rw [e82]; exact c1), if_neg (by rw [e82]; exact c2)]
        exact ⟨T2, rfl, r1.trans r2, by rw [hT2, g_ne (by omega)]; exact e9, by rw [hT2, g_eq, eE, wr_s (by omega) (by omega)], by rw [e82, eK], fun z => by omega, fun z => by omega⟩
theorem M_next (h : TxM B L T) (hp : g T 514 15 = p) (h0 : 0 ≤ p ∧ p ≤ L) : ∃ T', fn_Mo_advance 514 T = some T' ∧ RaM T T' ∧ TkM B L T' (tkS B L p) := by
  have b := h.1.1
  obtain ⟨T1, e1, r1, v1⟩ := M_blanks (L - p).toNat p T FU h hp h0.1 (by omega) (FU_lt (by omega))
  have e1' : lo_Mo_advance_0 514 FU T = some T1 := e1
  have sb := tkS_b (B := B) h0
  have v1' : g T1 514 15 = tkS B L p := v1
  obtain ⟨s, hs⟩ : ∃ s, s = tkS B L p := ⟨_, rfl⟩
  rw [← hs] at v1' sb ⊢
  obtain ⟨T2, hT2⟩ : ∃ T2, T2 = ul (u T1 514 19 s) 514 21 0 := ⟨_, rfl⟩
  have r2 : RaM T1 T2 := by rw [hT2]; exact (RaM.wt (.inr (.inr rfl))).trans RaM.wl
  have t2 := (h.ra r1).ra r2
  have e5 : g T2 514 15 = s := by rw [hT2, g_ul, g_ne (by omega)]; exact v1'
  have e9 : g T2 514 19 = s := by rw [hT2, g_ul, g_eq, wr_s (by omega) (by omega)]
  have el : gl T2 514 21 = 0 := by rw [hT2, gl_w, if_pos ⟨rfl, rfl⟩]; exact wl_id (by unfold inL; omega)
  obtain ⟨T3, e3, r3, k3⟩ := M_kind t2 e5 e9 el (by omega)
  refine ⟨T3, ?_, (r1.trans r2).trans r3, k3⟩
  unfold fn_Mo_advance
  rw [e1', bnO_s, nm_x, nm_x, v1', ← hT2, e9, M_byte t2 (by omega), bnO_s]
  unfold tk0 at e3
  by_cases c0 : B s = -1
  · rw [if_pos c0] at e3 ⊢
    exact e3
  · rw [if_neg c0] at e3 ⊢
    rw [M_letter, bnO_s]
    by_cases c1 : ltr B s = true
    · rw [if_pos c1] at e3
      have c1' : decide (97 ≤ B s ∧ B s ≤ 122) = true := c1
      rw [c1', if_pos rfl]
      exact e3
    · rw [if_neg c1] at e3
      have c1' : decide (97 ≤ B s ∧ B s ≤ 122) = false := Bool.eq_false_iff.mpr c1
      rw [c1', if_neg Bool.false_ne_true, M_digit, bnO_s]
      by_cases c2 : dgt B s = true
      · rw [if_pos c2] at e3
        have c2' : decide (48 ≤ B s ∧ B s ≤ 57) = true := c2
        rw [c2', if_pos rfl]
        exact e3
      · rw [if_neg c2] at e3
        have c2' : decide (48 ≤ B s ∧ B s ≤ 57) = false := Bool.eq_false_iff.mpr c2
        rw [c2', if_neg Bool.false_ne_true]
        by_cases c3 : B s = 59
        · rw [if_pos c3] at e3 ⊢
          exact e3
        · rw [if_neg c3] at e3 ⊢
          exact e3
end Token2
