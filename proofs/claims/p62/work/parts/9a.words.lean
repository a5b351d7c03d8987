/-! load: words -/
section Words
variable {B C : Int → Int} {L p s t n : Int} {S S' T T' : St}
theorem vl_inj : ∀ {n m : Nat}, (∀ j, s ≤ j → j < s + n → ltr B j = true) → (∀ j, t ≤ j → j < t + m → ltr C j = true) → (vlN 32 96 B s n = vlN 32 96 C t m ↔ n = m ∧ ∀ i : Nat, i < n → B (s + i) = C (t + i))
  | 0, 0, _, _ => ⟨fun _ => ⟨rfl, fun i hi => by omega⟩, fun _ => rfl⟩
  | 0, m + 1, _, h2 => by
    have q := vl32 (n := m) (s := t) (B := C) (fun j j1 j2 => h2 j j1 (by omega))
    have d := of_decide_eq_true (h2 (t + m) (by omega) (by omega))
    refine ⟨fun e => ?_, fun e => by omega⟩
    have e' : (0 : Int) = vlN 32 96 C t m * 32 + C (t + m) - 96 := e
    omega
  | n + 1, 0, h1, _ => by
    have q := vl32 (n := n) (s := s) (B := B) (fun j j1 j2 => h1 j j1 (by omega))
    have d := of_decide_eq_true (h1 (s + n) (by omega) (by omega))
    refine ⟨fun e => ?_, fun e => by omega⟩
    have e' : vlN 32 96 B s n * 32 + B (s + n) - 96 = (0 : Int) := e
    omega
  | n + 1, m + 1, h1, h2 => by
    have q1 := vl32 (n := n) (s := s) (B := B) (fun j j1 j2 => h1 j j1 (by omega))
    have d1 := of_decide_eq_true (h1 (s + n) (by omega) (by omega))
    have q2 := vl32 (n := m) (s := t) (B := C) (fun j j1 j2 => h2 j j1 (by omega))
    have d2 := of_decide_eq_true (h2 (t + m) (by omega) (by omega))
    have ih := vl_inj (n := n) (m := m) (fun j j1 j2 => h1 j j1 (by omega)) (fun j j1 j2 => h2 j j1 (by omega))
    have e1 : vlN 32 96 B s (n + 1) = vlN 32 96 B s n * 32 + B (s + n) - 96 := rfl
    have e2 : vlN 32 96 C t (m + 1) = vlN 32 96 C t m * 32 + C (t + m) - 96 := rfl
    refine ⟨fun e => ?_, fun e => ?_⟩
    · rw [e1, e2] at e
      have ev : vlN 32 96 B s n = vlN 32 96 C t m := by omega
      obtain ⟨nm_, all⟩ := ih.mp ev
      refine ⟨by omega, fun i hi => ?_⟩
      by_cases z : i = n
      · rw [z]
        have : B (s + n) = C (t + m) := by omega
        rw [this, nm_]
      · exact all i (by omega)
    · have nm_ : n = m := by omega
      have ev := ih.mpr ⟨nm_, fun i hi => e.2 i (by omega)⟩
      have el := e.2 n (by omega)
      rw [e1, e2, ev, el, nm_]
theorem tk1_l (h : Txt B L) (hs : 0 ≤ s ∧ s ≤ L) (hk : tkK B L s = 1) : tkE B L s - s ≤ 8 ∧ ∀ j, s ≤ j → j < tkE B L s → ltr B j = true := by
  have kv := tk0_v (B := B) (s := s)
  have k1 : tk0 B s = 1 := by
    unfold tkK at hk
    by_cases c : tk0 B s = 1 ∧ 8 < tkE B L s - s
    · exact c.1
    · rw [if_neg c] at hk
      by_cases c2 : tk0 B s = 2 ∧ 4 < tkE B L s - s
      · rw [if_pos c2] at hk; omega
      · rw [if_neg c2] at hk; exact hk
  refine ⟨?_, fun j j1 j2 => ?_⟩
  · unfold tkK at hk
    by_cases c : tk0 B s = 1 ∧ 8 < tkE B L s - s
    · rw [if_pos c] at hk; omega
    · have : ¬ 8 < tkE B L s - s := fun z => c ⟨k1, z⟩
      omega
  · have eE : tkE B L s = skW (ltr B) s (L - s).toNat := by unfold tkE; rw [k1, if_neg (by decide), if_pos rfl]
    rw [eE] at j2
    exact skW_in j1 j2
theorem tk2_l (h : Txt B L) (hs : 0 ≤ s ∧ s ≤ L) (hk : tkK B L s = 2) : tkE B L s - s ≤ 4 ∧ ∀ j, s ≤ j → j < tkE B L s → dgt B j = true := by
  have kv := tk0_v (B := B) (s := s)
  have k1 : tk0 B s = 2 := by
    unfold tkK at hk
    by_cases c : tk0 B s = 1 ∧ 8 < tkE B L s - s
    · rw [if_pos c] at hk; omega
    · rw [if_neg c] at hk
      by_cases c2 : tk0 B s = 2 ∧ 4 < tkE B L s - s
      · exact c2.1
      · rw [if_neg c2] at hk; exact hk
  refine ⟨?_, fun j j1 j2 => ?_⟩
  · unfold tkK at hk
    rw [if_neg (fun w => by have := w.1; omega)] at hk
    by_cases c : tk0 B s = 2 ∧ 4 < tkE B L s - s
    · rw [if_pos c] at hk; omega
    · have : ¬ 4 < tkE B L s - s := fun z => c ⟨k1, z⟩
      omega
  · have eE : tkE B L s = skW (dgt B) s (L - s).toNat := by unfold tkE; rw [k1, if_neg (by decide), if_neg (by decide), if_pos rfl]
    rw [eE] at j2
    exact skW_in j1 j2
def CuC (B : Int → Int) (L : Int) (S : St) (s : Int) : Prop := g S 61 5 = s ∧ g S 61 3 = tkE B L s ∧ g S 61 4 = tkK B L s
def wdI (w : Nat) : Int → Int := fun i => chW w i.toNat
theorem wd_l : ∀ w : Nat, w < 8 → ∀ i : Nat, i < lenS.getD w 0 → 97 ≤ chW w i ∧ chW w i ≤ 122 := by decide +kernel
theorem wd_ltr {w : Nat} (hw : w < 8) : ∀ j : Int, 0 ≤ j → j < 0 + ((lenS.getD w 0 : Nat) : Int) → ltr (wdI w) j = true := fun j j1 j2 => decide_eq_true (wd_l w hw j.toNat (by omega))
theorem C_word {w : Nat} (hw : w < 8) (h : TxC B L S) (hs : 0 ≤ s ∧ s ≤ L) (hc : CuC B L S s) : ∃ b, fn_Reader_isWord 61 w S = some b ∧ (b = true ↔ tkK B L s = 1 ∧ vlN 32 96 B s (tkE B L s - s).toNat = vlN 32 96 (wdI w) 0 (lenS.getD w 0)) := by
  have b := h.1.1
  have tb := tkE_b h.1 hs
  have wl_ := lenW_lt w (Nat.lt_of_lt_of_le hw (Nat.le_of_ble_eq_true rfl))
  have el : lenW w = ((lenS.getD w 0 : Nat) : Int) := rfl
  unfold fn_Reader_isWord
  rw [hc.2.2, hc.2.1, hc.1]
  by_cases c1 : tkK B L s = 1
  · have tl := tk1_l h.1 hs c1
    have inj := vl_inj (B := B) (C := wdI w) (s := s) (t := 0) (n := (tkE B L s - s).toNat) (m := lenS.getD w 0) (fun j j1 j2 => tl.2 j j1 (by omega)) (wd_ltr hw)
    rw [if_pos c1]
    show ∃ b, (bnO (some (lenW w)) fun p1 => nm (wr (tkE B L s - s)) fun v2 => if v2 = p1 then _ else _) = some b ∧ _
    rw [bnO_s, nm_x, wr_s (by omega) (by omega)]
    by_cases c2 : tkE B L s - s = lenW w
    · rw [if_pos c2]
      -- the loop over the letters
      have lpI : ∀ (m : Nat) (i : Int) (k : Nat), i + m = lenW w → 0 ≤ i → m < k → (∀ x : Nat, (x : Int) < i → B (s + x) = wdI w (0 + x)) → ∃ b, bnS (lp (fun go p0 => lb_Reader_isWord_28 61 w S go p0) k i) (fun p11 => some p11) (fun _ => some true) = some b ∧ (b = true ↔ ∀ x : Nat, x < lenS.getD w 0 → B (s + x) = wdI w (0 + x)) := by
        intro m
        induction m with
        | zero =>
          intro i k e0 i0 hk hall
          obtain ⟨k', rfl⟩ : ∃ k', k = k' + 1 := ⟨k - 1, by omega⟩
          refine ⟨true, ?_, fun _ x hx => hall x (by omega), fun _ => rfl⟩
          rw [lp_succ]
          show bnS (lb_Reader_isWord_28 61 w S _ i) _ _ = _
          unfold lb_Reader_isWord_28
          show bnS (bnO (some (lenW w)) fun p3 => _) _ _ = _
          rw [bnO_s, if_pos (by omega), bnS_r]
        | succ m ih =>
          intro i k e0 i0 hk hall
          obtain ⟨k', rfl⟩ : ∃ k', k = k' + 1 := ⟨k - 1, by omega⟩
          have ech : fn_String_charAt w i S = some (chW w i.toNat) := by
            unfold fn_String_charAt
            rw [if_pos (by omega)]
          have body : ∀ go, lb_Reader_isWord_28 61 w S go i = if B (s + i) = chW w i.toNat then go (i + 1) else some (.inl false) := fun go => by
            unfold lb_Reader_isWord_28
            show (bnO (some (lenW w)) fun p3 => _) = _
            rw [bnO_s, if_neg (by omega), nm_x, hc.1, wr_s (z := s + i) (by omega) (by omega), tg_61_0, By_at h ⟨by omega, by omega⟩, bnO_s, ech, bnO_s, nm_x, wr_s (z := i + 1) (by omega) (by omega)]
          have body' := body (lp (fun go p0 => lb_Reader_isWord_28 61 w S go p0) k')
          rw [lp_succ, body']
          by_cases c3 : B (s + i) = chW w i.toNat
          · rw [if_pos c3]
            refine ih (i + 1) k' (by omega) (by omega) (by omega) (fun x hx => ?_)
            by_cases z : (x : Int) = i
            · rw [z, Int.zero_add]; exact c3
            · exact hall x (by omega)
          · rw [if_neg c3, bnS_l]
            refine ⟨false, rfl, fun z => absurd z Bool.false_ne_true, fun z => absurd (z i.toNat (by omega)) ?_⟩
            rw [show ((i.toNat : Nat) : Int) = i by omega, Int.zero_add]
            exact c3
      obtain ⟨b', e, hb⟩ := lpI (lenS.getD w 0) 0 FU (by omega) (Int.le_refl _) (FU_lt (by omega)) (fun x hx => by omega)
      refine ⟨b', e, hb.trans ?_⟩
      rw [inj]
      refine ⟨fun z => ⟨c1, by omega, fun i hi => z i (by omega)⟩, fun z i hi => z.2.2 i (by omega)⟩
    · rw [if_neg c2]
      refine ⟨false, rfl, fun z => absurd z Bool.false_ne_true, fun z => ?_⟩
      have := (inj.mp z.2).1
      omega
  · rw [if_neg c1]
    exact ⟨false, rfl, fun z => absurd z Bool.false_ne_true, fun z => absurd z.1 c1⟩
def kw0 : Int := vlN 32 96 (wdI 0) 0 4
def kw1 : Int := vlN 32 96 (wdI 1) 0 5
def kw2 : Int := vlN 32 96 (wdI 2) 0 2
def kw3 : Int := vlN 32 96 (wdI 3) 0 5
def kw4 : Int := vlN 32 96 (wdI 4) 0 7
def kw5 : Int := vlN 32 96 (wdI 5) 0 5
def kw6 : Int := vlN 32 96 (wdI 6) 0 3
def kw7 : Int := vlN 32 96 (wdI 7) 0 3
def kw4' : Int := vlN 32 96 (wdI 4) 0 5
theorem pk4' : wl (kw4' * 1024 + 64 + 121 - 96) = kw4 := by decide +kernel
end Words

