/-! load: what a token is -/
section Token
variable {B : Int → Int} {L p s n : Int} {S S' T T' : St} {q : Int → Bool}
def skW (q : Int → Bool) : Int → Nat → Int
  | p, 0 => p
  | p, m + 1 => if q p = true then skW q (p + 1) m else p
theorem skW_b : ∀ {m : Nat} {p : Int}, p ≤ skW q p m ∧ skW q p m ≤ p + m
  | 0, p => by
    show p ≤ p ∧ p ≤ p + ((0 : Nat) : Int)
    omega
  | m + 1, p => by
    unfold skW
    split
    · have h := skW_b (m := m) (p := p + 1)
      omega
    · omega
theorem skW_in : ∀ {m : Nat} {p j : Int}, p ≤ j → j < skW q p m → q j = true
  | 0, p, j, h1, h2 => by
    have h2' : j < p := h2
    omega
  | m + 1, p, j, h1, h2 => by
    unfold skW at h2
    by_cases c : q p = true
    · rw [if_pos c] at h2
      by_cases z : j = p
      · rw [z]; exact c
      · exact skW_in (m := m) (p := p + 1) (by omega) h2
    · rw [if_neg c] at h2
      omega
theorem skW_out : ∀ {m : Nat} {p : Int}, skW q p m < p + m → q (skW q p m) = false
  | 0, p, h => by
    have h' : p < p + ((0 : Nat) : Int) := h
    omega
  | m + 1, p, h => by
    unfold skW at h ⊢
    by_cases c : q p = true
    · rw [if_pos c] at h ⊢
      exact skW_out (m := m) (p := p + 1) (by omega)
    · rw [if_neg c]
      exact Bool.eq_false_iff.mpr c
def blk (B : Int → Int) (j : Int) : Bool := decide (B j = 32 ∨ B j = 10)
def ltr (B : Int → Int) (j : Int) : Bool := decide (97 ≤ B j ∧ B j ≤ 122)
def dgt (B : Int → Int) (j : Int) : Bool := decide (48 ≤ B j ∧ B j ≤ 57)
def tkS (B : Int → Int) (L p : Int) : Int := skW (blk B) p (L - p).toNat
def tk0 (B : Int → Int) (s : Int) : Int := if B s = -1 then 0 else if ltr B s = true then 1 else if dgt B s = true then 2 else if B s = 59 then 3 else 4
def tkE (B : Int → Int) (L s : Int) : Int := if tk0 B s = 0 then s else if tk0 B s = 1 then skW (ltr B) s (L - s).toNat else if tk0 B s = 2 then skW (dgt B) s (L - s).toNat else s + 1
def tkK (B : Int → Int) (L s : Int) : Int := if tk0 B s = 1 ∧ 8 < tkE B L s - s then 4 else if tk0 B s = 2 ∧ 4 < tkE B L s - s then 4 else tk0 B s
def Txt (B : Int → Int) (L : Int) : Prop := (0 ≤ L ∧ L ≤ 1600) ∧ (∀ j, L ≤ j → B j = -1) ∧ ∀ j, 0 ≤ j → j < L → 0 ≤ B j ∧ B j ≤ 255
def TxC (B : Int → Int) (L : Int) (S : St) : Prop := Txt B L ∧ g S 1 1 = L ∧ ∀ j : Int, 0 ≤ j → j < L → g S 2 j.toNat = B j
theorem TxC.off {lo hi : Nat} (h : TxC B L S) (o : Off S S' lo hi) (hl : 3 ≤ lo) : TxC B L S' := ⟨h.1, by rw [o.rd (by omega)]; exact h.2.1, fun j j1 j2 => by rw [o.rd (by omega)]; exact h.2.2 j j1 j2⟩
theorem tkS_b (hp : 0 ≤ p ∧ p ≤ L) : p ≤ tkS B L p ∧ tkS B L p ≤ L := by
  have h := skW_b (q := blk B) (m := (L - p).toNat) (p := p)
  unfold tkS
  omega
theorem tk0_v : tk0 B s = 0 ∨ tk0 B s = 1 ∨ tk0 B s = 2 ∨ tk0 B s = 3 ∨ tk0 B s = 4 := by
  unfold tk0
  split
  · exact .inl rfl
  · split
    · exact .inr (.inl rfl)
    · split
      · exact .inr (.inr (.inl rfl))
      · split
        · exact .inr (.inr (.inr (.inl rfl)))
        · exact .inr (.inr (.inr (.inr rfl)))
theorem tk0_0 (h : Txt B L) (hs : 0 ≤ s ∧ s ≤ L) : tk0 B s = 0 ↔ s = L := by
  unfold tk0
  by_cases c : s = L
  · rw [if_pos (h.2.1 s (by omega))]
    exact ⟨fun _ => c, fun _ => rfl⟩
  · have b := h.2.2 s hs.1 (by omega)
    rw [if_neg (by omega)]
    refine ⟨fun z => ?_, fun z => absurd z c⟩
    revert z
    split
    · intro z; exact absurd z (by decide)
    · split
      · intro z; exact absurd z (by decide)
      · split
        · intro z; exact absurd z (by decide)
        · intro z; exact absurd z (by decide)
theorem tkE_b (h : Txt B L) (hs : 0 ≤ s ∧ s ≤ L) : s ≤ tkE B L s ∧ tkE B L s ≤ L ∧ (s < L → s < tkE B L s) := by
  have h1 := skW_b (q := ltr B) (m := (L - s).toNat) (p := s)
  have h2 := skW_b (q := dgt B) (m := (L - s).toNat) (p := s)
  have z := tk0_0 h hs
  unfold tkE
  by_cases c0 : tk0 B s = 0
  · have e := z.mp c0
    rw [if_pos c0]
    omega
  · have e : s < L := by
      have : s ≠ L := fun w => c0 (z.mpr w)
      omega
    rw [if_neg c0]
    obtain ⟨m, hm⟩ : ∃ m, (L - s).toNat = m + 1 := ⟨(L - s).toNat - 1, by omega⟩
    by_cases c1 : tk0 B s = 1
    · rw [if_pos c1]
      have l : ltr B s = true := by
        unfold tk0 at c1
        by_cases y : B s = -1
        · rw [if_pos y] at c1; exact absurd c1 (by decide)
        · rw [if_neg y] at c1
          by_cases y2 : ltr B s = true
          · exact y2
          · rw [if_neg y2] at c1
            exfalso
            revert c1
            split
            · intro w; exact absurd w (by decide)
            · split
              · intro w; exact absurd w (by decide)
              · intro w; exact absurd w (by decide)
      have e2 : skW (ltr B) s (L - s).toNat = skW (ltr B) (s + 1) m := by
        rw [hm]
        show (if ltr B s = true then skW (ltr B) (s + 1) m else s) = _
        rw [if_pos l]
      have h3 := skW_b (q := ltr B) (m := m) (p := s + 1)
      rw [e2]
      omega
    · rw [if_neg c1]
      by_cases c2 : tk0 B s = 2
      · rw [if_pos c2]
        have l : dgt B s = true := by
          unfold tk0 at c2
          by_cases y : B s = -1
          · rw [if_pos y] at c2; exact absurd c2 (by decide)
          · rw [if_neg y] at c2
            by_cases y2 : ltr B s = true
            · rw [if_pos y2] at c2; exact absurd c2 (by decide)
            · rw [if_neg y2] at c2
              by_cases y3 : dgt B s = true
              · exact y3
              · rw [if_neg y3] at c2
                exfalso
                revert c2
                split
                · intro w; exact absurd w (by decide)
                · intro w; exact absurd w (by decide)
        have e2 : skW (dgt B) s (L - s).toNat = skW (dgt B) (s + 1) m := by
          rw [hm]
          show (if dgt B s = true then skW (dgt B) (s + 1) m else s) = _
          rw [if_pos l]
        have h3 := skW_b (q := dgt B) (m := m) (p := s + 1)
        rw [e2]
        omega
      · rw [if_neg c2]
        omega
/-! the class's scan -/
theorem By_at (h : TxC B L S) (hp : 0 ≤ p ∧ p < L) : fn_Bytes_byteAt 1 p S = some (B p) := by
  have b := h.1.1
  have e := h.2.2 p hp.1 hp.2
  unfold fn_Bytes_byteAt
  rw [if_neg (by omega), tg_1_0, ln2, if_neg (by omega), if_pos (by omega), e]
def RdR (S S' : St) : Prop := Off S S' 61 62 ∧ ∀ f, f ≠ 3 → f ≠ 4 → f ≠ 5 → g S' 61 f = g S 61 f
theorem RdR.refl : RdR S S := ⟨Off.refl, fun _ _ _ _ => rfl⟩
theorem RdR.trans {S'' : St} (h : RdR S S') (h' : RdR S' S'') : RdR S S'' := ⟨h.1.trans h'.1, fun f a b c => (h'.2 f a b c).trans (h.2 f a b c)⟩
theorem RdR.wt {f : Nat} {z : Int} (hf : f = 3 ∨ f = 4 ∨ f = 5) : RdR S (u S 61 f z) := ⟨Off.wt (by omega) (by omega), fun f' a b c => g_ne (by omega)⟩
theorem R_skip {body : (St → Option St) → St → Option St} (hx : ∀ go T, TxC B L T → L ≤ g T 61 3 → body go T = some T) (hs : ∀ go T, TxC B L T → 0 ≤ g T 61 3 → g T 61 3 < L → body go T = if q (g T 61 3) = true then go (u T 61 3 (g T 61 3 + 1)) else some T) : ∀ (m : Nat) (p : Int) (S : St) (k : Nat), TxC B L S → g S 61 3 = p → 0 ≤ p → p + m = L → m < k → ∃ S', lp body k S = some S' ∧ RdR S S' ∧ g S' 61 3 = skW q p m ∧ ∀ f, f ≠ 3 → g S' 61 f = g S 61 f
  | 0, p, S, k + 1, h, hp, h0, h1, _ => by
    refine ⟨S, ?_, RdR.refl, hp, fun _ _ => rfl⟩
    rw [lp_succ]
    exact hx _ S h (by omega)
  | m + 1, p, S, k + 1, h, hp, h0, h1, h2 => by
    have b := h.1.1
    rw [lp_succ, hs _ S h (by omega) (by omega), hp]
    by_cases c : q p = true
    · rw [if_pos c]
      have o : RdR S (u S 61 3 (p + 1)) := RdR.wt (.inl rfl)
      obtain ⟨S', e, r, v, f⟩ := R_skip hx hs m (p + 1) (u S 61 3 (p + 1)) k (h.off o.1 (by omega)) (by rw [g_eq, wr_s (by omega) (by omega)]) (by omega) (by omega) (by omega)
      refine ⟨S', e, o.trans r, ?_, fun f' hf => by rw [f f' hf, g_ne (by omega)]⟩
      show g S' 61 3 = if q p = true then skW q (p + 1) m else p
      rw [if_pos c, v]
    · rw [if_neg c]
      refine ⟨S, rfl, RdR.refl, ?_, fun _ _ => rfl⟩
      show g S 61 3 = if q p = true then skW q (p + 1) m else p
      rw [if_neg c, hp]
theorem R_digit : fn_Reader_isDigit (B p) S = some (dgt B p) := by
  unfold fn_Reader_isDigit dgt
  by_cases c1 : B p < 48
  · rw [if_pos c1, decide_eq_false (by omega)]
  · rw [if_neg c1]
    by_cases c2 : 57 < B p
    · rw [if_pos c2, decide_eq_false (by omega)]
    · rw [if_neg c2, decide_eq_true (by omega)]
theorem R_letter : fn_Reader_isLetter (B p) S = some (ltr B p) := by
  unfold fn_Reader_isLetter ltr
  by_cases c1 : B p < 97
  · rw [if_pos c1, decide_eq_false (by omega)]
  · rw [if_neg c1]
    by_cases c2 : 122 < B p
    · rw [if_pos c2, decide_eq_false (by omega)]
    · rw [if_neg c2, decide_eq_true (by omega)]
theorem R_blanks (h : TxC B L S) (hp : g S 61 3 = p) (h0 : 0 ≤ p ∧ p ≤ L) : ∃ S', lo_Reader_nextToken_0 61 FU S = some S' ∧ RdR S S' ∧ g S' 61 3 = tkS B L p := by
  have b := h.1.1
  obtain ⟨S', e, r, v, -⟩ := R_skip (q := blk B) (body := fun go T => lb_Reader_nextToken_0 61 go T) (B := B) (L := L)
    (fun go T hT hl => by
      show lb_Reader_nextToken_0 61 go T = _
      unfold lb_Reader_nextToken_0
      rw [tg_61_0, hT.2.1, if_pos hl])
    (fun go T hT h1 h2 => by
      show lb_Reader_nextToken_0 61 go T = _
      unfold lb_Reader_nextToken_0 blk
      rw [tg_61_0, hT.2.1, if_neg (by omega), By_at hT ⟨h1, h2⟩, bnO_s, bnO_s, nm_x]
      by_cases c1 : B (g T 61 3) = 32
      · rw [if_pos c1, if_pos (decide_eq_true (.inl c1))]
      · rw [if_neg c1]
        by_cases c2 : B (g T 61 3) = 10
        · rw [if_pos c2, if_pos (decide_eq_true (.inr c2))]
        · rw [if_neg c2, if_neg (by rw [decide_eq_true_eq]; omega)]) (L - p).toNat p S FU h hp h0.1 (by omega) (FU_lt (by omega))
  exact ⟨S', e, r, v⟩
theorem R_next (h : TxC B L S) (hp : g S 61 3 = p) (h0 : 0 ≤ p ∧ p ≤ L) : ∃ S', fn_Reader_nextToken 61 S = some S' ∧ RdR S S' ∧ g S' 61 5 = tkS B L p ∧ g S' 61 3 = tkE B L (tkS B L p) ∧ g S' 61 4 = tkK B L (tkS B L p) := by
  have b := h.1.1
  obtain ⟨S1, e1, r1, v1⟩ := R_blanks h hp h0
  have sb := tkS_b (B := B) h0
  obtain ⟨s, hs⟩ : ∃ s, s = tkS B L p := ⟨_, rfl⟩
  rw [← hs] at v1 sb ⊢
  have s0 : 0 ≤ s ∧ s ≤ L := by omega
  have t1 := h.off r1.1 (by omega)
  unfold fn_Reader_nextToken
  rw [e1, bnO_s]
  unfold jf_Reader_nextToken_59
  rw [nm_x, v1]
  obtain ⟨S2, hS2⟩ : ∃ S2, S2 = u S1 61 5 s := ⟨_, rfl⟩
  have r2 : RdR S1 S2 := by rw [hS2]; exact RdR.wt (.inr (.inr rfl))
  have t2 := t1.off r2.1 (by omega)
  have f5 : g S2 61 5 = s := by rw [hS2, g_eq, wr_s (by omega) (by omega)]
  have f3 : g S2 61 3 = s := by rw [hS2, g_ne (by omega), v1]
  have z0 := tk0_0 h.1 s0
  have r12 := r1.trans r2
  rw [← hS2, f3, tg_61_0, t2.2.1]
  -- the last write of the kind
  have fin : ∀ (S3 : St) (k : Int), RdR S2 S3 → g S3 61 5 = s → g S3 61 3 = tkE B L s → tkK B L s = k → (0 ≤ k ∧ k ≤ 4) → ∃ S', some (u S3 61 4 k) = some S' ∧ RdR S S' ∧ g S' 61 5 = s ∧ g S' 61 3 = tkE B L s ∧ g S' 61 4 = tkK B L s := fun S3 k r g5 g3 gk kb =>
    ⟨_, rfl, (r12.trans r).trans (RdR.wt (.inr (.inl rfl))), by rw [g_ne (by omega)]; exact g5, by rw [g_ne (by omega)]; exact g3, by rw [g_eq, gk, wr_s (by omega) (by omega)]⟩
  by_cases c0 : s = L
  · have k0 : tk0 B s = 0 := z0.mpr c0
    have eE : tkE B L s = s := by unfold tkE; rw [if_pos k0]
    have eK : tkK B L s = 0 := by unfold tkK; rw [k0, if_neg (fun w => absurd w.1 (by decide)), if_neg (fun w => absurd w.1 (by decide))]
    rw [if_neg (by omega), nm_x]
    exact fin S2 0 RdR.refl f5 (by rw [eE]; exact f3) eK (by omega)
  · have sl : s < L := by omega
    have bs := h.1.2.2 s s0.1 sl
    have nb : ¬ B s = -1 := by omega
    rw [if_pos sl, By_at t2 ⟨s0.1, sl⟩, bnO_s, R_letter (B := B) (p := s), bnO_s]
    by_cases c1 : ltr B s = true
    · have k1 : tk0 B s = 1 := by unfold tk0; rw [if_neg nb, if_pos c1]
      have eE : tkE B L s = skW (ltr B) s (L - s).toNat := by unfold tkE; rw [k1, if_neg (by decide), if_pos rfl]
      have tb := tkE_b h.1 s0
      rw [if_pos c1]
      obtain ⟨S3, e3, r3, v3, w3⟩ := R_skip (q := ltr B) (body := fun go T => lb_Reader_nextToken_106 61 go T) (B := B) (L := L)
        (fun go T hT hl => by
          show lb_Reader_nextToken_106 61 go T = _
          unfold lb_Reader_nextToken_106
          rw [tg_61_0, hT.2.1, if_pos hl])
        (fun go T hT h1 h2 => by
          show lb_Reader_nextToken_106 61 go T = _
          unfold lb_Reader_nextToken_106
          rw [tg_61_0, hT.2.1, if_neg (by omega), By_at hT ⟨h1, h2⟩, bnO_s, R_letter (B := B) (p := g T 61 3), bnO_s, nm_x]) (L - s).toNat s S2 FU t2 f3 s0.1 (by omega) (FU_lt (by omega))
      have e3' : lo_Reader_nextToken_106 61 FU S2 = some S3 := e3
      have g5 : g S3 61 5 = s := by rw [w3 5 (by decide)]; exact f5
      rw [← eE] at v3
      rw [e3', bnO_s, nm_x, v3, g5, wr_s (by omega) (by omega)]
      by_cases c8 : 8 < tkE B L s - s
      · have eK : tkK B L s = 4 := by unfold tkK; rw [if_pos ⟨k1, c8⟩]
        rw [if_pos c8, nm_x]
        exact fin S3 4 r3 g5 v3 eK (by omega)
      · have eK : tkK B L s = 1 := by unfold tkK; rw [if_neg (fun w => c8 w.2), k1, if_neg (fun w => absurd w.1 (by decide))]
        rw [if_neg c8, nm_x]
        exact fin S3 1 r3 g5 v3 eK (by omega)
    · rw [if_neg c1, bnO_s, R_digit (B := B) (p := s), bnO_s]
      by_cases c2 : dgt B s = true
      · have k1 : tk0 B s = 2 := by unfold tk0; rw [if_neg nb, if_neg c1, if_pos c2]
        have eE : tkE B L s = skW (dgt B) s (L - s).toNat := by unfold tkE; rw [k1, if_neg (by decide), if_neg (by decide), if_pos rfl]
        have tb := tkE_b h.1 s0
        rw [if_pos c2]
        obtain ⟨S3, e3, r3, v3, w3⟩ := R_skip (q := dgt B) (body := fun go T => lb_Reader_nextToken_193 61 go T) (B := B) (L := L)
          (fun go T hT hl => by
            show lb_Reader_nextToken_193 61 go T = _
            unfold lb_Reader_nextToken_193
            rw [tg_61_0, hT.2.1, if_pos hl])
          (fun go T hT h1 h2 => by
            show lb_Reader_nextToken_193 61 go T = _
            unfold lb_Reader_nextToken_193
            rw [tg_61_0, hT.2.1, if_neg (by omega), By_at hT ⟨h1, h2⟩, bnO_s, R_digit (B := B) (p := g T 61 3), bnO_s, nm_x]) (L - s).toNat s S2 FU t2 f3 s0.1 (by omega) (FU_lt (by omega))
        have e3' : lo_Reader_nextToken_193 61 FU S2 = some S3 := e3
        have g5 : g S3 61 5 = s := by rw [w3 5 (by decide)]; exact f5
        rw [← eE] at v3
        rw [e3', bnO_s, nm_x, v3, g5, wr_s (by omega) (by omega)]
        by_cases c4 : 4 < tkE B L s - s
        · have eK : tkK B L s = 4 := by unfold tkK; rw [if_neg (fun w => by have := w.1; omega), if_pos ⟨k1, c4⟩]
          rw [if_pos c4, nm_x]
          exact fin S3 4 r3 g5 v3 eK (by omega)
        · have eK : tkK B L s = 2 := by unfold tkK; rw [if_neg (fun w => by have := w.1; omega), if_neg (fun w => c4 w.2), k1]
          rw [if_neg c4, nm_x]
          exact fin S3 2 r3 g5 v3 eK (by omega)
      · rw [if_neg c2, bnO_s]
        have two : ∀ k : Int, (k = 3 ∨ k = 4) → tk0 B s = k → ∃ S', (nm (u S2 61 4 k) fun S17 => nm (u S17 61 3 (g S17 61 3 + 1)) fun S18 => some S18) = some S' ∧ RdR S S' ∧ g S' 61 5 = s ∧ g S' 61 3 = tkE B L s ∧ g S' 61 4 = tkK B L s := fun k hk k0 => by
          have eE : tkE B L s = s + 1 := by unfold tkE; rw [k0, if_neg (by omega), if_neg (by omega), if_neg (by omega)]
          have eK : tkK B L s = k := by unfold tkK; rw [k0, if_neg (fun w => by have := w.1; omega), if_neg (fun w => by have := w.1; omega)]
          have g3 : g (u S2 61 4 k) 61 3 = s := by rw [g_ne (by omega)]; exact f3
          refine ⟨u (u S2 61 4 k) 61 3 (s + 1), by rw [nm_x, nm_x, g3], (r12.trans (RdR.wt (.inr (.inl rfl)))).trans (RdR.wt (.inl rfl)), ?_, ?_, ?_⟩
          · rw [g_ne (by omega), g_ne (by omega)]; exact f5
          · rw [g_eq, eE, wr_s (by omega) (by omega)]
          · rw [g_ne (by omega), g_eq, eK, wr_s (by omega) (by omega)]
        by_cases c3 : B s = 59
        · rw [if_pos c3]
          exact two 3 (.inl rfl) (by unfold tk0; rw [if_neg nb, if_neg c1, if_neg c2, if_pos c3])
        · rw [if_neg c3]
          exact two 4 (.inr rfl) (by unfold tk0; rw [if_neg nb, if_neg c1, if_neg c2, if_neg c3])
end Token

