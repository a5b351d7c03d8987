/-! ITEMS: ads and stories by one number -/
theorem itR_add {σ : Type} {f : Int → σ → σ} : ∀ {m n : Nat} {i : Int} {s : σ}, itR f i (m + n) s = itR f (i + m) n (itR f i m s)
  | 0, n, i, s => by
    rw [Nat.zero_add, show i + ((0 : Nat) : Int) = i by omega]; rfl
  | m + 1, n, i, s => by
    rw [show m + 1 + n = (m + n) + 1 by omega]
    show itR f (i + 1) (m + n) (f i s) = itR f (i + ((m + 1 : Nat) : Int)) n (itR f (i + 1) m (f i s))
    rw [itR_add, show i + 1 + (m : Int) = i + ((m + 1 : Nat) : Int) by omega]
theorem itR_id {σ : Type} {f : Int → σ → σ} : ∀ {n : Nat} {i : Int} {s : σ}, (∀ j s, i ≤ j → j < i + n → f j s = s) → itR f i n s = s
  | 0, _, _, _ => rfl
  | n + 1, i, s, h => by
    show itR f (i + 1) n (f i s) = s
    rw [h i s (by omega) (by omega), itR_id (fun j s h1 h2 => h j s (by omega) (by omega))]
theorem itR_sh {σ : Type} {f : Int → σ → σ} {c : Int} : ∀ {n : Nat} {i : Int} {s : σ}, itR (fun j => f (c + j)) i n s = itR f (c + i) n s
  | 0, _, _ => rfl
  | n + 1, i, s => by
    show itR (fun j => f (c + j)) (i + 1) n (f (c + i) s) = itR f (c + i + 1) n (f (c + i) s)
    rw [itR_sh, show c + (i + 1) = c + i + 1 by omega]
def itm (W : Vw) (x : Int) : Bool := decide (0 ≤ x ∧ x < nA W) || decide (0 ≤ x - 100 ∧ x - 100 < nS W)
def opn (W : Vw) (x : Int) : Bool := if 100 ≤ x then stOp W (x - 100) else if at_ W 6 x ≤ 0 then false else !prP W (at_ W 6 x)
def rdy (W : Vw) (x : Int) : Int := if 100 ≤ x then at_ W 10 (x - 100) else at_ W 5 x
theorem it_items {σ : Type} {W : Vw} (hV : Val W) {f : Int → σ → σ} (hf : ∀ x s, itm W x = false → f x s = s) {s : σ} : itR f 0 110 s = itR (fun j => f (100 + j)) 0 (nS W).toNat (itR f 0 (nA W).toNat s) := by
  have b1 := hV.1.1
  have b2 := hV.1.2.1
  rw [itR_sh, show (110 : Nat) = (nA W).toNat + ((100 - (nA W).toNat) + ((nS W).toNat + (10 - (nS W).toNat))) by omega, itR_add, itR_add, itR_add]
  have z : ∀ x, 0 ≤ x → ¬ x < nA W → ¬ (100 ≤ x ∧ x < 100 + nS W) → itm W x = false := fun x h0 h1 h2 => by
    unfold itm
    rw [decide_eq_false (by omega), decide_eq_false (by omega)]; rfl
  rw [itR_id (n := 10 - (nS W).toNat) (fun j s h1 h2 => hf j s (z j (by omega) (by omega) (by omega)))]
  rw [itR_id (n := 100 - (nA W).toNat) (fun j s h1 h2 => hf j s (z j (by omega) (by omega) (by omega)))]
  rw [show (0 : Int) + ((nA W).toNat : Int) + ((100 - (nA W).toNat : Nat) : Int) = 100 + 0 by omega]
section Items
variable {S T : St} {W : Vw} {n : Int} {hs : Int → Vw}
theorem itm_cases (hV : Val W) {x : Int} (h : itm W x = true) : (x < 100 ∧ 0 ≤ x ∧ x < nA W) ∨ (100 ≤ x ∧ 0 ≤ x - 100 ∧ x - 100 < nS W) := by
  have b1 := hV.1.1
  unfold itm at h
  rw [Bool.or_eq_true, decide_eq_true_eq, decide_eq_true_eq] at h
  omega
theorem itm_ad (hV : Val W) {x : Int} (h : 0 ≤ x ∧ x < nA W) : itm W x = true := by unfold itm; rw [decide_eq_true h]; rfl
theorem itm_st (hV : Val W) {x : Int} (h : 0 ≤ x ∧ x < nS W) : itm W (100 + x) = true := by unfold itm; rw [decide_eq_true (p := 0 ≤ 100 + x - 100 ∧ 100 + x - 100 < nS W) (by omega), Bool.or_true]
theorem opn_ad {x : Int} (h : x < 100) : opn W x = if at_ W 6 x ≤ 0 then false else !prP W (at_ W 6 x) := by unfold opn; rw [if_neg (by omega : ¬ 100 ≤ x)]
theorem opn_st {x : Int} (h : 0 ≤ x) : opn W (100 + x) = stOp W x := by unfold opn; rw [if_pos (by omega : 100 ≤ 100 + x), show 100 + x - 100 = x by omega]
theorem rdy_ad {x : Int} (h : x < 100) : rdy W x = at_ W 5 x := by unfold rdy; rw [if_neg (by omega : ¬ 100 ≤ x)]
theorem rdy_st {x : Int} (h : 0 ≤ x) : rdy W (100 + x) = at_ W 10 x := by unfold rdy; rw [if_pos (by omega : 100 ≤ 100 + x), show 100 + x - 100 = x by omega]
theorem rdy_bd (hV : Val W) {x : Int} (h : itm W x = true) : 0 ≤ rdy W x ∧ rdy W x ≤ 9999 := by
  unfold rdy
  rcases itm_cases hV h with ⟨c, c1⟩ | ⟨c, c1⟩
  · have v := hV.2.1 x c1.1 c1.2
    rw [if_neg (by omega : ¬ 100 ≤ x)]; omega
  · have v := hV.2.2.1 (x - 100) c1.1 c1.2
    rw [if_pos c]; omega
def ltI (W : Vw) (x : Int) : Bool := itm W x && (decide (tm W < rdy W x) && opn W x)
theorem S_adIsOpen (h : PT S 5 W) {a : Int} (ha : 0 ≤ a ∧ a < nA W) : fn_Searches_adIsOpen 505 a S = some (opn W a) := by
  have b := h.pl.b
  have v := h.v.2.1 a ha.1 ha.2
  have x6 : g S 14 a.toNat = at_ W 6 a := h.pl.a6 ha
  unfold fn_Searches_adIsOpen
  rw [if_pos (by omega : 0 ≤ a ∧ a < 40), tg_505_1, tg_6_0, tg_7_6, x6, opn_ad (by omega), tg_505_0]
  by_cases c : at_ W 6 a = 0
  · rw [if_pos c, if_pos (by omega)]
  · rw [if_neg c, if_neg (by omega), P_isPrinted1 h.pl (by omega) (by omega), bnO_s]
    cases prP W (at_ W 6 a) <;> rfl
/-! lastReady -/
def rdB (W : Vw) (s : Int) : Int := if s = -1 then -1 else rdy W s
def lrF (W : Vw) (x s : Int) : Int := if itm W x = true then (if opn W x = true then (if rdy W x ≤ rdB W s then s else x) else s) else s
def lrN (W : Vw) : Int := itR (lrF W) 0 110 (-1)
theorem lr_class (h : PT S 5 W) : fn_FP_lastReady 0 S = some (lrN W) := by
  have b := h.pl.b
  have q1 : lo_Searches_readyLast_6 505 S FU (-1, -1, 0) = some (itR (lrF W) 0 (nA W - 0).toNat (-1), rdB W (itR (lrF W) 0 (nA W - 0).toNat (-1))) :=
    lp_it (body := fun go p0 => lb_Searches_readyLast_6 505 S go p0.1 p0.2.1 p0.2.2) (fun i s => (s, rdB W s, i)) (lrF W) (fun s => (s, rdB W s)) (fun i _ => 0 ≤ i) (nA W)
      (fun go i s _ h0 => by
        show lb_Searches_readyLast_6 505 S go s (rdB W s) i = _
        have e7 : g S 7 7 = nA W := h.pl.mA
        unfold lb_Searches_readyLast_6
        rw [tg_505_1, tg_6_0, e7, if_pos h0])
      (fun go i s h1 h2 => by
        refine ⟨?_, by omega⟩
        show lb_Searches_readyLast_6 505 S go s (rdB W s) i = go (lrF W i s, rdB W (lrF W i s), i + 1)
        have e7 : g S 7 7 = nA W := h.pl.mA
        have x5 : g S 13 i.toNat = at_ W 5 i := h.pl.a5 ⟨h1, h2⟩
        unfold lb_Searches_readyLast_6 lrF
        rw [tg_505_1, tg_6_0, e7, if_neg (by omega : ¬ nA W ≤ i), S_adIsOpen h ⟨h1, h2⟩, bnO_s, if_pos (itm_ad h.v ⟨h1, h2⟩)]
        cases c : opn W i
        · rw [if_neg Bool.false_ne_true, if_neg Bool.false_ne_true, nm_x, wr_s (z := i + 1) (by omega) (by omega)]
        · rw [if_pos rfl, if_pos (by omega : 0 ≤ i ∧ i < 40), if_pos rfl, tg_7_5, x5, rdy_ad (by omega)]
          by_cases d : at_ W 5 i ≤ rdB W s
          · rw [if_pos d, if_pos d, nm_x, wr_s (z := i + 1) (by omega) (by omega)]
          · rw [if_neg d, if_neg d, nm_x, wr_s (z := i + 1) (by omega) (by omega)]
            have e : rdB W i = at_ W 5 i := by unfold rdB; rw [if_neg (by omega : ¬ i = -1), rdy_ad (by omega)]
            rw [e]) (nA W - 0).toNat FU 0 (-1) (Int.le_refl _) rfl (FU_lt (by omega))
  obtain ⟨s0, es⟩ : ∃ s0, s0 = itR (lrF W) 0 (nA W - 0).toNat (-1) := ⟨_, rfl⟩
  rw [← es] at q1
  have q2 : lo_Searches_readyLast_67 505 S FU (s0, rdB W s0, 0) = some (itR (fun j => lrF W (100 + j)) 0 (nS W - 0).toNat s0) :=
    lp_it (body := fun go p0 => lb_Searches_readyLast_67 505 S go p0.1 p0.2.1 p0.2.2) (fun i s => (s, rdB W s, i)) (fun j => lrF W (100 + j)) id (fun i _ => 0 ≤ i) (nS W)
      (fun go i s _ h0 => by
        show lb_Searches_readyLast_67 505 S go s (rdB W s) i = _
        have e7 : g S 15 5 = nS W := h.pl.mS
        unfold lb_Searches_readyLast_67
        rw [tg_505_1, tg_6_1, e7, if_pos h0]; rfl)
      (fun go i s h1 h2 => by
        refine ⟨?_, by omega⟩
        show lb_Searches_readyLast_67 505 S go s (rdB W s) i = go (lrF W (100 + i) s, rdB W (lrF W (100 + i) s), i + 1)
        have e7 : g S 15 5 = nS W := h.pl.mS
        have x5 : g S 19 i.toNat = at_ W 10 i := h.pl.s3 ⟨h1, h2⟩
        unfold lb_Searches_readyLast_67 lrF
        rw [tg_505_1, tg_6_1, e7, if_neg (by omega : ¬ nS W ≤ i), tg_505_0, P_storyIsOpen h.pl ⟨h1, h2⟩, bnO_s, if_pos (itm_st h.v ⟨h1, h2⟩), opn_st h1]
        cases c : stOp W i
        · rw [if_neg Bool.false_ne_true, if_neg Bool.false_ne_true, nm_x, wr_s (z := i + 1) (by omega) (by omega)]
        · rw [if_pos rfl, if_pos (by omega : 0 ≤ i ∧ i < 10), if_pos rfl, tg_15_3, x5, rdy_st h1]
          by_cases d : at_ W 10 i ≤ rdB W s
          · rw [if_pos d, if_pos d, nm_x, wr_s (z := i + 1) (by omega) (by omega)]
          · rw [if_neg d, if_neg d, nm_x, nm_x, wr_s (z := i + 1) (by omega) (by omega), wr_s (z := 100 + i) (by omega) (by omega)]
            have e : rdB W (100 + i) = at_ W 10 i := by unfold rdB; rw [if_neg (by omega : ¬ 100 + i = -1), rdy_st h1]
            rw [e]) (nS W - 0).toNat FU 0 s0 (Int.le_refl _) rfl (FU_lt (by omega))
  unfold fn_FP_lastReady fn_Searches_readyLast
  rw [tg_0_2, q1, bnO_s]
  show bnO (bnO (lo_Searches_readyLast_67 505 S FU (s0, rdB W s0, 0)) fun p19 => some p19) _ = _
  rw [q2, bnO_s, bnO_s]
  unfold lrN
  rw [it_items h.v (f := lrF W) (fun x s hx => by unfold lrF; rw [if_neg (by rw [hx]; exact Bool.false_ne_true)]), es, Int.sub_zero, Int.sub_zero]
end Items

