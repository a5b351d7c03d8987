section Reads2
variable {S T : St} {W : Vw} {n : Int} {hs : Int → Vw}
def getI : Int ⊕ Unit → Int
  | .inl x => x
  | .inr _ => -1
theorem runR_in {σ : Type} {f : Int → σ → σ} {stop : Int → σ → Option (Int ⊕ Unit)} {out : σ → Int ⊕ Unit} (lo hi : Int) (hs : ∀ i s x, lo ≤ i → i < hi → stop i s = some x → inR (getI x)) (ho : ∀ s, inR (getI (out s))) : ∀ (n : Nat) (i : Int) (s : σ), lo ≤ i → i + n ≤ hi → inR (getI (runR f stop out i n s))
  | 0, _, s, _, _ => ho s
  | n + 1, i, s, h1, h2 => by
    show inR (getI ((stop i s).getD _))
    cases e : stop i s with
    | some b => exact hs i s b h1 (by omega) e
    | none => exact runR_in lo hi hs ho n (i + 1) (f i s) (by omega) (by omega)
def kth (p : Int → Bool) (k lo : Int) (n : Nat) : Int ⊕ Unit := runR (fun i (c : Int) => if p i = true then c + 1 else c) (fun i c => if p i = true ∧ c = k then some (.inl i) else none) (fun _ => .inr ()) lo n 0
theorem kth_in {p : Int → Bool} {k lo : Int} {n : Nat} (h1 : -1000 ≤ lo) (h2 : lo + n ≤ 1000) : inR (getI (kth p k lo n)) := by
  refine runR_in (-1000) 1000 (fun i s x i1 i2 e => ?_) (fun _ => inRk rfl) n lo 0 h1 h2
  split at e
  · obtain rfl := Option.some.inj e
    show inR i
    exact ⟨by omega, by omega⟩
  · cases e
theorem lp_kthC {body : (Int × Int → Option (Int ⊕ Unit)) → Int × Int → Option (Int ⊕ Unit)} (p : Int → Bool) (k lo B : Int)
    (hx : ∀ go c i, B ≤ i → body go (c, i) = some (.inr ())) (hs : ∀ go c i, lo ≤ i → i < B → 0 ≤ c → c ≤ 1000 → body go (c, i) = if p i = true then (if c = k then some (.inl i) else go (c + 1, i + 1)) else go (c, i + 1)) {n : Nat} (hB : B - lo ≤ 900) (hn : (B - lo).toNat < n) : lp body n (0, lo) = some (kth p k lo (B - lo).toNat) := by
  exact lp_run (body := body) (fun i c => (c, i)) _ _ _ (fun i (c : Int) => lo ≤ i ∧ 0 ≤ c ∧ c ≤ i - lo) B (fun go i c _ h => hx go c i h) (fun go i c hI hi => by
    refine ⟨?_, fun e => ?_⟩
    · rw [hs go c i hI.1 hi hI.2.1 (by omega)]
      by_cases d : p i = true
      · rw [if_pos d]
        by_cases d2 : c = k
        · rw [if_pos d2]; simp only [d, d2, and_self, if_true]
        · rw [if_neg d2]; simp only [d, d2, and_false, if_false, if_true]
      · rw [if_neg d]; simp only [d, false_and, if_false]; rfl
    · split <;> omega) (B - lo).toNat n lo 0 ⟨Int.le_refl _, Int.le_refl _, by omega⟩ rfl hn
theorem lp_kthM {body : (Int × Int → Option (Int ⊕ Unit)) → Int × Int → Option (Int ⊕ Unit)} (p : Int → Bool) (k lo B : Int) (hk : inR k)
    (hx : ∀ go c i, B ≤ i → body go (c, i) = some (.inr ())) (hs : ∀ go c i, lo ≤ i → i < B → body go (c, i) = if p i = true then (if c = 0 then some (.inl i) else go (wr (c + -1), i + 1)) else go (c, i + 1)) {n : Nat} (hB : B - lo ≤ 900) (hn : (B - lo).toNat < n) : lp body n (k, lo) = some (kth p k lo (B - lo).toNat) := by
  have q := lp_run (body := body) (fun i (c : Int) => (wr (k - c), i)) (fun i (c : Int) => if p i = true then c + 1 else c) (fun i c => if p i = true ∧ c = k then some (.inl i) else none) (fun _ => .inr ()) (fun i (c : Int) => lo ≤ i ∧ 0 ≤ c ∧ c ≤ i - lo) B (fun go i c _ h => hx go _ i h) (fun go i c hI hi => by
    have ez : wr (k - c) = 0 ↔ c = k := by
      constructor
      · intro e
        have q : wr (wr (k - c) + c) = wr (k - c + c) := wr_add
        rw [e, Int.zero_add, Int.sub_add_cancel, wr_id hk, wr_s (by omega) (by omega)] at q
        exact q
      · intro e
        rw [e, Int.sub_self]
        exact wr_0
    refine ⟨?_, fun e => ?_⟩
    · rw [hs go _ i hI.1 hi]
      by_cases d : p i = true
      · rw [if_pos d]
        by_cases d2 : c = k
        · rw [if_pos (ez.mpr d2)]; simp only [d, d2, and_self, if_true]
        · rw [if_neg (fun z => d2 (ez.mp z)), show wr (wr (k - c) + -1) = wr (k - (c + 1)) by rw [wr_add]; congr 1; omega]
          simp only [d, d2, and_false, if_false, if_true]
      · rw [if_neg d]; simp only [d, false_and, if_false]; rfl
    · split <;> omega) (B - lo).toNat n lo 0 ⟨Int.le_refl _, Int.le_refl _, by omega⟩ rfl hn
  have e0 : wr (k - 0) = k := by rw [Int.sub_zero, wr_id hk]
  rw [e0] at q
  exact q
theorem lp_acc {body : (Int × Int → Option Int) → Int × Int → Option Int} (f : Int → Int → Int) (lo B : Int)
    (hx : ∀ go a i, B ≤ i → body go (a, i) = some a) (hs : ∀ go a i, lo ≤ i → i < B → body go (a, i) = go (f i a, i + 1)) {n : Nat} {a : Int} (hn : (B - lo).toNat < n) : lp body n (a, lo) = some (itR f lo (B - lo).toNat a) :=
  lp_it (body := body) (fun i s => (s, i)) f id (fun i _ => lo ≤ i) B (fun go i s _ h => hx go s i h) (fun go i s h1 h2 => ⟨hs go s i h1 h2, by omega⟩) (B - lo).toNat n lo a (Int.le_refl _) rfl hn
/-! calls -/
theorem c_adOn (h : PT S 5 W) (hG : Good W) {a : Int} {y : Int} (hi_a : inR a) (hi_y : inR y) (c : 1 ≤ a ∧ a ≤ pgs W) : fn_FP_adOn 0 a y S = some (0, getI (kth (fun i => decide (at_ W 6 i = a)) y 0 (nA W).toNat)) := by
  have b0 := h.pl.b
  unfold fn_FP_adOn
  rw [F_needPage h, if_pos c, bnO_s, if_pos rfl, tg_0_3, tg_5_0, tg_6_0]
  have q : lo_FP_adOn_22 a y 7 S FU (0, 0) = _ := lp_kthC (body := fun go p0 => lb_FP_adOn_22 a y 7 S go p0.1 p0.2) (fun i => decide (at_ W 6 i = a)) y 0 (nA W)
    (fun go z i hi => by
      show lb_FP_adOn_22 a y 7 S go z i = _
      have e : g S 7 7 = nA W := h.pl.mA
      unfold lb_FP_adOn_22
      rw [e, if_pos hi])
    (fun go z i h1 hi z1 z2 => by
      show lb_FP_adOn_22 a y 7 S go z i = _
      have e : g S 7 7 = nA W := h.pl.mA
      have e6 : g S 14 i.toNat = at_ W 6 i := h.pl.a6 ⟨h1, hi⟩
      unfold lb_FP_adOn_22
      rw [e, if_neg (by omega), if_pos (by omega : 0 ≤ i ∧ i < 40), tg_7_6, e6, nm_x, nm_x, wr_s (by omega) (by omega), nm_x, wr_s (by omega) (by omega)]
      simp only [decide_eq_true_eq]) (n := FU) (by omega) (FU_lt (by omega))
  rw [q, Int.sub_zero]
  cases kth (fun i => decide (at_ W 6 i = a)) y 0 (nA W).toNat <;> rfl
theorem c_pageOf (h : PT S 5 W) (hG : Good W) {a : Int} {y : Int} (hi_a : inR a) (hi_y : inR y) (c : 0 ≤ a ∧ a < frm W) : fn_FP_pageOf 0 a y S = some (0, getI (kth (fun i => decide (fOf W i = a)) y 1 (pgs W).toNat)) := by
  have b0 := h.pl.b
  unfold fn_FP_pageOf
  rw [F_needForm h, if_pos c, bnO_s, if_pos rfl]
  have q : lo_FP_pageOf_10 0 a y S FU (0, 1) = _ := lp_kthC (body := fun go p0 => lb_FP_pageOf_10 0 a y S go p0.1 p0.2) (fun i => decide (fOf W i = a)) y 1 (pgs W + 1)
    (fun go z i hi => by
      show lb_FP_pageOf_10 0 a y S go z i = _
      have e : g S 5 1 = pgs W := h.pl.gp
      unfold lb_FP_pageOf_10
      rw [tg_0_3, e, if_pos (by omega)])
    (fun go z i h1 hi z1 z2 => by
      show lb_FP_pageOf_10 0 a y S go z i = _
      have e : g S 5 1 = pgs W := h.pl.gp
      have e6 : g S 28 i.toNat = fOf W i := h.pl.fo h1 (by omega)
      unfold lb_FP_pageOf_10
      rw [tg_0_3, e, if_neg (by omega), if_pos (by omega : 0 ≤ i ∧ i < 65), tg_5_3, e6, nm_x, nm_x, wr_s (by omega) (by omega), nm_x, wr_s (by omega) (by omega)]
      simp only [decide_eq_true_eq]) (n := FU) (by omega) (FU_lt (by omega))
  rw [q, Int.add_sub_cancel]
  cases kth (fun i => decide (fOf W i = a)) y 1 (pgs W).toNat <;> rfl
theorem c_storyReason (h : PT S 5 W) (hG : Good W) {a : Int} {p : Int} (hi_a : inR a) (hi_p : inR p) (c : 0 ≤ a ∧ a < nS W) : fn_FP_storyReason 0 a p S = some (0, layR W a p) := by
  unfold fn_FP_storyReason
  rw [F_needStory h, if_pos c, bnO_s, if_pos rfl, tg_0_3, P_layReason h c hi_p, bnO_s]
end Reads2

