/-! load: numbers, ends, failures -/
section Numbers
variable {B : Int → Int} {L p s n lo hi v : Int} {S S' S0 T T' T0 : St} {i : Nat}
def FlC (S0 S : St) : Prop := Off S0 S 33 63
def FlM (T0 T : St) : Prop := Off T0 T 514 516 ∧ (∀ f, f ≠ 1 → f ≠ 2 → f ≠ 15 → f ≠ 16 → f ≠ 17 → f ≠ 18 → f ≠ 19 → f ≠ 20 → g T 514 f = g T0 514 f) ∧ ∀ f, 380 ≤ f → g T 515 f = g T0 515 f
theorem FlM.trans {T1 : St} (h : FlM T0 T1) (h' : FlM T1 T) : FlM T0 T := ⟨h.1.trans h'.1, fun f a b c d e k l m => (h'.2.1 f a b c d e k l m).trans (h.2.1 f a b c d e k l m), fun f hf => (h'.2.2 f hf).trans (h.2.2 f hf)⟩
theorem RaM.fl (h : RaM T T') : FlM T T' := ⟨h.1.mono (by omega) (by omega), fun f a b c d e k l m => h.2 f c k l, fun f _ => h.1.rd (by omega)⟩
theorem FlM.w4 {f : Nat} {z : Int} (hf : f = 1 ∨ f = 2 ∨ (15 ≤ f ∧ f ≤ 20)) : FlM T (u T 514 f z) := ⟨Off.wt (by omega) (by omega), fun f' a b c d e k l m => g_ne (by omega), fun f' _ => g_ne (by omega)⟩
theorem FlM.w5 {f : Nat} {z : Int} (hf : f < 380) : FlM T (u T 515 f z) := ⟨Off.wt (by omega) (by omega), fun f' a b c d e k l m => g_ne (by omega), fun f' _ => g_ne (by omega)⟩
theorem TxM.fl (h : TxM B L T) (r : FlM T T') : TxM B L T' := ⟨h.1, by rw [r.2.1 14 (by decide) (by decide) (by decide) (by decide) (by decide) (by decide) (by decide) (by decide)]; exact h.2.1, fun j j1 j2 => by rw [r.1.rd (by omega)]; exact h.2.2 j j1 j2⟩
def E0 (S T : St) : Prop := g S 61 6 = g T 514 16 ∧ g S 61 7 = g T 514 17
def St2 (B : Int → Int) (L : Int) (S0 T0 : St) (p : Int) (S T : St) : Prop := (TxC B L S ∧ FlC S0 S) ∧ (TxM B L T ∧ FlM T0 T) ∧ (0 ≤ p ∧ p ≤ L) ∧ g S 61 3 = p ∧ TkM B L T (tkS B L p) ∧ E0 S T
def Err (S0 T0 S T : St) : Prop := FlC S0 S ∧ FlM T0 T ∧ (g S 61 6 = g T 514 16 ∧ g S 61 7 = g T 514 17)
def RES (S0 T0 : St) (R : St → St → Prop) (x y : Option (Bool × St)) : Prop := (∃ S T, x = some (true, S) ∧ y = some (true, T) ∧ R S T) ∨ ∃ S T, x = some (false, S) ∧ y = some (false, T) ∧ Err S0 T0 S T
theorem bnO_eta {x : Option (Bool × St)} : (bnO x fun p => some (p.1, p.2)) = x := by cases x <;> rfl
theorem bnO_ite {x : Option (Bool × St)} : (bnO x fun p => if p.1 = true then some (true, p.2) else some (false, p.2)) = x := by
  cases x with
  | none => rfl
  | some q =>
    obtain ⟨b, S⟩ := q
    cases b <;> rfl
def vl (B : Int → Int) (L s : Int) : Int := vlN 10 48 B s (tkE B L s - s).toNat
def nvB (B : Int → Int) (L s lo hi : Int) : Prop := tkK B L s = 2 ∧ lo ≤ vl B L s ∧ vl B L s ≤ hi
theorem nv_dec : nvB B L s lo hi ∨ ¬ nvB B L s lo hi := by unfold nvB; omega
theorem vl_b (h : Txt B L) (hs : 0 ≤ s ∧ s ≤ L) (hk : tkK B L s = 2) : 0 ≤ vl B L s ∧ vl B L s ≤ 9999 := by
  have tl := tk2_l h hs hk
  have tb := tkE_b h hs
  have q := vl10 (B := B) (s := s) (n := (tkE B L s - s).toNat) (fun j j1 j2 => tl.2 j j1 (by omega))
  have pb := pw10_4 (tkE B L s - s).toNat (by omega)
  unfold vl
  omega
theorem C_numRead (h : TxC B L S) (hs : 0 ≤ s ∧ s ≤ L) (hc : CuC B L S s) (hk : tkK B L s = 2) : fn_Reader_numberRead 61 S = some (vl B L s) := by
  have tl := tk2_l h.1 hs hk
  have tb := tkE_b h.1 hs
  have b := h.1.1
  have lpI : ∀ (m : Nat) (a j : Int) (k : Nat), j + m = tkE B L s → s ≤ j → a = vlN 10 48 B s (j - s).toNat → m < k → lp (fun go p0 => lb_Reader_numberRead_7 61 S go p0.1 p0.2) k (a, j) = some (vl B L s) := by
    intro m
    induction m with
    | zero =>
      intro a j k e0 e1 ha hk'
      obtain ⟨k', rfl⟩ : ∃ k', k = k' + 1 := ⟨k - 1, by omega⟩
      rw [lp_succ]
      show lb_Reader_numberRead_7 61 S _ a j = _
      unfold lb_Reader_numberRead_7
      rw [hc.2.1, if_pos (by omega), ha, show j = tkE B L s by omega]
      rfl
    | succ m ih =>
      intro a j k e0 e1 ha hk'
      obtain ⟨k', rfl⟩ : ∃ k', k = k' + 1 := ⟨k - 1, by omega⟩
      have q := vl10 (B := B) (s := s) (n := (j - s).toNat) (fun i j1 j2 => tl.2 i j1 (by omega))
      have pb := pw10_4 (j - s).toNat (by omega)
      have d := of_decide_eq_true (tl.2 j e1 (by omega))
      have body : ∀ go, lb_Reader_numberRead_7 61 S go a j = go (10 * a + B j - 48, j + 1) := fun go => by
        unfold lb_Reader_numberRead_7
        rw [hc.2.1, if_neg (by omega), tg_61_0, By_at h ⟨by omega, by omega⟩, bnO_s, nm_x, nm_x, wr_s (z := 10 * a + B j - 48) (by omega) (by omega), wr_s (z := j + 1) (by omega) (by omega)]
      have body' := body (lp (fun go p0 => lb_Reader_numberRead_7 61 S go p0.1 p0.2) k')
      rw [lp_succ]
      refine body'.trans ?_
      refine ih (10 * a + B j - 48) (j + 1) k' (by omega) (by omega) ?_ (by omega)
      rw [show (j + 1 - s).toNat = (j - s).toNat + 1 by omega]
      show _ = vlN 10 48 B s (j - s).toNat * 10 + B (s + ((j - s).toNat : Int)) - 48
      rw [show s + ((j - s).toNat : Int) = j by omega, ha]
      omega
  unfold fn_Reader_numberRead
  have q := lpI (tkE B L s - s).toNat 0 s FU (by omega) (Int.le_refl _) (by rw [Int.sub_self]; rfl) (FU_lt (by omega))
  have q' : lo_Reader_numberRead_7 61 S FU (0, s) = some (vl B L s) := q
  rw [hc.1, q', bnO_s]
theorem C_num (hi6 : i < 6) (h : TxC B L S) (hp : g S 61 3 = p) (h0 : 0 ≤ p ∧ p ≤ L) : (nvB B L (tkS B L p) lo hi ∧ ∃ S', fn_Reader_readNumber 61 (i : Int) lo hi S = some (true, S') ∧ Off S S' 61 63 ∧ g S' 61 3 = tkE B L (tkS B L p) ∧ g S' 61 5 = tkS B L p ∧ g S' 62 i = vl B L (tkS B L p) ∧ (∀ j, j ≠ i → g S' 62 j = g S 62 j) ∧ ∀ f, f ≠ 3 → f ≠ 4 → f ≠ 5 → g S' 61 f = g S 61 f) ∨
    (¬ nvB B L (tkS B L p) lo hi ∧ ∃ S' c, fn_Reader_readNumber 61 (i : Int) lo hi S = fn_Reader_fail 61 c S' ∧ c = (if tkK B L (tkS B L p) = 2 then 2 else 1) ∧ Off S S' 61 63 ∧ g S' 61 5 = tkS B L p) := by
  have b := h.1.1
  have sb := tkS_b (B := B) h0
  obtain ⟨S1, e1, r1, a5, a3, a4⟩ := R_next h hp h0
  obtain ⟨s, hs⟩ : ∃ s, s = tkS B L p := ⟨_, rfl⟩
  rw [← hs] at sb a5 a3 a4 ⊢
  have s0 : 0 ≤ s ∧ s ≤ L := by omega
  have t1 := h.off r1.1 (by omega)
  have o1 : Off S S1 61 63 := r1.1.mono (by omega) (by omega)
  unfold fn_Reader_readNumber
  rw [e1, bnO_s, a4]
  have et : ∀ x : Option (Bool × St), (bnO x fun p => some (p.1, p.2)) = x := fun x => bnO_eta
  by_cases c : tkK B L s = 2
  · have vb := vl_b h.1 s0 c
    rw [if_pos c, C_numRead t1 s0 ⟨a5, a3, a4⟩ c, bnO_s]
    by_cases c1 : vl B L s < lo
    · rw [if_pos c1]
      exact .inr ⟨fun z => by have := z.2.1; omega, S1, 2, et _, (if_pos c).symm, o1, a5⟩
    · rw [if_neg c1]
      by_cases c2 : vl B L s ≤ hi
      · rw [if_pos c2, if_pos (by omega : 0 ≤ (i : Int) ∧ (i : Int) < 6), nm_x, tg_61_2]
        refine .inl ⟨⟨c, by omega, c2⟩, _, rfl, o1.tu (by omega) (by omega), by rw [g_ne (by omega)]; exact a3, by rw [g_ne (by omega)]; exact a5, ?_, fun j hj => ?_, fun f f1 f2 f3 => by rw [g_ne (by omega)]; exact r1.2 f f1 f2 f3⟩
        · rw [show ((i : Int)).toNat = i by omega, g_eq, wr_s (by omega) (by omega)]
        · rw [g_ne (by omega)]; exact r1.1.rd (by omega)
      · rw [if_neg c2]
        exact .inr ⟨fun z => c2 z.2.2, S1, 2, et _, (if_pos c).symm, o1, a5⟩
  · rw [if_neg c]
    exact .inr ⟨fun z => c z.1, S1, 1, et _, (if_neg c).symm, o1, a5⟩
def NumR (B : Int → Int) (L : Int) (S0 T0 : St) (p : Int) (S T : St) (i : Nat) (lo hi : Int) (S' T' : St) (v : Int) : Prop := (St2 B L S0 T0 (tkE B L (tkS B L p)) S' T') ∧ (p < tkE B L (tkS B L p)) ∧ (lo ≤ v ∧ v ≤ hi) ∧ (g S' 62 i = v) ∧ (∀ j, j ≠ i → g S' 62 j = g S 62 j) ∧ (Off S S' 61 63) ∧ (g S' 61 5 = tkS B L p) ∧ (g T' 514 20 = v) ∧ (Off T T' 514 515) ∧ (∀ f, f ≠ 15 → f ≠ 18 → f ≠ 19 → f ≠ 20 → g T' 514 f = g T 514 f) ∧ (0 ≤ tkS B L p ∧ tkS B L p ≤ 1600) ∧ (tkK B L (tkS B L p) = 2) ∧ (v = vl B L (tkS B L p)) ∧ (0 ≤ v ∧ v ≤ 9999)
theorem NumR.st (h : NumR B L S0 T0 p S T i lo hi S' T' v) : St2 B L S0 T0 (tkE B L (tkS B L p)) S' T' := h.1
theorem NumR.lt (h : NumR B L S0 T0 p S T i lo hi S' T' v) : p < tkE B L (tkS B L p) := h.2.1
theorem NumR.rg (h : NumR B L S0 T0 p S T i lo hi S' T' v) : lo ≤ v ∧ v ≤ hi := h.2.2.1
theorem NumR.c (h : NumR B L S0 T0 p S T i lo hi S' T' v) : g S' 62 i = v := h.2.2.2.1
theorem NumR.co (h : NumR B L S0 T0 p S T i lo hi S' T' v) : ∀ j, j ≠ i → g S' 62 j = g S 62 j := h.2.2.2.2.1
theorem NumR.cf (h : NumR B L S0 T0 p S T i lo hi S' T' v) : Off S S' 61 63 := h.2.2.2.2.2.1
theorem NumR.c5 (h : NumR B L S0 T0 p S T i lo hi S' T' v) : g S' 61 5 = tkS B L p := h.2.2.2.2.2.2.1
theorem NumR.m (h : NumR B L S0 T0 p S T i lo hi S' T' v) : g T' 514 20 = v := h.2.2.2.2.2.2.2.1
theorem NumR.mf (h : NumR B L S0 T0 p S T i lo hi S' T' v) : Off T T' 514 515 := h.2.2.2.2.2.2.2.2.1
theorem NumR.mg (h : NumR B L S0 T0 p S T i lo hi S' T' v) : ∀ f, f ≠ 15 → f ≠ 18 → f ≠ 19 → f ≠ 20 → g T' 514 f = g T 514 f := h.2.2.2.2.2.2.2.2.2.1
theorem NumR.mp (h : NumR B L S0 T0 p S T i lo hi S' T' v) : 0 ≤ tkS B L p ∧ tkS B L p ≤ 1600 := h.2.2.2.2.2.2.2.2.2.2.1
theorem NumR.kk (h : NumR B L S0 T0 p S T i lo hi S' T' v) : tkK B L (tkS B L p) = 2 := h.2.2.2.2.2.2.2.2.2.2.2.1
theorem NumR.vv (h : NumR B L S0 T0 p S T i lo hi S' T' v) : v = vl B L (tkS B L p) := h.2.2.2.2.2.2.2.2.2.2.2.2.1
theorem NumR.vb (h : NumR B L S0 T0 p S T i lo hi S' T' v) : 0 ≤ v ∧ v ≤ 9999 := h.2.2.2.2.2.2.2.2.2.2.2.2.2
end Numbers

