/-! THE READER ALONE: tokens up to a place, numbers, ends of statements -/
section RdA
variable {B : Int → Int} {L p s q z lo hi v c : Int} {S S' S0 : St} {i : Nat} {V : Vw} {M : Prop} {R R' : St → Prop}
def rdN (B : Int → Int) (L p : Int) : Int := tkE B L (tkS B L p)
def RdQ (B : Int → Int) (L q : Int) : Prop := (0 ≤ q ∧ q ≤ L) ∧ (q < L → B q = 63)
theorem RdQ.tS (h : RdQ B L q) (hp : 0 ≤ p ∧ p ≤ q) : p ≤ tkS B L p ∧ tkS B L p ≤ q := by
  have sb := tkS_b (B := B) (L := L) (p := p) (by have := h.1; omega)
  refine ⟨sb.1, ?_⟩
  by_cases c : tkS B L p ≤ q
  · exact c
  · exfalso
    have e := of_decide_eq_true (skW_in (q := blk B) (m := (L - p).toNat) (p := p) (j := q) hp.2 (by show q < tkS B L p; omega))
    have e3 := h.2 (by omega)
    omega
theorem RdQ.E (h : RdQ B L q) (tx : Txt B L) (hs : 0 ≤ s ∧ s ≤ q) (hk : tkK B L s ≠ 4) : s ≤ tkE B L s ∧ tkE B L s ≤ q := by
  have tb := tkE_b tx (s := s) (by have := h.1; omega)
  refine ⟨tb.1, ?_⟩
  by_cases cq : q = L
  · omega
  have e3 := h.2 (by have := h.1; omega)
  have k4 : tk0 B q = 4 := by unfold tk0 ltr dgt; rw [e3]; rfl
  by_cases cs : s = q
  · exact absurd (by unfold tkK; rw [cs, k4, if_neg (fun w => absurd w.1 (by decide)), if_neg (fun w => absurd w.1 (by decide))]) hk
  unfold tkE
  split
  · omega
  · split
    · by_cases c : skW (ltr B) s (L - s).toNat ≤ q
      · exact c
      · exfalso
        have e := of_decide_eq_true (skW_in (q := ltr B) (m := (L - s).toNat) (p := s) (j := q) hs.2 (by omega))
        omega
    · split
      · by_cases c : skW (dgt B) s (L - s).toNat ≤ q
        · exact c
        · exfalso
          have e := of_decide_eq_true (skW_in (q := dgt B) (m := (L - s).toNat) (p := s) (j := q) hs.2 (by omega))
          omega
      · omega
def RdE (S0 : St) (q : Int) (S : St) : Prop := FlC S0 S ∧ (1 ≤ g S 61 6 ∧ g S 61 6 ≤ 4) ∧ (0 ≤ g S 61 7 ∧ g S 61 7 ≤ q)
def RdS (B : Int → Int) (L q : Int) (S0 : St) (p : Int) (S : St) : Prop := (TxC B L S ∧ FlC S0 S) ∧ (0 ≤ p ∧ p ≤ q) ∧ g S 61 3 = p ∧ (g S 61 6 = 0 ∧ g S 61 7 = -1)
def RdC (B : Int → Int) (L q : Int) (S0 : St) (s : Int) (S : St) : Prop := (TxC B L S ∧ FlC S0 S) ∧ (0 ≤ s ∧ s ≤ q) ∧ CuC B L S s ∧ (g S 61 6 = 0 ∧ g S 61 7 = -1)
def RdZ (M : Prop) (S0 : St) (q : Int) (R : St → Prop) (x : Option (Bool × St)) : Prop := (∃ S, x = some (true, S) ∧ R S) ∨ (¬ M ∧ ∃ S, x = some (false, S) ∧ RdE S0 q S)
theorem RdZ.mono {x : Option (Bool × St)} (h : RdZ M S0 q R x) (hR : ∀ S, R S → R' S) : RdZ M S0 q R' x := by
  rcases h with ⟨S, h1, h2⟩ | ⟨h1, h2⟩
  · exact .inl ⟨S, h1, hR S h2⟩
  · exact .inr ⟨h1, h2⟩
theorem RdZ.fail {k : Bool × St → Option (Bool × St)} (hC : FlC S0 S) (h5 : g S 61 5 = z) (hz : 0 ≤ z ∧ z ≤ q) (hq : q ≤ 1600) (hc : 1 ≤ c ∧ c ≤ 4) (hM : ¬ M) (k0 : ∀ S', k (false, S') = some (false, S')) : RdZ M S0 q R (bnO (fn_Reader_fail 61 c S) k) := by
  unfold fn_Reader_fail
  rw [nm_x, nm_x, bnO_s, k0]
  refine .inr ⟨hM, _, rfl, ?_, ?_, ?_⟩
  · exact Off.tu (Off.tu hC (by omega) (by omega)) (by omega) (by omega)
  · rw [g_ne (by omega), g_eq, wr_s (by omega) (by omega)]; exact hc
  · rw [g_eq, g_ne (by omega), h5, wr_s (by omega) (by omega)]; exact hz
theorem RdC.adv (h : RdC B L q S0 s S) (hq : RdQ B L q) (hk : tkK B L s ≠ 4) : RdS B L q S0 (tkE B L s) S ∧ s ≤ tkE B L s := by
  obtain ⟨h1, h2, h3, h4⟩ := h
  have e := hq.E h1.1.1 h2 hk
  exact ⟨⟨h1, by omega, h3.2.1, h4⟩, e.1⟩
theorem RdS.cw (h : RdS B L q S0 p S) (o : Off S S' 33 61) : RdS B L q S0 p S' := ⟨⟨h.1.1.off o (by omega), h.1.2.trans (o.mono (by omega) (by omega))⟩, h.2.1, by rw [o.rd (by omega)]; exact h.2.2.1, by rw [o.rd (by omega)]; exact h.2.2.2.1, by rw [o.rd (by omega)]; exact h.2.2.2.2⟩
/-- the class's next token -/
theorem RdS.next (hq : RdQ B L q) (h : RdS B L q S0 p S) : ∃ S1, fn_Reader_nextToken 61 S = some S1 ∧ RdC B L q S0 (tkS B L p) S1 ∧ Off S S1 61 63 := by
  obtain ⟨⟨h1, h2⟩, h5, h6, h8⟩ := h
  have qb := hq.1
  have qs := hq.tS h5
  obtain ⟨S1, e1, r1, a5, a3, a4⟩ := R_next h1 h6 (by omega)
  exact ⟨S1, e1, ⟨⟨h1.off r1.1 (by omega), h2.trans (r1.1.mono (by omega) (by omega))⟩, by omega, ⟨a5, a3, a4⟩, by rw [r1.2 6 (by decide) (by decide) (by decide)]; exact h8.1, by rw [r1.2 7 (by decide) (by decide) (by decide)]; exact h8.2⟩, r1.1.mono (by omega) (by omega)⟩
def RdN (B : Int → Int) (L q : Int) (S0 : St) (p : Int) (S : St) (i : Nat) (lo hi : Int) (S' : St) (v : Int) : Prop := RdS B L q S0 (rdN B L p) S' ∧ p < rdN B L p ∧ (lo ≤ v ∧ v ≤ hi) ∧ g S' 62 i = v ∧ (∀ j, j ≠ i → g S' 62 j = g S 62 j) ∧ Off S S' 61 63 ∧ g S' 61 5 = tkS B L p ∧ v = vl B L (tkS B L p) ∧ (0 ≤ v ∧ v ≤ 9999) ∧ (0 ≤ tkS B L p ∧ tkS B L p ≤ q)
theorem RdN.st (h : RdN B L q S0 p S i lo hi S' v) : RdS B L q S0 (rdN B L p) S' := h.1
theorem RdN.lt (h : RdN B L q S0 p S i lo hi S' v) : p < rdN B L p := h.2.1
theorem RdN.rg (h : RdN B L q S0 p S i lo hi S' v) : lo ≤ v ∧ v ≤ hi := h.2.2.1
theorem RdN.cv (h : RdN B L q S0 p S i lo hi S' v) : g S' 62 i = v := h.2.2.2.1
theorem RdN.co (h : RdN B L q S0 p S i lo hi S' v) : ∀ j, j ≠ i → g S' 62 j = g S 62 j := h.2.2.2.2.1
theorem RdN.cf (h : RdN B L q S0 p S i lo hi S' v) : Off S S' 61 63 := h.2.2.2.2.2.1
theorem RdN.c5 (h : RdN B L q S0 p S i lo hi S' v) : g S' 61 5 = tkS B L p := h.2.2.2.2.2.2.1
theorem RdN.vv (h : RdN B L q S0 p S i lo hi S' v) : v = vl B L (tkS B L p) := h.2.2.2.2.2.2.2.1
theorem RdN.vb (h : RdN B L q S0 p S i lo hi S' v) : 0 ≤ v ∧ v ≤ 9999 := h.2.2.2.2.2.2.2.2.1
theorem RdN.mp (h : RdN B L q S0 p S i lo hi S' v) : 0 ≤ tkS B L p ∧ tkS B L p ≤ q := h.2.2.2.2.2.2.2.2.2
theorem tk_ne {k : Int} (tx : Txt B L) (hs : 0 ≤ s ∧ s ≤ L) (hk : tkK B L s = k) (h0 : k ≠ 0) : s < L := by
  have : s ≠ L := fun z => h0 (by rw [← hk]; exact (tkK_0 tx hs).mpr z)
  omega
theorem RdZ.num {k : Bool × St → Option (Bool × St)} (hq : RdQ B L q) (hi6 : i < 6) (h : RdS B L q S0 p S) (hM : M → nvB B L (tkS B L p) lo hi) (k0 : ∀ S', k (false, S') = some (false, S')) (hs : ∀ S' v, RdN B L q S0 p S i lo hi S' v → RdZ M S0 q R (bnO (some (true, S')) k)) : RdZ M S0 q R (bnO (fn_Reader_readNumber 61 (i : Int) lo hi S) k) := by
  obtain ⟨⟨h1, h2⟩, h5, h6, h8⟩ := h
  have b := h1.1.1
  have qb := hq.1
  have qs := hq.tS h5
  have tb := tkE_b h1.1 (s := tkS B L p) (by omega)
  rcases C_num (lo := lo) (hi := hi) hi6 h1 h6 (by omega) with ⟨a1, S', a2, a3, a4, a5, a6, a7, a8⟩ | ⟨a1, S', c, a2, ac, a3, a5⟩
  · rw [a2]
    have qe := hq.E h1.1 (s := tkS B L p) (by omega) (by rw [a1.1]; decide)
    have lt := tk_ne h1.1 (s := tkS B L p) (by omega) a1.1 (by decide)
    refine hs S' (vl B L (tkS B L p)) ⟨⟨⟨h1.off a3 (by omega), h2.trans (a3.mono (by omega) (by omega))⟩, by unfold rdN; omega, a4, by rw [a8 6 (by decide) (by decide) (by decide)]; exact h8.1, by rw [a8 7 (by decide) (by decide) (by decide)]; exact h8.2⟩, by unfold rdN; omega, a1.2, a6, a7, a3, a5, rfl, vl_b h1.1 (by omega) a1.1, by omega⟩
  · rw [a2]
    exact RdZ.fail (h2.trans (a3.mono (by omega) (by omega))) a5 (by omega) (by omega) (by rw [ac]; split <;> omega) (fun m => a1 (hM m)) k0
theorem RdZ.semi (hq : RdQ B L q) (h : RdS B L q S0 p S) (hM : M → tkK B L (tkS B L p) = 3) (hR : ∀ S', Off S S' 61 63 → RdS B L q S0 (rdN B L p) S' → p < rdN B L p → R S') : RdZ M S0 q R (fn_Reader_readSemicolon 61 S) := by
  obtain ⟨⟨h1, h2⟩, h5, h6, h8⟩ := h
  have b := h1.1.1
  have qb := hq.1
  have qs := hq.tS h5
  have tb := tkE_b h1.1 (s := tkS B L p) (by omega)
  obtain ⟨S1, e1, r1, a5, a3, a4⟩ := R_next h1 h6 (by omega)
  have o1 : Off S S1 61 63 := r1.1.mono (by omega) (by omega)
  unfold fn_Reader_readSemicolon
  rw [e1, bnO_s, a4]
  by_cases c : tkK B L (tkS B L p) = 3
  · rw [if_pos c]
    have qe := hq.E h1.1 (s := tkS B L p) (by omega) (by rw [c]; decide)
    have lt := tk_ne h1.1 (s := tkS B L p) (by omega) c (by decide)
    exact .inl ⟨S1, rfl, hR S1 o1 ⟨⟨h1.off r1.1 (by omega), h2.trans (o1.mono (by omega) (by omega))⟩, by unfold rdN; omega, a3, by rw [r1.2 6 (by decide) (by decide) (by decide)]; exact h8.1, by rw [r1.2 7 (by decide) (by decide) (by decide)]; exact h8.2⟩ (by unfold rdN; omega)⟩
  · rw [if_neg c]
    exact RdZ.fail (h2.trans (o1.mono (by omega) (by omega))) a5 (by omega) (by omega) (by omega) (fun m => c (hM m)) (fun _ => rfl)
def RdD (V : Vw) (S : St) : Prop := PT S 33 V ∧ Good V ∧ tm V = 0
theorem RdD.off (h : RdD V S) (o : Off S S' 61 63) : RdD V S' := ⟨h.1.off o (by omega), h.2⟩
def RdF (B : Int → Int) (L q : Int) (S0 : St) (s : Int) (X : Vw → Int → Prop) (S : St) : Prop := ∃ V p, s < p ∧ RdS B L q S0 p S ∧ RdD V S ∧ X V p
theorem RdZ.fin {X : Vw → Int → Prop} (hq : RdQ B L q) (h : RdS B L q S0 p S) (hd : RdD V S) (hp : s ≤ p) (hM : M → tkK B L (tkS B L p) = 3) (hX : X V (rdN B L p)) : RdZ M S0 q (RdF B L q S0 s X) (fn_Reader_readSemicolon 61 S) :=
  RdZ.semi hq h hM (fun S' o h' hl => ⟨V, _, by omega, h', hd.off o, hX⟩)
/-- the tokens that stand from p on: numbers, and a semicolon; it ends at e -/
def RdT (B : Int → Int) (L : Int) : Int → List Int → Int → Prop
  | p, [], e => tkK B L (tkS B L p) = 3 ∧ rdN B L p = e
  | p, z :: zs, e => (tkK B L (tkS B L p) = 2 ∧ vl B L (tkS B L p) = z) ∧ RdT B L (rdN B L p) zs e
end RdA
