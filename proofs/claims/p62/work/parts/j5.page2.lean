/-! A PAGE: its text held against the description, its place among the pages -/
section Page2
variable {S S' : St} {L L' K K1 L0 : List PC} {P : PA} {W : Vw} {a r cap t N M c s : Nat} {bs xs : List Int} {p : Int}
theorem SbH.sf0 (h : SbH K a r cap bs) (hs : Sf F0_ K K1) : SbH K1 a r cap bs := by
  obtain ⟨h1, ⟨v2, h2⟩, f, h3, h4⟩ := h
  exact ⟨h1, ⟨v2, hs.at0 h2⟩, f, h3.sf0 hs, h4⟩
theorem SbN.sf0 (h : SbN N L0 M K a bs c s) (hs : Sf F0_ K K1) {M1 : Nat} (hM : M1 ≤ 600000000) (hl : K1.length + c ≤ M1) : SbN N L0 M1 K1 a bs c s := by
  obtain ⟨⟨n1, n2, n3⟩, r, cap, h1, h2, h3, h4, h5⟩ := h
  exact ⟨⟨n1, hM, hl⟩, r, cap, h1.sf0 hs, h2, h3.trans hs, h4, h5⟩
theorem StH.at_ (h : StH L t bs) {i : Int} (hi : 0 ≤ i ∧ i < bs.length) : gn_String_charAt t i S L = some (bs.getD i.toNat 0) := k_charAt h hi
/-- the bytes of the description -/
theorem l_pg461 {c1 : Nat} {a2 a3 a6 : Int} (ht : StH L t (32 :: xs)) (hd : DC S xs) (hx : xs.length ≤ 20) : ∀ (n N : Nat) (i : Int), i + n = xs.length + 1 → 1 ≤ i → n < N →
    lp (fun go q => lb2_Law_pages_461 c1 a2 a3 a6 t go q.1 q.2.1 q.2.2) N (i, (S, L)) = some (.inr (S, L), 0, 0)
  | 0, N + 1, i, hi, h1, _ => by
    rw [lp_succ]
    show lb2_Law_pages_461 c1 a2 a3 a6 t _ i S L = _
    unfold lb2_Law_pages_461
    rw [if_pos ht.k, k_strLen ht, bnO_s, if_pos (by rw [List.length_cons]; omega)]
  | n + 1, N + 1, i, hi, h1, hN => by
    have ih := l_pg461 (c1 := c1) (a2 := a2) (a3 := a3) (a6 := a6) ht hd hx n N (i + 1) (by omega) (by omega) (by omega)
    have e1 := cl_describedByte (S := S) (a := i - 1) (by rw [hd.1]; omega)
    have e2 := k_charAt (S := S) ht (i := i) ⟨by omega, by rw [List.length_cons]; omega⟩
    have e3 : (32 :: xs).getD i.toNat 0 = xs.getD (i - 1).toNat 0 := by
      rw [show i.toNat = (i - 1).toNat + 1 by omega]; rfl
    rw [hd.1, if_pos ⟨by omega, by omega⟩, hd.2 _ (by omega)] at e1
    rw [e3] at e2
    rw [lp_succ, ← ih]
    show lb2_Law_pages_461 c1 a2 a3 a6 t _ i S L = _
    unfold lb2_Law_pages_461
    rw [if_pos ht.k, k_strLen ht, bnO_s, if_neg (by rw [List.length_cons]; omega), nm_x, wr_s (z := i - 1) (by omega) (by omega), e1, bnO_s, if_pos ht.k, e2, bnO_s, if_pos rfl, nm_x, wr_s (z := i + 1) (by omega) (by omega)]
theorem ek_lt (hG : Good W) {q : Int} (hp : 1 ≤ p ∧ p ≤ pgs W) (hq : 1 ≤ q ∧ q ≤ pgs W) : ekP W q < ekP W p ↔ (lf W p < lf W q ∨ (lf W q = lf W p ∧ q < p)) := by
  have b := hG.1.pg
  unfold ekP
  omega
/-- the pages before it -/
theorem l_pg503 {a2 : Int} (h : HP L P W) (hG : Good W) (hp : 1 ≤ p ∧ p ≤ pgs W) : ∀ (n N : Nat) (q z : Int), q + n = pgs W + 1 → 1 ≤ q → n < N → 0 ≤ z ∧ z ≤ 10000 - n →
    lp (fun go y => lb2_Law_pages_503 (pT P) a2 p (lf W p) S L go y.1 y.2) N (z, q) = some (z + sumR (fun y => if (fun _ => true) y = true ∧ ekP W y < ekP W p then 1 else 0) q n)
  | 0, N + 1, q, z, hq, h1, _, hz => by
    have hV := hG.1
    rw [lp_succ]
    show lb2_Law_pages_503 (pT P) a2 p (lf W p) S L _ z q = _
    unfold lb2_Law_pages_503
    rw [if_pos h.k, l_pages h hV, bnO_s, if_pos (by omega)]
    show some z = some (z + 0)
    rw [Int.add_zero]
  | n + 1, N + 1, q, z, hq, h1, hN, hz => by
    have hV := hG.1
    have b := hV.pg
    have ih := fun z hz => l_pg503 (a2 := a2) h hG hp n N (q + 1) z (by omega) (by omega) (by omega) hz
    have i1 : wr (q + 1) = q + 1 := wr_s (by omega) (by omega)
    have ek := ek_lt hG hp (q := q) ⟨h1, by omega⟩
    have es : sumR (fun y => if (fun _ => true) y = true ∧ ekP W y < ekP W p then (1 : Int) else 0) q (n + 1) = (if ekP W q < ekP W p then 1 else 0) + sumR (fun y => if (fun _ => true) y = true ∧ ekP W y < ekP W p then (1 : Int) else 0) (q + 1) n := by
      show (if (fun _ => true) q = true ∧ ekP W q < ekP W p then (1 : Int) else 0) + _ = _
      by_cases cc : ekP W q < ekP W p
      · rw [if_pos cc, if_pos ⟨rfl, cc⟩]
      · rw [if_neg cc, if_neg (fun y => cc y.2)]
    rw [lp_succ, es]
    show lb2_Law_pages_503 (pT P) a2 p (lf W p) S L _ z q = _
    have hun : ∀ gg : Int × Int → Option Int, lb2_Law_pages_503 (pT P) a2 p (lf W p) S L gg z q = gg (z + (if ekP W q < ekP W p then 1 else 0), q + 1) := fun gg => by
      unfold lb2_Law_pages_503
      rw [if_pos h.k, l_pages h hV, bnO_s, if_neg (by omega), if_pos h.k, l_left h hV, bnO_s]
      by_cases c1 : lf W p < lf W q
      · rw [if_pos c1, nm_x, nm_x, i1, if_pos (ek.mpr (.inl c1)), wr_s (by omega) (by omega)]
      · rw [if_neg c1, if_pos h.k, bnO_s]
        by_cases c2 : lf W q = lf W p
        · rw [if_pos c2]
          by_cases c3 : p ≤ q
          · rw [if_pos c3, nm_x, nm_x, i1, if_neg (fun y => by have := ek.mp y; omega), wr_s (by omega) (by omega)]
          · rw [if_neg c3, nm_x, nm_x, i1, if_pos (ek.mpr (.inr ⟨c2, by omega⟩)), wr_s (by omega) (by omega)]
        · rw [if_neg c2, nm_x, nm_x, i1, if_neg (fun y => by have := ek.mp y; omega), wr_s (by omega) (by omega)]
    rw [hun]
    show lp (fun go y => lb2_Law_pages_503 (pT P) a2 p (lf W p) S L go y.1 y.2) N (_, _) = _
    rw [ih _ (by split <;> omega), Int.add_assoc]
theorem em_of (hG : Good W) (hp : 1 ≤ p ∧ p ≤ pgs W) : emN W (ecP W (ekP W p)) = p := by
  have sp := fstR_spec (p := fun x => decide (ecP W (ekP W x) = ecP W (ekP W p))) (n := (pgs W + 1 - 1).toNat) (i := 1) (by decide)
  unfold emN
  rcases sp with ⟨_, s2⟩ | ⟨s1, s2, s3, _⟩
  · exact absurd rfl (of_decide_eq_false (s2 p hp.1 (by omega)))
  · exact ec_inj hG ⟨s1, by omega⟩ hp (of_decide_eq_true s3)
/-- only the description changes; it is short -/
def OfD (S S' : St) : Prop := Off S S' 3 5 ∧ g S' 3 1 ≤ 20
/-- the page's text whole: held against the description -/
theorem l_409 {go : Int × Int × LZ → Option (((Bool × LZ) ⊕ (Int × LZ)) × Nat × Nat)} {a2 : Int} {d C T : Nat} {R : (Bool × LZ) ⊕ (Int × LZ) → Prop} (h : HP L0 P W) (hG : Good W) (hT : PT S 5 W) (hp : 1 ≤ p ∧ p ≤ pgs W) (hak : isK L a 15 = true)
    (happ : ∀ (k : (Value × LZ) × Nat × Nat → Option (((Bool × LZ) ⊕ (Int × LZ)) × Nat × Nat)) (C' T' : Nat), (∀ L1 c1 s1 u v, SbN 24 L0 M L1 a (32 :: dsE W p) c1 s1 → Ok (k ((Value.ref a, (S, L1)), u, v)) (c1 + C') (s1 + T') R) → Ok (bnO (gn_SB_append a d S L) fun p => adC p.2.1 p.2.2 (k p)) (c + C') (s + T') R)
    (hk : ∀ S' L1, PT S' 5 W → OfD S S' → Sf F0_ L0 L1 → L1.length ≤ M + 2 → Ok (go (a2, p + 1, (S', L1))) C T R) :
    Ok (jf2_Law_pages_409_4 (pT P) go a2 p (lf W p) (Value.ref d) (Value.ref a) S L) (c + (3 + C)) (s + (34 + T)) R := by
  have hV := hG.1
  have bp := hV.pg
  have dl := (ds_len hG hp).2.2.2
  obtain ⟨S', e, o, hd⟩ := ds_class hT hG hp
  obtain ⟨xs, hxs⟩ : ∃ xs, xs = dsE W p := ⟨_, rfl⟩
  rw [← hxs] at dl e hd happ
  have hlen : ((32 :: xs).length : Int) = xs.length + 1 := by rw [List.length_cons]; omega
  have hT' : PT S' 5 W := hT.off o (.inl (Nat.le_refl _))
  unfold jf2_Law_pages_409_4
  rw [rfB_r, rfB_r, if_pos hak]
  refine happ _ (3 + C) (34 + T) (fun L1 c1 s1 u v h1 => ?_)
  dsimp only
  rw [rfB_r, if_pos h1.k]
  refine (st_s (C := 1 + C) (T := 6 + T) h1 (by rw [List.length_cons]; omega) (fun t L2 u v y1 y2 y3 y4 => ?_)).mono (by omega) (by omega) (fun _ q => q)
  have h2 := h.sf0 y3
  have q1 := l_pg461 (c1 := pT P) (a2 := a2) (a3 := p) (a6 := lf W p) y1 hd dl xs.length FU 1 (by omega) (Int.le_refl _) (FU_big (by omega))
  have q1 : lo2_Law_pages_461 (pT P) a2 p (lf W p) t FU (1, (S', L2)) = some (.inr (S', L2), 0, 0) := q1
  have q2 := l_pg503 (S := S') (a2 := a2) h2 hG hp (pgs W).toNat FU 1 0 (by omega) (Int.le_refl _) (FU_big (by omega)) (by omega)
  have q2 : lo2_Law_pages_503 (pT P) a2 p (lf W p) S' L2 FU (0, 1) = some (0 + ecP W (ekP W p)) := q2
  have d1 := cl_describedByte (S := S') (a := (xs.length : Int)) (by rw [hd.1]; omega)
  have d2 := cl_describedByte (S := S') (a := -1) (by rw [hd.1]; omega)
  rw [hd.1, if_neg (by omega)] at d1
  rw [if_neg (by omega)] at d2
  dsimp only
  rw [e, bnO_s]
  dsimp only
  rw [if_pos rfl]
  refine Ok.ad (c := 1) (s := 6) (by omega) (by omega) ?_
  rw [rfB_r, if_pos y1.k, k_strLen y1, bnO_s, hlen, nm_x, wr_s (z := (xs.length : Int) + 1 - 1) (by omega) (by omega), show (xs.length : Int) + 1 - 1 = xs.length by omega, if_pos rfl, if_pos y1.k, bnO_s, nm_x, wr_s (z := (xs.length : Int) + 1 - 1) (by omega) (by omega), show (xs.length : Int) + 1 - 1 = xs.length by omega, d1, bnO_s, if_pos rfl, d2, bnO_s, if_pos rfl, q1]
  show Ok (adC 0 0 _) _ _ _
  refine Ok.ad (c := 0) (s := 0) (Nat.zero_le _) (Nat.zero_le _) ?_
  dsimp only
  rw [q2, bnO_s, Int.zero_add, em_class hT' hG, bnO_s, em_of hG hp, if_pos rfl, nm_x, wr_s (z := p + 1) (by omega) (by omega)]
  exact (hk S' L2 hT' ⟨o, by rw [hd.1]; omega⟩ y3 y4).mono (by omega) (by omega) (fun _ q => q)
end Page2
