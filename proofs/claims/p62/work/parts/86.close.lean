/-! closing of forms: what it does to a view -/
section Close
variable {W V V' : Vw} {a b f p i z s : Int}
theorem in0 : inR 0 := ⟨by decide, by decide⟩
theorem in1 : inR 1 := ⟨by decide, by decide⟩
def G3 (W : Vw) : Prop := Val W ∧ Wf W ∧ Flw W
theorem at_eqv (e : ∀ k, k ≠ 17 → V' k = V k) {k : Nat} (hk : k ≠ 17) (x : Int) : at_ V' k x = at_ V k x := by unfold at_; rw [e k hk]
def N5 (V V' : Vw) : Prop := nA V' = nA V ∧ nS V' = nS V ∧ nB V' = nB V ∧ sg V' = sg V ∧ pe V' = pe V
theorem N5_pgs (n : N5 V V') : pgs V' = pgs V := by unfold pgs; rw [n.2.2.2.1, n.2.2.2.2]
theorem Val.eqv (h1 : Val V) (e : ∀ k, k ≠ 17 → V' k = V k) (n : N5 V V') (t : 0 ≤ tm V' ∧ tm V' ≤ 9999) : Val V' := by
  have ep := (N5_pgs n)
  have ea := fun k hk => at_eqv (V := V) (V' := V') e (k := k) hk
  obtain ⟨n1, n2, n3, n4, n5⟩ := n
  unfold Val
  simp only [n1, n2, n3, n4, n5, ep, ea 0 (by decide), ea 1 (by decide), ea 2 (by decide), ea 3 (by decide), ea 4 (by decide), ea 5 (by decide), ea 6 (by decide), ea 7 (by decide), ea 8 (by decide), ea 9 (by decide), ea 10 (by decide), ea 11 (by decide), ea 12 (by decide), ea 13 (by decide), ea 14 (by decide), ea 15 (by decide), ea 16 (by decide)]
  exact ⟨⟨h1.1.1, h1.1.2.1, h1.1.2.2.1, h1.1.2.2.2.1, h1.1.2.2.2.2.1, t⟩, h1.2⟩
theorem G3.eqv (h : G3 V) (e : ∀ k, k ≠ 17 → V' k = V k) (n : N5 V V') (t : 0 ≤ tm V' ∧ tm V' ≤ 9999) : G3 V' := by
  have ep := (N5_pgs n)
  have ea := fun k hk => at_eqv (V := V) (V' := V') e (k := k) hk
  have hv := h.1.eqv e n t
  obtain ⟨n1, n2, n3, n4, n5⟩ := n
  obtain ⟨h1, h2, h3⟩ := h
  have er : ∀ q x y, rawR V' q x y = rawR V q x y := fun q x y => by
    unfold rawR sumA sumB szA szB
    simp only [n1, n3, ea 0 (by decide), ea 6 (by decide), ea 12 (by decide), ea 13 (by decide)]
  have ec : ∀ s q, cov V' s q = cov V s q := fun s q => by
    unfold cov
    simp only [ea 11 (by decide), ea 7 (by decide)]
  have eo : ∀ q, coP V' q = coP V q := fun q => by
    unfold coP fOf
    simp only [n5, ea 14 (by decide)]
  have ev : ∀ x q, rivl V' x q = rivl V x q := fun x q => by
    unfold rivl anyA
    simp only [n1, ea 6 (by decide), ea 1 (by decide)]
  refine ⟨hv, ?_, ?_⟩
  · unfold Wf
    simp only [n1, n2, n3, ep, er, ec, ea 6 (by decide), ea 13 (by decide)]
    exact h2
  · unfold Flw
    simp only [n1, eo, ev, ea 2 (by decide), ea 3 (by decide), ea 6 (by decide)]
    exact h3
theorem up17 {j : Nat} : ∀ k, k ≠ 17 → (up W 17 j z) k = W k := fun k hk => by funext x; exact if_neg (fun q => hk q.1)
theorem N5_up {k j : Nat} (hk : k < 17) : N5 W (up W k j z) := ⟨nA_up hk, nS_up hk, nB_up hk, sg_up hk, pe_up hk⟩
theorem N5_up17 {j : Nat} (hj : 5 ≤ j) : N5 W (up W 17 j z) := ⟨if_neg (fun q => by omega), if_neg (fun q => by omega), if_neg (fun q => by omega), if_neg (fun q => by omega), if_neg (fun q => by omega)⟩
theorem N5.tr {V'' : Vw} (h : N5 V V') (h' : N5 V' V'') : N5 V V'' := ⟨h'.1.trans h.1, h'.2.1.trans h.2.1, h'.2.2.1.trans h.2.2.1, h'.2.2.2.1.trans h.2.2.2.1, h'.2.2.2.2.trans h.2.2.2.2⟩
theorem N5.sy (h : N5 V V') : N5 V' V := ⟨h.1.symm, h.2.1.symm, h.2.2.1.symm, h.2.2.2.1.symm, h.2.2.2.2.symm⟩
theorem tm_lo : tm (up W 17 6 z) = tm W := by unfold tm up; exact if_neg (by decide)
theorem lo_lo : lo_ (up W 17 6 z) = z := by unfold lo_ up; exact if_pos (by decide)
theorem tm_tm : tm (up W 17 5 z) = z := by unfold tm up; exact if_pos (by decide)
theorem lo_tm : lo_ (up W 17 5 z) = lo_ W := by unfold lo_ up; exact if_neg (by decide)
theorem Good.g3 (h : Good W) : G3 W := ⟨h.1, h.2.1, h.2.2.1⟩
theorem G3.tz (h : G3 W) : Good (up W 17 5 0) := by
  have q := h.eqv (V' := up W 17 5 0) up17 (N5_up17 (by decide)) (by
    have e : tm (up W 17 5 0) = 0 := tm_tm
    omega)
  refine ⟨q.1, q.2.1, q.2.2, fun x x1 x2 _ => ?_⟩
  have e : tm (up W 17 5 0) = 0 := tm_tm
  rw [e]
  have := (q.1.2.2.2.2 x x1 x2).2.2
  omega
theorem G3.step (h : G3 W) {k j : Nat} (hk : k < 17) (H : Good (up W 17 5 0) → Good (up (up W 17 5 0) k j z)) : G3 (up W k j z) := by
  refine (H h.tz).g3.eqv (fun k' hk' => ?_) (((N5_up hk).sy.tr (N5_up17 (z := 0) (by decide : 5 ≤ 5))).tr (N5_up hk)).sy (by rw [tm_up hk]; exact h.1.1.2.2.2.2.2)
  funext x
  show (if k' = k ∧ x = j then z else W k' x) = (if k' = k ∧ x = j then z else up W 17 5 0 k' x)
  rw [up17 k' hk']
theorem G3.setT (h : G3 W) (ht : 0 ≤ z ∧ z ≤ 9999) : G3 (up W 17 5 z) := h.eqv up17 (N5_up17 (by decide)) (by
    have e : tm (up W 17 5 z) = z := tm_tm
    omega)
theorem G3.setL (h : G3 W) : G3 (up W 17 6 z) := h.eqv up17 (N5_up17 (by decide)) (by rw [tm_lo]; exact h.1.1.2.2.2.2.2)
def fsB (W : Vw) (y : Int) : Int := fstR (fun b => decide (at_ W 13 b = 0 ∧ at_ W 12 b = y)) 0 (nB W).toNat
def adU (W : Vw) (a : Int) : Vw := up (up W 6 a.toNat 0) 17 6 (wr (lo_ W + at_ W 4 a))
def stS (f s : Int) (W : Vw) : Vw := if (laS W s && hasPg W s f) = true then up W 11 s.toNat 0 else W
def adS (p a : Int) (W : Vw) : Vw := if at_ W 6 a = p ∧ laA W a = true then (if fsB (adU W a) (at_ W 0 a) = -1 then adU W a else up (adU W a) 13 (fsB (adU W a) (at_ W 0 a)).toNat p) else W
def adN (W : Vw) (p i : Int) : Vw := itR (adS p) 0 i.toNat W
def pgS (f p : Int) (W : Vw) : Vw := if fOf W p = f then adN W p (nA W) else W
def stN (W : Vw) (f i : Int) : Vw := itR (stS f) 0 i.toNat W
def pgN (W : Vw) (f i : Int) : Vw := itR (pgS f) 1 (i - 1).toNat W
def clW (f : Int) (W : Vw) : Vw := up (pgN (stN W f (nS W)) f (pgs W + 1)) 15 f.toNat 1
theorem adN_s (hi : 0 ≤ i) : adN W p (i + 1) = adS p i (adN W p i) := by
  unfold adN
  rw [show (i + 1).toNat = i.toNat + 1 by omega, itR_snoc, show (0 : Int) + (i.toNat : Int) = i by omega]
theorem stN_s (hi : 0 ≤ i) : stN W f (i + 1) = stS f i (stN W f i) := by
  unfold stN
  rw [show (i + 1).toNat = i.toNat + 1 by omega, itR_snoc, show (0 : Int) + (i.toNat : Int) = i by omega]
theorem pgN_s (hi : 1 ≤ i) : pgN W f (i + 1) = pgS f i (pgN W f i) := by
  unfold pgN
  rw [show (i + 1 - 1).toNat = (i - 1).toNat + 1 by omega, itR_snoc, show (1 : Int) + ((i - 1).toNat : Int) = i by omega]
def Sm (V V' : Vw) : Prop := N5 V V' ∧ tm V' = tm V ∧ ∀ k, k ≠ 6 → k ≠ 11 → k ≠ 13 → k ≠ 17 → V' k = V k
theorem Sm.refl : Sm W W := ⟨⟨rfl, rfl, rfl, rfl, rfl⟩, rfl, fun _ _ _ _ _ => rfl⟩
theorem Sm.tr {V'' : Vw} (h : Sm V V') (h' : Sm V' V'') : Sm V V'' := ⟨h.1.tr h'.1, h'.2.1.trans h.2.1, fun k a b c d => (h'.2.2 k a b c d).trans (h.2.2 k a b c d)⟩
theorem Sm_up {k j : Nat} (hk : k = 6 ∨ k = 11 ∨ k = 13) : Sm W (up W k j z) := ⟨N5_up (by omega), tm_up (by omega), fun k' h1 h2 h3 _ => by funext x; exact if_neg (fun q => by omega)⟩
theorem Sm_lo : Sm W (up W 17 6 z) := ⟨N5_up17 (by decide), tm_lo, fun k' _ _ _ h => up17 k' h⟩
theorem Sm_at (h : Sm V V') {k : Nat} (h1 : k ≠ 6) (h2 : k ≠ 11) (h3 : k ≠ 13) (h4 : k ≠ 17) (x : Int) : at_ V' k x = at_ V k x := by unfold at_; rw [h.2.2 k h1 h2 h3 h4]
theorem Sm_pgs (h : Sm V V') : pgs V' = pgs V := N5_pgs h.1
theorem Sm_fOf (h : Sm V V') (q : Int) : fOf V' q = fOf V q := by unfold fOf; rw [h.1.2.2.2.2]
theorem adU_sm : Sm W (adU W a) := (Sm_up (.inl rfl)).tr Sm_lo
theorem adS_sm : Sm W (adS p a W) := by
  unfold adS
  split
  · split
    · exact adU_sm
    · exact adU_sm.tr (Sm_up (.inr (.inr rfl)))
  · exact Sm.refl
theorem stS_sm : Sm W (stS f s W) := by
  unfold stS
  split
  · exact Sm_up (.inr (.inl rfl))
  · exact Sm.refl
theorem itR_sm {F : Int → Vw → Vw} (h : ∀ j V, Sm V (F j V)) {n : Nat} : Sm W (itR F i n W) := itR_inv (f := F) (I := fun _ V => Sm W V) (fun j V _ _ hV => hV.tr (h j V)) Sm.refl
theorem adN_sm : Sm W (adN W p i) := itR_sm (fun _ _ => adS_sm)
theorem stN_sm : Sm W (stN W f i) := itR_sm (fun _ _ => stS_sm)
theorem pgS_sm : Sm W (pgS f p W) := by
  unfold pgS
  split
  · exact adN_sm
  · exact Sm.refl
theorem pgN_sm : Sm W (pgN W f i) := itR_sm (fun _ _ => pgS_sm)
theorem Good_repl (hG : Good V) (ha : 0 ≤ a ∧ a < nA V) (hp : 1 ≤ p ∧ p ≤ pgs V) (h6 : at_ V 6 a = p) (hb : 0 ≤ b ∧ b < nB V) (h13 : at_ V 13 b = 0) (h12 : at_ V 12 b = at_ V 0 a) : Good (up (up V 6 a.toNat 0) 13 b.toNat p) := by
  have g1 := Good_take hG ha
  have hV := hG.1
  have hV1 := g1.1
  have e6 : at_ (up V 6 a.toNat 0) 6 a = 0 := by rw [at_upe ha.1 ha.1, if_pos rfl]
  refine Good_setB g1 (by rw [nB_up (by decide)]; exact hb) (by rw [pgs_up (by decide)]; exact ⟨by omega, hp.2⟩) (.inr ⟨?_, ?_⟩)
  · rw [stOn_up (by decide) (by decide) (by decide)]
    rcases stOn_spec hV (p := p) (but := -1) with q | ⟨q1, q2, -, q3⟩
    · exact q.1
    · exact absurd h6 ((hG.2.1.2 _ q1 q2 p q3).1 a ha.1 ha.2)
  · have r1 := rawR_butB hV1 (p := p) (a := -1) (b := b) (by rw [nB_up (by decide)]; exact hb)
    have r2 := rawR_but hV1 (p := p) (a := a) (b := -1) (by rw [nA_up (by decide)]; exact ha)
    have r3 := rawR_but hV (p := p) (a := a) (b := -1) ha
    have r4 := hG.2.1.1 p hp.1 hp.2
    rw [rawR_setA ha.1, e6, if_neg (by omega)] at r2
    rw [at_upn (k' := 13) (by decide), h13, if_neg (by omega)] at r1
    rw [h6, if_pos rfl] at r3
    rw [at_upn (k' := 12) (by decide), h12]
    omega
theorem adU_13 : at_ (adU W a) 13 b = at_ W 13 b := by
  unfold adU
  rw [at_upn (by decide), at_upn (by decide)]
theorem adU_12 : at_ (adU W a) 12 b = at_ W 12 b := by
  unfold adU
  rw [at_upn (by decide), at_upn (by decide)]
theorem fsB_spec (hV : Val W) {y : Int} : fsB W y = -1 ∨ ((0 ≤ fsB W y ∧ fsB W y < nB W) ∧ at_ W 13 (fsB W y) = 0 ∧ at_ W 12 (fsB W y) = y) := by
  have b := hV.1.2.2.1
  rcases fstR_spec (p := fun b => decide (at_ W 13 b = 0 ∧ at_ W 12 b = y)) (n := (nB W).toNat) (i := 0) (Int.le_refl _) with q | q
  · exact .inl q.1
  · have q3 := of_decide_eq_true q.2.2.1
    exact .inr ⟨⟨q.1, by have := q.2.1; unfold fsB; omega⟩, q3⟩
theorem G3_adU (h : G3 W) (ha : 0 ≤ a ∧ a < nA W) : G3 (adU W a) := by
  unfold adU
  refine G3.setL (h.step (by decide) (fun hG => Good_take hG ?_))
  rw [(N5_up17 (W := W) (z := 0) (by decide : 5 ≤ 5)).1]; exact ha
theorem G3_adS (h : G3 W) (ha : 0 ≤ a ∧ a < nA W) (hp : 1 ≤ p ∧ p ≤ pgs W) : G3 (adS p a W) := by
  unfold adS
  split
  · rename_i c
    have hu := G3_adU h ha
    split
    · exact hu
    · rename_i d
      obtain ⟨x, hx⟩ : ∃ x, x = fsB (adU W a) (at_ W 0 a) := ⟨_, rfl⟩
      have q := (fsB_spec hu.1 (y := at_ W 0 a)).resolve_left d
      rw [← hx] at q ⊢
      rw [adU_13, adU_12, (adU_sm (W := W) (a := a)).1.2.2.1] at q
      have n0 := N5_up17 (W := W) (z := 0) (by decide : 5 ≤ 5)
      have gr := Good_repl (V := up W 17 5 0) (a := a) (b := x) (p := p) h.tz (by rw [n0.1]; exact ha) (by rw [(N5_pgs n0)]; exact hp) (by rw [at_upn (by decide)]; exact c.1) (by rw [n0.2.2.1]; exact q.1) (by rw [at_upn (by decide)]; exact q.2.1) (by rw [at_upn (by decide), at_upn (by decide)]; exact q.2.2)
      refine gr.g3.eqv (fun k hk => ?_) (((N5_up (by decide)).sy.tr ((N5_up (by decide)).sy.tr n0.sy)).tr (((adU_sm (W := W) (a := a)).1).tr (N5_up (by decide)))) (by rw [tm_up (by decide), (adU_sm (W := W) (a := a)).2.1]; exact h.1.1.2.2.2.2.2)
      funext y
      show (if k = 13 ∧ y = x.toNat then p else if k = 17 ∧ y = 6 then _ else if k = 6 ∧ y = a.toNat then 0 else W k y) = (if k = 13 ∧ y = x.toNat then p else if k = 6 ∧ y = a.toNat then 0 else if k = 17 ∧ y = 5 then 0 else W k y)
      rw [if_neg (c := k = 17 ∧ y = 6) (fun z => hk z.1), if_neg (c := k = 17 ∧ y = 5) (fun z => hk z.1)]
  · exact h
theorem G3_stS (h : G3 W) (hs : 0 ≤ s ∧ s < nS W) : G3 (stS f s W) := by
  unfold stS
  split
  · refine h.step (by decide) (fun hG => Good_setS hG ?_ (.inl rfl))
    rw [(N5_up17 (W := W) (z := 0) (by decide : 5 ≤ 5)).2.1]; exact hs
  · exact h
theorem G3_adN (h : G3 W) (hp : 1 ≤ p ∧ p ≤ pgs W) (hi : 0 ≤ i ∧ i ≤ nA W) : G3 (adN W p i) := by
  have q := itR_inv (f := adS p) (n := i.toNat) (i := 0) (s := W) (I := fun _ V => G3 V ∧ Sm W V) (fun j V j1 j2 hV => ⟨G3_adS hV.1 (by rw [hV.2.1.1]; omega) (by rw [Sm_pgs hV.2]; exact hp), hV.2.tr adS_sm⟩) ⟨h, Sm.refl⟩
  exact q.1
theorem G3_stN (h : G3 W) (hi : 0 ≤ i ∧ i ≤ nS W) : G3 (stN W f i) := by
  have q := itR_inv (f := stS f) (n := i.toNat) (i := 0) (s := W) (I := fun _ V => G3 V ∧ Sm W V) (fun j V j1 j2 hV => ⟨G3_stS hV.1 (by rw [hV.2.1.2.1]; omega), hV.2.tr stS_sm⟩) ⟨h, Sm.refl⟩
  exact q.1
theorem G3_pgS (h : G3 W) (hp : 1 ≤ p ∧ p ≤ pgs W) : G3 (pgS f p W) := by
  unfold pgS
  split
  · exact G3_adN h hp ⟨h.1.1.1.1, Int.le_refl _⟩
  · exact h
theorem G3_pgN (h : G3 W) (hi : 1 ≤ i ∧ i ≤ pgs W + 1) : G3 (pgN W f i) := by
  have q := itR_inv (f := pgS f) (n := (i - 1).toNat) (i := 1) (s := W) (I := fun _ V => G3 V ∧ Sm W V) (fun j V j1 j2 hV => ⟨G3_pgS hV.1 (by rw [Sm_pgs hV.2]; omega), hV.2.tr pgS_sm⟩) ⟨h, Sm.refl⟩
  exact q.1
theorem G3_clW (h : G3 W) (hf : 0 ≤ f ∧ f < frm W) : G3 (clW f W) := by
  have b := h.1.pg
  have bA := h.1.1
  have h1 := G3_stN h (f := f) (i := nS W) ⟨bA.2.1.1, Int.le_refl _⟩
  have s1 := stN_sm (W := W) (f := f) (i := nS W)
  have h2 := G3_pgN h1 (f := f) (i := pgs W + 1) ⟨by omega, by rw [Sm_pgs s1]; exact Int.le_refl _⟩
  unfold clW
  exact h2.step (by decide) (fun hG => Good_other hG hf.1 (.inr (.inr (.inr (.inl ⟨rfl, rfl⟩)))))
theorem clW_n : N5 W (clW f W) ∧ tm (clW f W) = tm W := by
  have s1 := stN_sm (W := W) (f := f) (i := nS W)
  have s2 := pgN_sm (W := stN W f (nS W)) (f := f) (i := pgs W + 1)
  have s3 := s1.tr s2
  unfold clW
  exact ⟨s3.1.tr (N5_up (by decide)), (tm_up (by decide)).trans s3.2.1⟩
theorem clW_at {k : Nat} (h1 : k ≠ 6) (h2 : k ≠ 11) (h3 : k ≠ 13) (h4 : k ≠ 17) (h5 : k ≠ 15) (x : Int) : at_ (clW f W) k x = at_ W k x := by
  have s1 := stN_sm (W := W) (f := f) (i := nS W)
  have s2 := pgN_sm (W := stN W f (nS W)) (f := f) (i := pgs W + 1)
  have s3 := s1.tr s2
  unfold clW
  rw [at_upn h5]
  exact Sm_at s3 h1 h2 h3 h4 x
theorem clW_15 (hf : 0 ≤ f) {x : Int} (hx : 0 ≤ x) : at_ (clW f W) 15 x = if x = f then 1 else at_ W 15 x := by
  have s1 := stN_sm (W := W) (f := f) (i := nS W)
  have s2 := pgN_sm (W := stN W f (nS W)) (f := f) (i := pgs W + 1)
  have s3 := s1.tr s2
  unfold clW
  rw [at_upe hx hf]
  split
  · rfl
  · exact Sm_at s3 (by decide) (by decide) (by decide) (by decide) x
end Close

