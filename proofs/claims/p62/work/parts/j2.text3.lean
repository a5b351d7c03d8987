/-! TEXTS: numbers written, texts read out -/
def dg (z : Int) : List Int := if z < 10 then [48 + z % 10] else if z < 100 then [48 + z / 10, 48 + z % 10] else [48 + z / 100, 48 + z / 10 % 10, 48 + z % 10]
theorem dg_len {z : Int} : (dg z).length = if z < 10 then 1 else if z < 100 then 2 else 3 := by
  unfold dg
  split
  · rfl
  · split <;> rfl
theorem dg_le {z : Int} : 1 ≤ (dg z).length ∧ (dg z).length ≤ 3 := by
  rw [dg_len]
  split
  · omega
  · split <;> omega
theorem dg_asc {z : Int} (h : 0 ≤ z ∧ z < 1000) : Asc (dg z) := fun w hw => by
  unfold dg at hw ⊢
  by_cases c : z < 10
  · rw [if_pos c] at hw ⊢
    have : w = 0 := by have e : ([48 + z % 10] : List Int).length = 1 := rfl; omega
    subst this
    show 0 ≤ 48 + z % 10 ∧ 48 + z % 10 ≤ 127
    omega
  · rw [if_neg c] at hw ⊢
    by_cases d : z < 100
    · rw [if_pos d] at hw ⊢
      have e : ([48 + z / 10, 48 + z % 10] : List Int).length = 2 := rfl
      have : w = 0 ∨ w = 1 := by omega
      rcases this with rfl | rfl
      · show 0 ≤ 48 + z / 10 ∧ 48 + z / 10 ≤ 127
        omega
      · show 0 ≤ 48 + z % 10 ∧ 48 + z % 10 ≤ 127
        omega
    · rw [if_neg d] at hw ⊢
      have e : ([48 + z / 100, 48 + z / 10 % 10, 48 + z % 10] : List Int).length = 3 := rfl
      have : w = 0 ∨ w = 1 ∨ w = 2 := by omega
      rcases this with rfl | rfl | rfl
      · show 0 ≤ 48 + z / 100 ∧ 48 + z / 100 ≤ 127
        omega
      · show 0 ≤ 48 + z / 10 % 10 ∧ 48 + z / 10 % 10 ≤ 127
        omega
      · show 0 ≤ 48 + z % 10 ∧ 48 + z % 10 ≤ 127
        omega
theorem ten_v : ∀ j : Nat, j < 100 → vI ((tenT (fun j => j % 10))[j]?) = some (48 + (j : Int) % 10) ∧ vI ((tenT (fun j => j / 10))[j]?) = some (48 + (j : Int) / 10) := by decide +kernel
section Nums
variable {S : St} {L L0 : List PC} {a r cap m e : Nat} {bs ts : List Int} {f : Nat → Int} {z : Int}
theorem lk_o : lk L (XB + 300 + 301) = some (101, tenT (fun j => j % 10)) := by
  have hn : nLit ≤ 100 := Nat.le_of_ble_eq_true rfl
  unfold lk
  rw [if_neg (by omega), if_neg (by omega), if_neg (by omega), if_neg (by omega), if_pos rfl]
theorem lk_t : lk L (XB + 300 + 302) = some (101, tenT (fun j => j / 10)) := by
  have hn : nLit ≤ 100 := Nat.le_of_ble_eq_true rfl
  unfold lk
  rw [if_neg (by omega), if_neg (by omega), if_neg (by omega), if_neg (by omega), if_neg (by omega), if_pos rfl]
theorem ones (h : 0 ≤ z ∧ z < 100) : ald L 1 (XB + 300 + 301) z = some (48 + z % 10) := by
  have q := (ten_v z.toNat (by omega)).1
  rw [Int.toNat_of_nonneg h.1] at q
  unfold ald ca
  rw [if_pos h.1]
  unfold cf
  rw [lk_o]
  show vI (if 101 = 100 + 1 then _ else none) = _
  rw [if_pos rfl, q]
theorem tens (h : 0 ≤ z ∧ z < 100) : ald L 1 (XB + 300 + 302) z = some (48 + z / 10) := by
  have q := (ten_v z.toNat (by omega)).2
  rw [Int.toNat_of_nonneg h.1] at q
  unfold ald ca
  rw [if_pos h.1]
  unfold cf
  rw [lk_t]
  show vI (if 101 = 100 + 1 then _ else none) = _
  rw [if_pos rfl, q]
theorem FU_s (k : Nat) (h : k ≤ 20) : ∃ n, FU = n + k := ⟨FU - k, by unfold FU; omega⟩
theorem k_intSz (h : 0 ≤ z ∧ z < 1000) : gn_Integer_stringSize z S L = some ((dg z).length : Int) := by
  obtain ⟨n, hn⟩ := FU_s 3 (by decide)
  have st : ∀ (n : Nat) (p i : Int), lo2_Integer_stringSize_16 (-z) 0 S L (n + 1) (p, i) = lb2_Integer_stringSize_16 (-z) 0 S L (lo2_Integer_stringSize_16 (-z) 0 S L n) p i := fun _ _ _ => rfl
  unfold gn_Integer_stringSize
  rw [if_neg (by omega), nm_x, wr_s (by omega) (by omega), hn, dg_len, st]
  unfold lb2_Integer_stringSize_16
  rw [if_neg (by decide)]
  by_cases c : z < 10
  · rw [if_neg (by omega), if_pos c]; rfl
  · rw [if_pos (by omega), if_neg c, nm_x, nm_x]
    show bnS (lo2_Integer_stringSize_16 (-z) 0 S L (n + 1 + 1) (-100, 2)) _ _ = _
    rw [st]
    unfold lb2_Integer_stringSize_16
    rw [if_neg (by decide)]
    by_cases d : z < 100
    · rw [if_neg (by omega), if_pos d]; rfl
    · rw [if_pos (by omega), if_neg d, nm_x, nm_x]
      show bnS (lo2_Integer_stringSize_16 (-z) 0 S L (n + 1) (-1000, 3)) _ _ = _
      rw [st]
      unfold lb2_Integer_stringSize_16
      rw [if_neg (by decide), if_neg (by omega)]; rfl
def putN (e : Nat) (xs : List Int) (f : Nat → Int) : Nat → Int := fun w => if e ≤ w + xs.length ∧ w < e then xs.getD (w + xs.length - e) 0 else f w
theorem gc_tail {K : List PC} {q : Int} {e' : Nat} (hr : RowY K r m f) (hq : 0 ≤ q ∧ q < 100) (he : e' ≤ m) (hl : (dg q).length ≤ e') (hm : m < 9000) (hz : 0 ≤ z ∧ z < 1000)
    (hlo : lo2_Integer_getChars_22 r 0 FU (-z, (e : Int), (S, L)) = some ((-q, (e' : Int), (S, K)), 0, 0)) :
    ∃ p L1, jf2_Integer_getChars_12 z r (e : Int) 0 S L = some ((p, (S, L1)), 0, 0) ∧ RowY L1 r m (putN e' (dg q) f) ∧ ∃ c, W1 K L1 r c := by
  have bo := byte_N (z := 48 + q % 10) (by omega)
  have bt := byte_N (z := 48 + q / 10) (by omega)
  obtain ⟨K1, e1, z1, c1, w1⟩ := hr.put (w := (e' : Int) + -1) (by have := (dg_le (z := q)).1; omega) (48 + q % 10)
  have hd := dg_len (z := q)
  unfold jf2_Integer_getChars_12
  rw [if_pos rfl, nm_x, wr_s (z := -z) (by omega) (by omega), hlo, bnO_s]
  dsimp only
  by_cases c : q < 10
  · have ed : dg q = [48 + q % 10] := if_pos c
    rw [if_pos c] at hd
    refine ⟨(e' : Int) + -1, K1, ?_, z1.eq (fun w hw => ?_), c1, w1⟩
    · rw [nm_x, wr_s (z := (e' : Int) + -1) (by omega) (by omega), nm_x, Int.neg_neg, wr_s (z := q) (by omega) (by omega), ones hq, bnO_s, bo, e1, bnO_s, if_pos (by omega), if_pos rfl]
      rfl
    · show (if w = ((e' : Int) + -1).toNat then 48 + q % 10 else f w) = putN e' (dg q) f w
      unfold putN
      by_cases d : w = ((e' : Int) + -1).toNat
      · rw [if_pos d, if_pos (by omega), hd, ed, show w + 1 - e' = 0 by omega]; rfl
      · rw [if_neg d, if_neg (by omega)]
  · rw [if_neg c, if_pos hq.2] at hd
    have ed : dg q = [48 + q / 10, 48 + q % 10] := by unfold dg; rw [if_neg c, if_pos hq.2]
    obtain ⟨K2, e2, z2, c2, w2⟩ := z1.put (w := (e' : Int) + -1 + -1) (by omega) (48 + q / 10)
    refine ⟨(e' : Int) + -1 + -1, K2, ?_, z2.eq (fun w hw => ?_), c2, w1.trans w2⟩
    · rw [nm_x, wr_s (z := (e' : Int) + -1) (by omega) (by omega), nm_x, Int.neg_neg, wr_s (z := q) (by omega) (by omega), ones hq, bnO_s, bo, e1, bnO_s, if_neg (by omega), nm_x, wr_s (z := (e' : Int) + -1 + -1) (by omega) (by omega), nm_x, tens hq, bnO_s, bt, e2, bnO_s, if_pos rfl]
      rfl
    · show (if w = ((e' : Int) + -1 + -1).toNat then 48 + q / 10 else if w = ((e' : Int) + -1).toNat then 48 + q % 10 else f w) = putN e' (dg q) f w
      unfold putN
      by_cases d : w = ((e' : Int) + -1 + -1).toNat
      · rw [if_pos d, if_pos (by omega), hd, ed, show w + 2 - e' = 0 by omega]; rfl
      · rw [if_neg d]
        by_cases d2 : w = ((e' : Int) + -1).toNat
        · rw [if_pos d2, if_pos (by omega), hd, ed, show w + 2 - e' = 1 by omega]; rfl
        · rw [if_neg d2, if_neg (by omega)]
theorem k_getChars (hr : RowY L r m f) (h : 0 ≤ z ∧ z < 1000) (he : e ≤ m) (hl : (dg z).length ≤ e) (hm : m < 9000) : ∃ p L1, gn_Integer_getChars z (e : Int) r S L = some ((p, (S, L1)), 0, 0) ∧ RowY L1 r m (putN e (dg z) f) ∧ ∃ c, W1 L L1 r c := by
  obtain ⟨n, hn⟩ := FU_s 2 (by decide)
  have st : ∀ (n : Nat) (p i : Int) (S : St) (L : List PC), lo2_Integer_getChars_22 r 0 (n + 1) (p, i, (S, L)) = lb2_Integer_getChars_22 r 0 (lo2_Integer_getChars_22 r 0 n) p i S L := fun _ _ _ _ _ => rfl
  have s0 : ∀ (n : Nat) (q : Int) (i : Int) (L : List PC), q < 100 → lo2_Integer_getChars_22 r 0 (n + 1) (-q, i, (S, L)) = some ((-q, i, (S, L)), 0, 0) := fun n q i L hq => by
    rw [st]
    unfold lb2_Integer_getChars_22
    rw [if_pos (by omega)]
  unfold gn_Integer_getChars
  rw [if_pos h.1]
  by_cases c : z < 100
  · exact gc_tail hr ⟨h.1, c⟩ he hl hm h (by rw [hn]; exact s0 _ z _ _ c)
  · have hd : (dg z).length = 3 := by rw [dg_len, if_neg (by omega), if_neg c]
    have ed : dg z = [48 + z / 100, 48 + z / 10 % 10, 48 + z % 10] := by unfold dg; rw [if_neg (by omega), if_neg c]
    have eq1 : (-z).tdiv 100 = -(z / 100) := by rw [Int.neg_tdiv, Int.tdiv_eq_ediv_of_nonneg h.1]
    have hv : 0 ≤ z % 100 ∧ z % 100 < 100 := by omega
    obtain ⟨K1, e1, z1, c1, w1⟩ := hr.put (w := (e : Int) + -1) (by omega) (48 + z % 100 % 10)
    obtain ⟨K2, e2, z2, c2, w2⟩ := z1.put (w := (e : Int) + -1 + -1) (by omega) (48 + z % 100 / 10)
    have hlo : lo2_Integer_getChars_22 r 0 FU (-z, (e : Int), (S, L)) = some ((-(z / 100), ((e - 2 : Nat) : Int), (S, K2)), 0, 0) := by
      rw [hn, st]
      unfold lb2_Integer_getChars_22
      rw [if_neg (by omega), eq1, nm_x, wr_s (z := -(z / 100)) (by omega) (by omega), nm_x, show -(z / 100) * 100 - -z = z % 100 by omega, wr_s (z := z % 100) (by omega) (by omega), nm_x, wr_s (z := (e : Int) + -1) (by omega) (by omega), ones hv, bnO_s, byte_N (by omega), e1, bnO_s, nm_x, wr_s (z := (e : Int) + -1 + -1) (by omega) (by omega), tens hv, bnO_s, byte_N (by omega), e2, bnO_s, s0 n (z / 100) _ _ (by omega), show (e : Int) + -1 + -1 = ((e - 2 : Nat) : Int) by omega]
    have hd2 : dg (z / 100) = [48 + z / 100 % 10] := if_pos (by omega)
    have hl2 : (dg (z / 100)).length = 1 := by rw [hd2]; rfl
    obtain ⟨p, L1, y1, y2, c3, y3⟩ := gc_tail (q := z / 100) z2 (by omega) (e' := e - 2) (by omega) (by omega) hm h hlo
    refine ⟨p, L1, y1, y2.eq (fun w hw => ?_), c3, (w1.trans w2).trans y3⟩
    unfold putN
    rw [hl2, hd]
    by_cases d : e - 2 ≤ w + 1 ∧ w < e - 2
    · rw [if_pos d, if_pos (by omega), hd2, ed, show w + 1 - (e - 2) = 0 by omega, show w + 3 - e = 0 by omega]
      show 48 + z / 100 % 10 = 48 + z / 100
      omega
    · rw [if_neg d]
      show (if w = ((e : Int) + -1 + -1).toNat then 48 + z % 100 / 10 else if w = ((e : Int) + -1).toNat then 48 + z % 100 % 10 else f w) = _
      by_cases d2 : w = ((e : Int) + -1 + -1).toNat
      · rw [if_pos d2, if_pos (by omega), ed, show w + 3 - e = 1 by omega]
        show _ = 48 + z / 10 % 10
        omega
      · rw [if_neg d2]
        by_cases d3 : w = ((e : Int) + -1).toNat
        · rw [if_pos d3, if_pos (by omega), ed, show w + 3 - e = 2 by omega]
          show _ = 48 + z % 10
          omega
        · rw [if_neg d3, if_neg (by omega)]
/-- a number behind it -/
theorem k_sbApp2 (h : SbH L a r cap bs) (hz : 0 ≤ z ∧ z < 1000) (hn : bs.length + (dg z).length < 4000) (hcap : cap < 4000) (hL : L.length < 700000000) (hs : Sf F0_ L0 L) (ha : nCell + L0.length ≤ a) (hr : nCell + L0.length ≤ r) :
    ∃ L1 r1, gn_SB_append2 a z S L = some ((Value.ref a, (S, L1)), gwC cap (bs.length + (dg z).length), gwS cap (bs.length + (dg z).length)) ∧ SbH L1 a r1 (ncS cap (bs.length + (dg z).length)) (bs ++ dg z) ∧ Sf F0_ L0 L1 ∧ L1.length = L.length + gwC cap (bs.length + (dg z).length) ∧ nCell + L0.length ≤ r1 := by
  have hk := h.k
  have hsh := h
  have da := dg_asc hz
  obtain ⟨⟨p1, p2, p3⟩, ⟨v2, q⟩, -⟩ := hsh
  obtain ⟨L2, r2, e1, h2, s2, l2, hr2⟩ := k_ensure (S := S) (F := F0_) h hn hcap (by omega) hs (.inr ha)
  have hr2' : nCell + L0.length ≤ r2 := by have := hs.1; omega
  have hk2 := h2.k
  obtain ⟨⟨g1, g2, g3⟩, ⟨v3, g4⟩, f, y1, y2, y3⟩ := h2
  have nle := ncS_le (cap := cap) (need := bs.length + (dg z).length)
  obtain ⟨pp, L3, e2, z3, cc, w3⟩ := k_getChars (S := S) (e := bs.length + (dg z).length) y1 hz nle.1 (by omega) (by omega)
  have hne : r2 ≠ a := by
    obtain ⟨v9, y9, -⟩ := y1
    exact hp_ne y9 g4 (by decide)
  have g5 : hp L3 a = some (15, [Value.ref r2, V 0, v3, V bs.length]) := by rw [w3.ne hne.symm]; exact g4
  obtain ⟨L4, e3, w4⟩ := pf_s g5 (f := 3) (Nat.le_of_ble_eq_true rfl) (V ((bs.length + (dg z).length : Nat) : Int))
  have eLen : (bs ++ dg z).length = bs.length + (dg z).length := List.length_append
  refine ⟨L4, r2, ?_, ⟨⟨p1.app da, by rw [eLen]; exact nle.1, g3⟩, ⟨v3, by rw [eLen]; exact w4.at⟩, _, z3.w1 w4 hne, fun w hw => ?_, fun w hw => ?_⟩, (s2.w w3 (.inr hr2')).w w4 (.inr ha), by rw [w4.1, w3.1, l2], hr2'⟩
  · unfold gn_SB_append2 gn_ASB_append2
    rw [if_pos hk, gfI_s q (f := 3) rfl (len_in2 (by omega)), bnO_s, k_intSz hz, bnO_s, nm_x, wr_s (by omega) (by omega), if_pos hk, show (bs.length : Int) + ((dg z).length : Int) = ((bs.length + (dg z).length : Nat) : Int) by omega, e1, bnO_s]
    dsimp only
    have el : gn_ASB_isLatin1 a S L2 = some true := by
      unfold gn_ASB_isLatin1
      rw [gfI_s g4 (f := 1) rfl inR_0, bnO_s, if_pos rfl]
    rw [if_pos hk2, el, bnO_s, if_pos rfl, gfV_s g4 (f := 0) rfl, bnO_s, rfB_r, e2, bnO_s]
    dsimp only
    rw [e3, bnO_s]
    show some ((Value.ref a, (S, L4)), 0 + (0 + 0 + gwC cap (bs.length + (dg z).length)), 0 + (0 + 0 + gwS cap (bs.length + (dg z).length))) = _
    simp only [Nat.zero_add]
  · unfold putN
    by_cases d : bs.length + (dg z).length ≤ w + (dg z).length ∧ w < bs.length + (dg z).length
    · rw [if_pos d]; exact da _ (by omega)
    · rw [if_neg d]; exact y2 w hw
  · rw [eLen] at hw
    unfold putN
    rw [getD_ap]
    by_cases d : w < bs.length
    · rw [if_neg (by omega), if_pos d]; exact y3 w d
    · rw [if_pos (by omega), if_neg d, show w + (dg z).length - (bs.length + (dg z).length) = w - bs.length by omega]
theorem st_far {t rr : Nat} {vs : List Value} {G : Nat → Prop} (h : hp L t = some (16, vs)) (h0 : vs[0]? = some (Value.ref rr)) (h1 : vs[1]? = some (V 0)) (hy : RowY L rr bs.length (fun w => bs.getD w 0)) (ha : Asc bs) (hl : bs.length < 5000) (g1 : ¬ G t) (g2 : ¬ G rr) : ∀ K, Sf G L K → StH K t bs := fun K hK => by
  have q := hK.at h g1
  obtain ⟨ws, y1, y2, y3⟩ := hy
  exact ⟨⟨hp_n0 q, ha, hl⟩, rr, vs, lk_hp q, h0, h1, RowY.lk ⟨ws, hK.at y1 g2, y2, y3⟩⟩
/-- the text read out -/
theorem k_sbStr (h : SbH L a r cap bs) (hn : bs.length < 5000) (hL : L.length < 700000000) (hs : Sf F0_ L0 L) :
    ∃ L1, gn_SB_toString a S L = some ((Value.ref (nCell + L.length), (S, L1)), 2, 4 + bs.length) ∧ (∀ K, Sf (fun b => b < nCell + L.length) L1 K → StH K (nCell + L.length) bs) ∧ Sf F0_ L0 L1 ∧ L1.length = L.length + 2 := by
  have n0 := N1.of (L := L) (c := (16, dfl 16)) (by omega)
  have l0 : (L ++ [(16, dfl 16)]).length = L.length + 1 := n0.2.1
  have hlt := h
  obtain ⟨⟨p1, p2, p3⟩, ⟨v2, q⟩, f, y1, y2, y3⟩ := hlt
  have qlt := hp_lt q
  have q1 : hp (L ++ [(16, dfl 16)]) a = some (15, [Value.ref r, V 0, v2, V bs.length]) := by rw [n0.2.2, if_neg (by omega)]; exact q
  have hk1 : isK (L ++ [(16, dfl 16)]) a 15 = true := isK_s q1 (by decide)
  have yr : RowY (L ++ [(16, dfl 16)]) r cap f := y1.sf0 n0.sf0
  obtain ⟨L2, e2, w2⟩ := pf_s n0.at (f := 1) (Nat.le_of_ble_eq_true rfl) (V 0)
  have hrn : r ≠ nCell + L.length := by have := y1.lt; omega
  have yr2 := yr.w1 w2 hrn
  have el := yr2.lk.len_ (by omega)
  have hle := hs.1
  unfold gn_SB_toString gn_String_init gn_String_init2 gn_ASB_getValue gn_SB_length gn_ASB_length gn_ASB_isLatin1 gn_Ars_copyOfRange
  rw [if_pos (by omega), nw_x, if_pos hk1, gfV_s q1 (f := 0) rfl, bnO_s, bnO_s, if_pos hk1, if_pos hk1, gfI_s q1 (f := 3) rfl (len_in2 (by omega)), bnO_s, bnO_s, bnO_s, if_pos hk1, gfI_s q1 (f := 1) rfl inR_0, bnO_s, if_pos rfl, bnO_s, if_pos rfl, e2, bnO_s, rfB_r, if_pos rfl, el, bnO_s]
  by_cases c : bs.length = cap
  · obtain ⟨vs, e3, c1, c2, c3⟩ := cln_y yr2 y2
    have n3 := N1.of (L := L2) (c := (101, vs)) (by rw [w2.1, l0]; omega)
    have ea : nCell + L2.length = nCell + L.length + 1 := by rw [w2.1, l0]; omega
    rw [ea] at n3
    have h4 : hp (L2 ++ [(101, vs)]) (nCell + L.length) = some (16, (dfl 16).set 1 (V 0)) := by rw [n3.2.2, if_neg (by omega)]; exact w2.at
    obtain ⟨L5, e5, w5⟩ := pf_s h4 (f := 0) (Nat.le_of_ble_eq_true rfl) (Value.ref (nCell + L.length + 1))
    have yl : RowY L5 (nCell + L.length + 1) bs.length (fun w => bs.getD w 0) := by
      have y0 : RowY (L2 ++ [(101, vs)]) (nCell + L.length + 1) bs.length (fun w => bs.getD w 0) := ⟨vs, n3.at, by omega, fun w hw => by rw [c3 w (by omega), y3 w hw]⟩
      exact y0.w1 w5 (by omega)
    refine ⟨L5, ?_, st_far w5.at rfl rfl yl p1 hn (by omega) (by omega), (((hs.n n0).w w2 (.inr (by omega))).n n3).w w5 (.inr (by omega)), by rw [w5.1, n3.2.1, w2.1, l0]⟩
    rw [if_pos (by omega), e3, bnO_s, if_pos (by rw [w2.1, l0]; omega), nw_x, ea, if_pos (isA_s (t := 1) n3.at)]
    show adC 1 4 (bnO (bnO (adC (0 + vs.length * 0 + 1) (0 + vs.length) (bnO (pf (L2 ++ [(101, vs)]) (nCell + L.length) 16 0 (Value.ref (nCell + L.length + 1))) _)) _) _) = _
    rw [e5]
    show some ((Value.ref (nCell + L.length), (S, L5)), 0 + (0 + (0 + (0 + vs.length * 0 + 1))) + 1, 0 + (0 + (0 + (0 + vs.length))) + 4) = _
    rw [c2, Nat.mul_zero]
    simp only [Nat.zero_add]
    rw [Nat.add_comm cap 4, c]
  · unfold gn_Ars_copyOfRangeByte gn_Ars_checkLength
    obtain ⟨n3, z3⟩ := RowY.new (K := L2) (m := bs.length) (by rw [w2.1, l0]; omega)
    have ea : nCell + L2.length = nCell + L.length + 1 := by rw [w2.1, l0]; omega
    rw [ea] at n3 z3
    have yr3 := yr2.sf0 n3.sf0
    obtain ⟨L4, e4, z4, cc, w4⟩ := cpB_y (y := 0) (z := bs.length) yr3.lk z3 p2 (by omega) y2
    have h4 : hp L4 (nCell + L.length) = some (16, (dfl 16).set 1 (V 0)) := by rw [w4.ne (by omega), n3.2.2, if_neg (by omega)]; exact w2.at
    obtain ⟨L5, e5, w5⟩ := pf_s h4 (f := 0) (Nat.le_of_ble_eq_true rfl) (Value.ref (nCell + L.length + 1))
    have yl : RowY L5 (nCell + L.length + 1) bs.length (fun w => bs.getD w 0) := (z4.w1 w5 (by omega)).eq (fun w hw => by
      rw [if_pos (by omega)]
      exact y3 w hw)
    have el3 := yr3.lk.len_ (by omega)
    have emin : i_min (cap : Int) (bs.length : Int) = (bs.length : Int) := by unfold i_min; split <;> omega
    refine ⟨L5, ?_, st_far w5.at rfl rfl yl p1 hn (by omega) (by omega), ((((hs.n n0).w w2 (.inr (by omega))).n n3).w w4 (.inr (by omega))).w w5 (.inr (by omega)), by rw [w5.1, w4.1, n3.2.1, w2.1, l0]⟩
    rw [if_neg (by omega), if_pos (by omega), bnO_s, nm_x, Int.sub_zero, wr_s (by omega) (by omega), if_pos (by omega), if_pos (by rw [w2.1, l0]; omega), Int.toNat_natCast, nw_x, ea, el3, bnO_s, nm_x, Int.sub_zero, wr_s (by omega) (by omega), emin, show cpB (L2 ++ [(101, List.replicate bs.length (Value.int 0))]) r 0 (nCell + L.length + 1) 0 (bs.length : Int) = some L4 from e4, bnO_s]
    show adC 1 4 (bnO (bnO (adC (0 + (0 + 1)) (0 + (0 + bs.length)) (bnO (pf L4 (nCell + L.length) 16 0 (Value.ref (nCell + L.length + 1))) _)) _) _) = _
    rw [e5]
    show some ((Value.ref (nCell + L.length), (S, L5)), 0 + (0 + (0 + (0 + (0 + 1)))) + 1, 0 + (0 + (0 + (0 + (0 + bs.length)))) + 4) = _
    simp only [Nat.zero_add]
    rw [Nat.add_comm bs.length 4]
end Nums
