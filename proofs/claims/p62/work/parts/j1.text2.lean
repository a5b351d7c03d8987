/-! TEXTS: appended, and made -/
/-- the room after growing, and its price -/
def ncS (cap need : Nat) : Nat := if need ≤ cap then cap else if need - cap < cap + 2 then 2 * cap + 2 else need
def gwS (cap need : Nat) : Nat := if need ≤ cap then 0 else ncS cap need
def gwC (cap need : Nat) : Nat := if need ≤ cap then 0 else 1
section Grow
variable {S : St} {L L0 : List PC} {a r cap : Nat} {bs ts : List Int} {F : Nat → Prop}
theorem ncS_le {cap need : Nat} : need ≤ ncS cap need ∧ cap ≤ ncS cap need ∧ ncS cap need ≤ cap + need + cap + 2 := by
  unfold ncS
  split
  · omega
  · split <;> omega
theorem k_ensure (h : SbH L a r cap bs) {need : Nat} (hn : need < 4000) (hcap : cap < 4000) (hL : L.length < 800000000) (hs : Sf F L0 L) (ha : F a ∨ nCell + L0.length ≤ a) :
    ∃ L1 r1, gn_ASB_ensureCapacityInternal a (need : Int) S L = some ((S, L1), gwC cap need, gwS cap need) ∧ SbH L1 a r1 (ncS cap need) bs ∧ Sf F L0 L1 ∧ L1.length = L.length + gwC cap need ∧ (r1 = r ∨ r1 = nCell + L.length) := by
  have hk := h.k
  obtain ⟨⟨p1, p2, p3⟩, ⟨v2, q⟩, f, y1, y2, y3⟩ := h
  have el : LkY L r cap f := y1.lk
  have i0 : i_shr (cap : Int) 0 = cap := shr0 (len_in2 (by omega))
  unfold gn_ASB_ensureCapacityInternal
  rw [gfV_s q (f := 0) rfl, bnO_s, rfB_r, el.len_ (by omega), bnO_s, gfI_s q (f := 1) rfl inR_0, bnO_s, nm_x, i0, wr_s (z := (need : Int) - cap) (by omega) (by omega)]
  by_cases c : need ≤ cap
  · rw [if_pos (by omega)]
    have e1 : ncS cap need = cap := if_pos c
    have e2 : gwS cap need = 0 := if_pos c
    have e3 : gwC cap need = 0 := if_pos c
    rw [e1, e2, e3]
    exact ⟨L, r, rfl, ⟨⟨p1, p2, p3⟩, ⟨v2, q⟩, f, y1, y2, y3⟩, hs, rfl, .inl rfl⟩
  · have e3 : gwC cap need = 1 := if_neg c
    have e2 : gwS cap need = ncS cap need := if_neg c
    obtain ⟨nc, hnc⟩ : ∃ nc, nc = ncS cap need := ⟨_, rfl⟩
    have enc : nc = if need - cap < cap + 2 then 2 * cap + 2 else need := by rw [hnc]; exact if_neg c
    have nb : need ≤ nc ∧ cap + 2 ≤ nc ∧ nc < 9000 := by rw [enc]; split <;> omega
    rw [e2, e3, ← hnc]
    have ecap : gn_ASB_newCapacity a (need : Int) S L = some (nc : Int) := by
      unfold gn_ASB_newCapacity gn_ArS_newLength
      have s0 : i_shl (need : Int) 0 = need := shl0 (len_in2 (by omega))
      have s2 : i_shl 2 0 = 2 := shl0 (inRk rfl)
      rw [gfV_s q (f := 0) rfl, bnO_s, rfB_r, el.len_ (by omega), bnO_s, gfI_s q (f := 1) rfl inR_0, bnO_s, nm_x, s0, bnO_s, nm_x, s2, wr_s (z := (need : Int) - cap) (by omega) (by omega), wr_s (z := (cap : Int) + 2) (by omega) (by omega), nm_x]
      have em : (cap : Int) + i_max ((need : Int) - cap) ((cap : Int) + 2) = (nc : Int) := by
        unfold i_max
        rw [enc]
        split <;> split <;> omega
      rw [em, wr_s (by omega) (by omega), if_neg (by omega), if_neg (by omega), bnO_s, if_neg (by omega), bnO_s, shr0 (len_in2 (by omega))]
    obtain ⟨n1, z1⟩ := RowY.new (K := L) (m := nc) (by omega)
    have l1 : (L ++ [(101, List.replicate nc (Value.int 0))]).length = L.length + 1 := n1.2.1
    obtain ⟨L2, e4, z2, cc, w2⟩ := cpB_y (L := L ++ [(101, List.replicate nc (Value.int 0))]) (y := 0) (z := cap) (el.sf0 n1.sf0) z1 (Nat.le_refl _) (by omega) y2
    have hra : nCell + L.length ≠ a := by have := hp_lt q; omega
    have q2 : hp L2 a = some (15, [Value.ref r, V 0, v2, V bs.length]) := by rw [w2.ne hra.symm]; exact n1.sf0.at0 q
    obtain ⟨L3, e5, w3⟩ := pf_s q2 (f := 0) (Nat.le_of_ble_eq_true rfl) (Value.ref (nCell + L.length))
    have s0 : i_shl (nc : Int) 0 = nc := shl0 (len_in2 (by omega))
    have emin : i_min (cap : Int) (nc : Int) = (cap : Int) := by unfold i_min; rw [if_neg (by omega)]
    have hsl : nCell + L0.length ≤ nCell + L.length := by have := hs.1; omega
    refine ⟨L3, nCell + L.length, ?_, ⟨⟨p1, by omega, by omega⟩, ⟨v2, w3.at⟩, _, z2.w1 w3 hra, fun w hw => ?_, fun w hw => ?_⟩, ((hs.n n1).w w2 (.inr hsl)).w w3 ha, by rw [w3.1, w2.1, l1], .inr rfl⟩
    · rw [if_neg (by omega), bnO_s, if_pos hk, ecap, bnO_s, bnO_s, rfB_r, s0]
      unfold gn_Ars_copyOf3
      rw [el.len_ (by omega), bnO_s, if_neg (by omega), if_pos (by omega), if_pos (by omega), Int.toNat_natCast, nw_x, (el.sf0 n1.sf0).len_ (by omega), bnO_s, emin]
      have e4' : cpB (L ++ [(101, List.replicate nc (Value.int 0))]) r 0 (nCell + L.length) 0 (cap : Int) = some L2 := e4
      rw [e4', bnO_s]
      show bnO (some ((Value.ref (nCell + L.length), (S, L2)), 0 + 1, 0 + nc)) _ = _
      rw [bnO_s]
      show adC (0 + 1) (0 + nc) (bnO (pf L2 a 15 0 (Value.ref (nCell + L.length))) _) = _
      rw [e5]
      show some ((S, L3), 0 + (0 + 1), 0 + (0 + nc)) = _
      simp only [Nat.zero_add]
    · show 0 ≤ (if 0 ≤ w ∧ w < 0 + cap then f (w - 0) else 0) ∧ (if 0 ≤ w ∧ w < 0 + cap then f (w - 0) else 0) ≤ 127
      by_cases d : 0 ≤ w ∧ w < 0 + cap
      · rw [if_pos d]; exact y2 _ (by omega)
      · rw [if_neg d]; omega
    · show (if 0 ≤ w ∧ w < 0 + cap then f (w - 0) else 0) = _
      rw [if_pos (by omega)]
      exact y3 w hw
theorem getD_ap {xs ys : List Int} {w : Nat} : (xs ++ ys).getD w 0 = if w < xs.length then xs.getD w 0 else ys.getD (w - xs.length) 0 := by
  rw [List.getD_eq_getElem?_getD]
  by_cases c : w < xs.length
  · rw [if_pos c, List.getElem?_append_left c, List.getD_eq_getElem?_getD]
  · rw [if_neg c, List.getElem?_append_right (by omega), List.getD_eq_getElem?_getD]
theorem Asc.app (h : Asc bs) (h' : Asc ts) : Asc (bs ++ ts) := fun w hw => by
  rw [getD_ap]
  rw [List.length_append] at hw
  by_cases c : w < bs.length
  · rw [if_pos c]; exact h w c
  · rw [if_neg c]; exact h' (w - bs.length) (by omega)
/-- a text behind it -/
theorem k_sbAppF (h : SbH L a r cap bs) {c : Nat} (hc : ∀ K, Sf F L0 K → StH K c ts) (hn : bs.length + ts.length < 4000) (hcap : cap < 4000) (hL : L.length < 700000000) (hs : Sf F L0 L) (ha : F a ∨ nCell + L0.length ≤ a) (hr : F r ∨ nCell + L0.length ≤ r) :
    ∃ L1 r1, gn_SB_append a c S L = some ((Value.ref a, (S, L1)), gwC cap (bs.length + ts.length), gwS cap (bs.length + ts.length)) ∧ SbH L1 a r1 (ncS cap (bs.length + ts.length)) (bs ++ ts) ∧ Sf F L0 L1 ∧ L1.length = L.length + gwC cap (bs.length + ts.length) ∧ (F r1 ∨ nCell + L0.length ≤ r1) := by
  have hk := h.k
  have hcL := hc L hs
  have hsh := h
  obtain ⟨⟨p1, p2, p3⟩, ⟨v2, q⟩, -⟩ := hsh
  obtain ⟨L2, r2, e1, h2, s2, l2, hr2⟩ := k_ensure (S := S) h hn hcap (by omega) hs ha
  have hr2' : F r2 ∨ nCell + L0.length ≤ r2 := by
    rcases hr2 with e | e
    · rw [e]; exact hr
    · have := hs.1
      exact .inr (by omega)
  have hk2 := h2.k
  have hc2 := hc L2 s2
  have ek := k_strLen (S := S) hcL
  have hkc2 := hc2.k
  obtain ⟨⟨g1, g2, g3⟩, ⟨v3, g4⟩, f, y1, y2, y3⟩ := h2
  obtain ⟨⟨c0, c1, c2⟩, rc, vs, d1, d2, d3, d4⟩ := hc2
  have nle := ncS_le (cap := cap) (need := bs.length + ts.length)
  obtain ⟨L3, e2, z3, cc, w3⟩ := cpB_y (y := bs.length) (z := ts.length) d4 y1 (Nat.le_refl _) nle.1 (fun w hw => c1 w hw)
  have hne : r2 ≠ a := by
    obtain ⟨v9, y9, -⟩ := y1
    exact hp_ne y9 g4 (by decide)
  have g5 : hp L3 a = some (15, [Value.ref r2, V 0, v3, V bs.length]) := by rw [w3.ne hne.symm]; exact g4
  obtain ⟨L4, e3, w4⟩ := pf_s g5 (f := 3) (Nat.le_of_ble_eq_true rfl) (V ((bs.length : Int) + ts.length))
  have eLen : ((bs ++ ts).length : Int) = (bs.length : Int) + ts.length := by rw [List.length_append]; omega
  refine ⟨L4, r2, ?_, ⟨⟨p1.app c1, by rw [List.length_append]; exact nle.1, g3⟩, ⟨v3, by rw [eLen]; exact w4.at⟩, _, z3.w1 w4 hne, fun w hw => ?_, fun w hw => ?_⟩, (s2.w w3 hr2').w w4 ha, by rw [w4.1, w3.1, l2], hr2'⟩
  · have s0 : i_shl (bs.length : Int) 0 = bs.length := shl0 (len_in2 (by omega))
    have ep : gn_ASB_putStringAt a (bs.length : Int) c S L2 = some ((S, L3), 0, 0) := by
      have eb : gn_String_getBytes c r2 (bs.length : Int) 0 S L2 = some ((S, L3), 0, 0) := by
        unfold gn_String_getBytes gn_String_coder
        rw [if_pos hkc2, gfI_lk d1 d3 inR_0, bnO_s, if_pos (by decide), bnO_s, if_pos rfl, gfV_lk d1 d2, bnO_s, bnO_s, rfB_r, d4.len_ (by omega), bnO_s, rfB_r, s0, e2, bnO_s]
      have ei : gn_ASB_inflateIfNeededFor a c S L2 = some () := by
        unfold gn_ASB_inflateIfNeededFor gn_String_coder
        rw [gfI_s g4 (f := 1) rfl inR_0, bnO_s, if_pos hkc2, gfI_lk d1 d3 inR_0, bnO_s, if_pos (by decide), bnO_s, if_pos rfl]
      unfold gn_ASB_putStringAt
      rw [if_pos hk2, ei, bnO_s, gfV_s g4 (f := 0) rfl, bnO_s, gfI_s g4 (f := 1) rfl inR_0, bnO_s, rfB_r, if_pos hkc2, eb, bnO_s]
      rfl
    unfold gn_SB_append gn_ASB_append
    rw [if_pos hk, if_pos hcL.k, ek, bnO_s, gfI_s q (f := 3) rfl (len_in2 (by omega)), bnO_s, nm_x, wr_s (by omega) (by omega), if_pos hk, show (bs.length : Int) + (ts.length : Int) = ((bs.length + ts.length : Nat) : Int) by omega, e1, bnO_s]
    dsimp only
    rw [gfI_s g4 (f := 3) rfl (len_in2 (by omega)), bnO_s, if_pos hk2, ep, bnO_s]
    dsimp only
    rw [gfI_s g5 (f := 3) rfl (len_in2 (by omega)), bnO_s, nm_x, wr_s (by omega) (by omega), e3, bnO_s]
    show some ((Value.ref a, (S, L4)), 0 + (0 + 0 + gwC cap (bs.length + ts.length)), 0 + (0 + 0 + gwS cap (bs.length + ts.length))) = _
    simp only [Nat.zero_add]
  · show 0 ≤ (if bs.length ≤ w ∧ w < bs.length + ts.length then ts.getD (w - bs.length) 0 else f w) ∧ (if bs.length ≤ w ∧ w < bs.length + ts.length then ts.getD (w - bs.length) 0 else f w) ≤ 127
    by_cases d : bs.length ≤ w ∧ w < bs.length + ts.length
    · rw [if_pos d]; exact c1 _ (by omega)
    · rw [if_neg d]; exact y2 w hw
  · rw [List.length_append] at hw
    show (if bs.length ≤ w ∧ w < bs.length + ts.length then ts.getD (w - bs.length) 0 else f w) = _
    rw [getD_ap]
    by_cases d : w < bs.length
    · rw [if_neg (by omega), if_pos d]; exact y3 w d
    · rw [if_pos (by omega), if_neg d]
theorem k_sbApp (h : SbH L a r cap bs) {c : Nat} (hc : StH L0 c ts) (hn : bs.length + ts.length < 4000) (hcap : cap < 4000) (hL : L.length < 700000000) (hs : Sf F0_ L0 L) (ha : nCell + L0.length ≤ a) (hr : nCell + L0.length ≤ r) :
    ∃ L1 r1, gn_SB_append a c S L = some ((Value.ref a, (S, L1)), gwC cap (bs.length + ts.length), gwS cap (bs.length + ts.length)) ∧ SbH L1 a r1 (ncS cap (bs.length + ts.length)) (bs ++ ts) ∧ Sf F0_ L0 L1 ∧ L1.length = L.length + gwC cap (bs.length + ts.length) ∧ nCell + L0.length ≤ r1 := by
  obtain ⟨L1, r1, e, h1, h2, h3, h4⟩ := k_sbAppF (S := S) (F := F0_) h (fun K hK => hc.sf0 hK) hn hcap hL hs (.inr ha) (.inr hr)
  exact ⟨L1, r1, e, h1, h2, h3, h4.resolve_left id⟩
end Grow
