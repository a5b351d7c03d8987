/-! WHO IS ON A PAGE -/
def bx (k : Nat) : Nat := XB + 300 + (k + 128)
def idxs (w : Int → Int) (p : Int) : Nat → List Nat
  | 0 => []
  | n + 1 => idxs w p n ++ (if w n = p then [n] else [])
theorem idxs_mem {w : Int → Int} {p : Int} : ∀ {n k : Nat}, k ∈ idxs w p n ↔ k < n ∧ w k = p
  | 0, k => by
    constructor
    · intro h; cases h
    · intro h; omega
  | n + 1, k => by
    show k ∈ idxs w p n ++ _ ↔ _
    rw [List.mem_append, idxs_mem]
    by_cases c : w n = p
    · rw [if_pos c, List.mem_singleton]
      constructor
      · rintro (h | rfl)
        · exact ⟨by omega, h.2⟩
        · exact ⟨by omega, c⟩
      · rintro ⟨h1, h2⟩
        by_cases e : k = n
        · exact .inr e
        · exact .inl ⟨by omega, h2⟩
    · rw [if_neg c]
      constructor
      · rintro (h | h)
        · exact ⟨by omega, h.2⟩
        · cases h
      · rintro ⟨h1, h2⟩
        refine .inl ⟨?_, h2⟩
        by_cases e : k = n
        · subst e; exact absurd h2 c
        · omega
theorem idxs_len {w : Int → Int} {p : Int} : ∀ {n : Nat}, ((idxs w p n).length : Int) = sumR (fun i => if w i = p then 1 else 0) 0 n
  | 0 => rfl
  | n + 1 => by
    show (((idxs w p n ++ _).length : Nat) : Int) = _
    rw [List.length_append, sumR_snoc, Int.zero_add]
    have e := idxs_len (w := w) (p := p) (n := n)
    by_cases c : w n = p
    · rw [if_pos c, if_pos c]
      show ((_ + 1 : Nat) : Int) = _
      omega
    · rw [if_neg c, if_neg c]
      show ((_ + 0 : Nat) : Int) = _
      omega
theorem idxs_le {w : Int → Int} {p : Int} {n m : Nat} (h : n ≤ m) : (idxs w p n).length ≤ (idxs w p m).length := by
  induction m with
  | zero => rw [Nat.le_zero.mp h]; exact Nat.le_refl _
  | succ m ih =>
    by_cases e : n = m + 1
    · rw [e]; exact Nat.le_refl _
    · refine Nat.le_trans (ih (by omega)) ?_
      show _ ≤ (idxs w p m ++ _).length
      rw [List.length_append]
      omega
section On
variable {S : St} {L L' : List PC} {P : PA} {W : Vw}
theorem k_newL (hL : L.length < 900000000) : ∃ L1, gn_AL_init (nCell + L.length) S (L ++ [(13, dfl 13)]) = some ((S, L1), 0, 0) ∧ N1 L L1 (nCell + L.length) (13, [Value.ref (XB + 300 + 300), V 0, V 0]) ∧ LsH L1 (nCell + L.length) (XB + 300 + 300) 0 0 [] := by
  have hn := N1.of (L := L) (c := (13, dfl 13)) hL
  obtain ⟨L1, e1, w1⟩ := pf_s hn.at (f := 2) (Nat.le_of_ble_eq_true rfl) (V 0)
  obtain ⟨L2, e2, w2⟩ := pf_s w1.at (f := 0) (Nat.le_of_ble_eq_true rfl) (Value.ref (XB + 300 + 300))
  have n2 : N1 L L2 (nCell + L.length) (13, [Value.ref (XB + 300 + 300), V 0, V 0]) := (hn.w w1).w w2
  refine ⟨L2, ?_, n2, ⟨inR_0, Nat.le_refl _, by omega⟩, n2.at, .inl ⟨rfl, rfl⟩⟩
  unfold gn_AL_init gn_AbL_init gn_AbC_init
  rw [bnO_s, e1, bnO_s]
  show adC 0 0 (bnO (pf L1 (nCell + L.length) 13 0 (Value.ref (XB + 300 + 300))) _) = _
  rw [e2]; rfl
theorem k_valueOf {k : Nat} (hk : k < 128) : gn_Integer_valueOf (k : Int) S L = some ((Value.ref (bx k), (S, L)), 0, 0) := by
  unfold gn_Integer_valueOf
  rw [if_neg (by omega), if_neg (by omega), nm_x, wr_s (by omega) (by omega), alq_box (by omega), bnO_s]
  unfold bx
  rw [show ((k : Int) + 128).toNat = k + 128 by omega]
theorem vb_in {k : Nat} (h : k < 128) : (vb_c (k + 128)).toInt = (k : Int) := by
  have q : ∀ n : Nat, n < 128 → (vb_c (n + 128)).toInt = (n : Int) := by decide +kernel
  exact q k h
theorem k_box {k : Nat} (h : k < 128) : isK L (bx k) 17 = true ∧ gn_Integer_intValue (bx k) S L = some (k : Int) := by
  refine ⟨isK_box (by omega), ?_⟩
  have e : lk L (bx k) = some (17, [Value.int (vb_c (k + 128))]) := by
    unfold lk bx
    rw [if_neg (by omega), if_neg (by unfold nLit; omega), if_neg (by unfold nLit; omega), if_pos ⟨by omega, by omega⟩, show XB + 300 + (k + 128) - (XB + 300) = k + 128 by omega]
  unfold gn_Integer_intValue gfI cf
  rw [e]
  show bnO (some (vb_c (k + 128)).toInt) _ = _
  rw [vb_in h]; rfl
theorem l_on {A : LA} (hA : LsA L A) {w : Int → Int} {p : Int} (hw : ∀ (i x : Nat), A.2.2.2.2[i]? = some x → ∃ vs, hp L x = some (11, vs) ∧ vs[5]? = some (V (w i)) ∧ inR (w i)) (hc : (idxs w p A.2.2.2.2.length).length ≤ 10) (hl : A.2.2.2.2.length ≤ 100) (hL : L.length < 700000000) {t : Nat} :
    Ok (gn_LP_on t A.1 p S L) 2 13 (fun v => ∃ L' r m c, v = (Value.ref (nCell + L.length), (S, L')) ∧ LsH L' (nCell + L.length) r m c ((idxs w p A.2.2.2.2.length).map bx) ∧ Sf F0_ L L' ∧ L'.length ≤ L.length + 2 ∧ (r < XB → nCell + L.length ≤ r)) := by
  obtain ⟨L1, e1, n1, hl1⟩ := k_newL (S := S) (L := L) (by omega)
  have q := lp_OkG (body := fun go z => lb2_LP_on_11 A.1 p (nCell + L.length) go z.1 z.2.1 z.2.2) (R := fun v : LZ => ∃ L' r m c, v = (S, L') ∧ LsH L' (nCell + L.length) r m c ((idxs w p A.2.2.2.2.length).map bx) ∧ Sf F0_ L L' ∧ L'.length ≤ L.length + 2 ∧ (r < XB → nCell + L.length ≤ r))
    (fun i : Nat × Nat => i.1) (fun i z => ∃ K r m n, n + i.1 = A.2.2.2.2.length ∧ z = ((n : Int), (S, K)) ∧ LsH K (nCell + L.length) r m i.2 ((idxs w p n).map bx) ∧ Sf F0_ L K ∧ K.length = L.length + 1 + (if i.2 = 0 then 0 else 1) ∧ (i.2 = 0 ∨ i.2 = 10) ∧ (r < XB → nCell + L.length ≤ r)) (fun i => if i.2 = 0 then 1 else 0) (fun i => if i.2 = 0 then 10 else 0)
    (fun go i z hz hgo => by
      obtain ⟨rn, c⟩ := i
      obtain ⟨K, r, m, n, h1, rfl, h2, h3, h4, h5, h6⟩ := hz
      show Ok (lb2_LP_on_11 A.1 p (nCell + L.length) go (n : Int) S K) (if c = 0 then 1 else 0) (if c = 0 then 10 else 0) _
      have h1 : n + rn = A.2.2.2.2.length := h1
      have h2 : LsH K (nCell + L.length) r m c ((idxs w p n).map bx) := h2
      have h4 : K.length = L.length + 1 + (if c = 0 then 0 else 1) := h4
      have h5 : c = 0 ∨ c = 10 := h5
      have hKl : K.length ≤ L.length + 2 := by rw [h4]; split <;> omega
      have hAK : LsA K A := hA.sf h3 id (fun _ => id)
      have hlen := hAK.len
      unfold lb2_LP_on_11
      rw [if_pos hAK.k, k_size hAK, bnO_s]
      by_cases ce : rn = 0
      · rw [if_pos (by omega)]
        have en : n = A.2.2.2.2.length := by omega
        rw [en] at h2
        exact Ok.ret ⟨K, r, m, c, rfl, h2, h3, hKl, h6⟩
      · rw [if_neg (by omega), if_pos hAK.k]
        obtain ⟨x, hx⟩ : ∃ x, A.2.2.2.2[n]? = some x := ⟨_, List.getElem?_eq_getElem (by omega)⟩
        obtain ⟨vs, hv1, hv2, hv3⟩ := hw n x hx
        have hxK := h3.at0 hv1
        rw [k_get hAK (i := (n : Int)) (x := x) (by omega) (by rw [Int.toNat_natCast]; exact hx), bnO_s, rfB_r, if_pos (isK_s hxK (by decide)), gfI_s hxK hv2 hv3, bnO_s]
        have e9 : idxs w p (n + 1) = idxs w p n ++ (if w n = p then [n] else []) := rfl
        by_cases cp : w n = p
        · rw [if_pos cp, k_valueOf (by omega), bnO_s]
          show Ok (adC 0 0 (if isK K (nCell + L.length) 13 = true then bnO (gn_AL_add (nCell + L.length) (Value.ref (bx n)) S K) _ else none)) _ _ _
          rw [adC00, if_pos h2.k]
          have hle := idxs_le (w := w) (p := p) (n := n + 1) (m := A.2.2.2.2.length) (by omega)
          rw [e9, if_pos cp, List.length_append] at hle
          have hle2 : (idxs w p n).length + 1 ≤ (idxs w p A.2.2.2.2.length).length := hle
          have hml : ((idxs w p n).map bx).length = (idxs w p n).length := List.length_map _
          have e10 : (idxs w p (n + 1)).map bx = (idxs w p n).map bx ++ [bx n] := by rw [e9, if_pos cp, List.map_append]; rfl
          rcases h5 with rfl | rfl
          · obtain ⟨K1, f1, f2, f3, f4⟩ := k_addG (S := S) (x := bx n) h2 (okE_box (by omega)) (fun y hy => by
              obtain ⟨k, hk1, rfl⟩ := List.mem_map.mp hy
              exact okE_box (by have := (idxs_mem.mp hk1).1; omega)) (by have := h2.1.2.1; omega) (by omega) (by omega)
            rw [f1, bnO_s]
            refine Ok.ad (c := 1) (s := nxc 0) (by rw [if_pos rfl]; exact Nat.le_refl _) (by rw [if_pos rfl]; exact Nat.le_refl _) ?_
            show Ok (nm (wr ((n : Int) + 1)) fun v17 => go (v17, (S, K1))) _ _ _
            rw [nm_x, wr_s (by omega) (by omega)]
            have hs1 : Sf F0_ L K1 := ⟨by have := h3.1; omega, fun b h7 h8 => (f4 b (by omega) (by rw [h4]; omega)).trans (h3.2 b h7 h8)⟩
            refine (hgo (rn - 1, 10) _ (by show rn - 1 < rn; omega) ⟨K1, nCell + K.length, _, n + 1, by show n + 1 + (rn - 1) = _; omega, rfl, by rw [e10]; exact f2, hs1, by rw [f3, h4]; rfl, .inr rfl, fun _ => by omega⟩).mono (Nat.zero_le _) (Nat.zero_le _) (fun _ q => q)
          · obtain ⟨K1, f1, f2, f3, f4⟩ := k_add (S := S) (x := bx n) h2 (okE_box (by omega)) (by omega)
            rw [f1, bnO_s]
            show Ok (adC 0 0 (nm (wr ((n : Int) + 1)) fun v17 => go (v17, (S, K1)))) _ _ _
            rw [adC00, nm_x, wr_s (by omega) (by omega)]
            have hrx : r < XB := by
              rcases h2.2.2 with ⟨e, e0⟩ | ⟨vs', q', _⟩
              · cases e0
              · exact (hp_bd q').2.1
            have hr6 := h6 hrx
            have hs1 : Sf F0_ L K1 := ⟨by have := h3.1; omega, fun b h7 h8 => (f4 b (by omega) (by omega)).trans (h3.2 b h7 h8)⟩
            exact hgo (rn - 1, 10) _ (by show rn - 1 < rn; omega) ⟨K1, r, _, n + 1, by show n + 1 + (rn - 1) = _; omega, rfl, by rw [e10]; exact f2, hs1, by rw [f3, h4], .inr rfl, h6⟩
        · rw [if_neg cp, nm_x, wr_s (by omega) (by omega)]
          have e10 : idxs w p (n + 1) = idxs w p n := by rw [e9, if_neg cp, List.append_nil]
          exact hgo (rn - 1, c) _ (by show rn - 1 < rn; omega) ⟨K, r, m, n + 1, by show n + 1 + (rn - 1) = _; omega, rfl, by rw [e10]; exact h2, h3, h4, h5, h6⟩)
    FU (A.2.2.2.2.length, 0) (0, (S, L1)) ⟨L1, _, _, 0, by omega, rfl, hl1, n1.sf0, by rw [n1.2.1]; rfl, .inl rfl, fun h => absurd h (by omega)⟩ (FU_big (by show A.2.2.2.2.length < 9999; omega))
  obtain ⟨v, c, s, e, hc', hs', L', r, m, c', rfl, g1, g2, g3, g4⟩ := q
  refine ⟨_, c + 1, s + 3, ?_, ?_, ?_, L', r, m, c', rfl, g1, g2, g3, g4⟩
  · unfold gn_LP_on
    rw [if_pos (by omega)]
    show adC 1 3 (bnO (gn_AL_init (nCell + L.length) S (L ++ [(13, dfl 13)])) _) = _
    rw [e1, bnO_s]
    show adC 1 3 (adC 0 0 (bnO (lo2_LP_on_11 A.1 p (nCell + L.length) FU (0, (S, L1))) _)) = _
    rw [adC00, show lo2_LP_on_11 A.1 p (nCell + L.length) FU (0, (S, L1)) = _ from e, bnO_s]
    show some (_, 0 + c + 1, 0 + s + 3) = _
    rw [Nat.zero_add, Nat.zero_add]
  · have : c ≤ 1 := hc'
    omega
  · have : s ≤ 10 := hs'
    omega
end On
