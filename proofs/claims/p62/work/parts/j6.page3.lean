/-! A PAGE: its numbers, its ads one after another -/
section Page3
variable {S : St} {L K K1 L0 : List PC} {P : PA} {W : Vw} {p : Int}
theorem StH.it {t b : Nat} {bs : List Int} {l c : PC} (h : StH K t bs) (hi : hp K b = some l) (hc : l.1 = 14) (hw : W1 K K1 b c) : StH K1 t bs := by
  obtain ⟨h0, r, vs, h1, h2, h3, ws, ⟨g1, g2, g3⟩, g4⟩ := h
  have lkk : ∀ {x : Nat} {q : PC}, lk K x = some q → q.1 ≠ 14 → lk K1 x = some q := fun {x q} hq hn => by
    unfold lk at hq ⊢
    by_cases y : x < XB
    · rw [if_pos y] at hq ⊢
      rw [hw.ne (by rintro rfl; rw [hi] at hq; exact hn (by rw [← Option.some.inj hq, hc]))]
      exact hq
    · rw [if_neg y] at hq ⊢
      exact hq
  refine ⟨h0, r, vs, lkk h1 (by show 16 ≠ 14; decide), h2, h3, ws, ⟨lkk g1 (by show 101 ≠ 14; decide), ?_, g3⟩, g4⟩
  unfold rowB at g2 ⊢
  by_cases y : r < XB
  · rw [if_pos y] at g2 ⊢
    have q := lkk g1 (by show 101 ≠ 14; decide)
    unfold lk at q g1
    rw [if_pos y] at q g1
    rw [q]
    rw [g1] at g2
    exact g2
  · rw [if_neg y] at g2 ⊢
    exact g2
/-- what the law lists of a page -/
def pgRow (W : Vw) (p : Int) : Nat → Int := fun j => q_page W p j
theorem l_pg117 {c4 c5 c7 : Nat} {a2 a6 : Int} (hG : Good W) (hT : PT S 5 W) (hp : 1 ≤ p ∧ p ≤ pgs W) (hr : RowI L c7 8 (pgRow W p)) (hi : ∀ j : Nat, j < 8 → inR (pgRow W p j)) : ∀ (n N : Nat) (y : Int), y + n = 8 → 0 ≤ y → n < N →
    Ok (lp (fun go q => lb2_Law_pages_117 (pT P) a2 p c4 c5 a6 c7 go q.1 q.2.1 q.2.2) N (y, (S, L))) n (6 * n) (fun v => v = .inr (S, L))
  | 0, N + 1, y, hy, h0, _ => by
    rw [lp_succ]
    show Ok (lb2_Law_pages_117 (pT P) a2 p c4 c5 a6 c7 _ y S L) _ _ _
    unfold lb2_Law_pages_117
    rw [if_pos (by omega)]
    exact Ok.ret rfl
  | n + 1, N + 1, y, hy, h0, hN => by
    have bp := hG.1.pg
    have ih := l_pg117 (c4 := c4) (c5 := c5) (a2 := a2) (a6 := a6) hG hT hp hr hi n N (y + 1) (by omega) (by omega) (by omega)
    have e := c_page hT hG (a := p) (y := y) (by unfold inR; omega) (by unfold inR; omega) hp
    have e2 := hr.at (w := y) ⟨h0, by omega⟩ (hi _ (by omega))
    have e3 : pgRow W p y.toNat = q_page W p y := by unfold pgRow; rw [Int.toNat_of_nonneg h0]
    rw [e3] at e2
    rw [lp_succ]
    show Ok (lb2_Law_pages_117 (pT P) a2 p c4 c5 a6 c7 _ y S L) _ _ _
    unfold lb2_Law_pages_117
    rw [if_neg (by omega), e, bnO_s]
    dsimp only
    rw [if_pos rfl]
    refine Ok.ad (c := 1) (s := 6) (by omega) (by omega) ?_
    rw [e2, bnO_s, if_pos rfl, nm_x, wr_s (z := y + 1) (by omega) (by omega)]
    exact ih.mono (by omega) (by omega) (fun _ q => q)
theorem ad_at (hV : Val W) {ks : List Nat} (hks : ks = idxs (at_ W 6) p (nA W).toNat) {i : Int} (h0 : 0 ≤ i) (h1 : i ≤ ks.length) : getI (kth (fun x => decide (at_ W 6 x = p)) i 0 (nA W).toNat) = if i < ks.length then ((ks.getD i.toNat 0 : Nat) : Int) else -1 := by
  have b := hV.z
  have cl : ∀ n : Nat, cnT (fun x => decide (at_ W 6 x = p)) 0 n = ((idxs (at_ W 6) p n).length : Int) := fun n => by
    rw [idxs_len]
    unfold cnT
    exact sumR_congr (fun j _ _ => by
      by_cases c : at_ W 6 j = p
      · rw [if_pos c, if_pos (decide_eq_true c)]
      · rw [if_neg c, if_neg (by rw [decide_eq_true_eq]; exact c)])
  by_cases c : i < ks.length
  · rw [if_pos c]
    obtain ⟨k, hk⟩ : ∃ k, ks[i.toNat]? = some k := ⟨_, List.getElem?_eq_getElem (by omega)⟩
    have e : ks.getD i.toNat 0 = k := by rw [List.getD_eq_getElem?_getD, hk]; rfl
    rw [e]
    rw [hks] at hk
    obtain ⟨m1, m2⟩ := idxs_mem.mp (List.mem_of_getElem? hk)
    have tk := congrArg List.length (idxs_take hk)
    have il := (List.getElem?_eq_some_iff.mp hk).1
    rw [List.length_take] at tk
    refine kth_is (by omega) (by omega) (decide_eq_true m2) ?_
    rw [Int.sub_zero, Int.toNat_natCast, cl, ← tk]
    omega
  · rw [if_neg c]
    refine kth_none (.inr ?_)
    rw [cl, ← hks]
    omega
theorem l_pg150 {c4 c5 r : Nat} {a2 a6 m : Int} {cp : Nat} {ks : List Nat} (hG : Good W) (hT : PT S 5 W) (hp : 1 ≤ p ∧ p ≤ pgs W) (hks : ks = idxs (at_ W 6) p (nA W).toNat) (hl : LsH L c4 r m cp (ks.map bx)) : ∀ (n N : Nat) (y : Int), y + n = ks.length + 1 → 0 ≤ y → n < N →
    Ok (lp (fun go q => lb2_Law_pages_150 (pT P) a2 p c4 c5 a6 go q.1 q.2.1 q.2.2) N (y, (S, L))) n (6 * n) (fun v => v = .inr (S, L))
  | 0, N + 1, y, hy, h0, _ => by
    have lm : (ks.map bx).length = ks.length := List.length_map _
    rw [lp_succ]
    show Ok (lb2_Law_pages_150 (pT P) a2 p c4 c5 a6 _ y S L) _ _ _
    unfold lb2_Law_pages_150
    rw [if_pos hl.k, k_size hl, bnO_s, if_pos (by omega)]
    exact Ok.ret rfl
  | n + 1, N + 1, y, hy, h0, hN => by
    have bp := hG.1.pg
    have bz := hG.1.z
    have lm : (ks.map bx).length = ks.length := List.length_map _
    have ll := hl.len
    have ih := l_pg150 (c5 := c5) (a2 := a2) (a6 := a6) hG hT hp hks hl n N (y + 1) (by omega) (by omega) (by omega)
    have e := c_adOn hT hG (a := p) (y := y) (by unfold inR; omega) (by unfold inR; omega) hp
    rw [ad_at hG.1 hks h0 (by omega)] at e
    rw [lp_succ]
    show Ok (lb2_Law_pages_150 (pT P) a2 p c4 c5 a6 _ y S L) _ _ _
    unfold lb2_Law_pages_150
    rw [if_pos hl.k, k_size hl, bnO_s, if_neg (by omega), e, bnO_s]
    dsimp only
    rw [if_pos rfl]
    refine Ok.ad (c := 1) (s := 6) (by omega) (by omega) ?_
    by_cases c : y < ks.length
    · obtain ⟨k, hk⟩ : ∃ k, ks[y.toNat]? = some k := ⟨_, List.getElem?_eq_getElem (by omega)⟩
      have ek : ks.getD y.toNat 0 = k := by rw [List.getD_eq_getElem?_getD, hk]; rfl
      have hkn : k < (nA W).toNat := by
        have hk2 := hk
        rw [hks] at hk2
        exact (idxs_mem.mp (List.mem_of_getElem? hk2)).1
      obtain ⟨kb, kv⟩ := k_box (S := S) (L := L) (k := k) (by omega)
      have hx : (ks.map bx)[y.toNat]? = some (bx k) := by rw [List.getElem?_map, hk]; rfl
      rw [if_pos hl.k, bnO_s, if_neg (by omega), if_pos hl.k, k_get hl h0 hx, bnO_s, rfB_r, if_pos kb, if_pos kb, kv, bnO_s, if_pos c, ek, if_pos rfl, nm_x, wr_s (z := y + 1) (by omega) (by omega)]
      exact ih.mono (by omega) (by omega) (fun _ q => q)
    · rw [if_pos hl.k, bnO_s, if_pos (by omega), if_neg c, if_pos rfl, nm_x, wr_s (z := y + 1) (by omega) (by omega)]
      exact ih.mono (by omega) (by omega) (fun _ q => q)
/-- the items behind the text, one after another -/
def foI (l : Int) (xs : List Int) (ks : List Nat) : List Int := ks.foldl (fun (xs : List Int) (k : Nat) => itB l (k : Int) xs) xs
theorem foI_len {l : Int} : ∀ (ks : List Nat) (xs : List Int), (foI l xs ks).length ≤ xs.length + 4 * ks.length
  | [], xs => Nat.le_refl _
  | k :: ks, xs => by
    have ih := foI_len (l := l) ks (itB l (k : Int) xs)
    have q := itB_len (l := l) (x := (k : Int)) (xs := xs)
    show (foI l (itB l (k : Int) xs) ks).length ≤ _
    rw [List.length_cons]
    omega
theorem foI_it {l : Int} {k : Nat} {xs : List Int} : ∀ n : Nat, foI l xs (idxs (at_ W k) p n) = itR (dsF W l k p) 0 n xs
  | 0 => rfl
  | n + 1 => by
    have ih := foI_it (l := l) (k := k) (xs := xs) n
    rw [itR_snoc, ← ih, Int.zero_add]
    show foI l xs (idxs (at_ W k) p n ++ _) = _
    unfold foI dsF onK
    rw [List.foldl_append]
    by_cases c : at_ W k n = p
    · rw [if_pos c, if_pos (decide_eq_true c)]; rfl
    · rw [if_neg c, if_neg (by rw [decide_eq_true_eq]; exact c)]; rfl
theorem ItH.hp_ {L : List PC} {t a : Nat} {m c : Int} (h : ItH L t a m c) : ∃ l : PC, hp L t = some l ∧ l.1 = 14 := by
  obtain ⟨l, h⟩ := h
  exact ⟨_, h, rfl⟩
theorem ItH.s0 {t a : Nat} {m c : Int} (h : ItH K t a m c) (hs : Sf F0_ K K1) : ItH K1 t a m c := by
  obtain ⟨l, h⟩ := h
  exact ⟨l, hs.at0 h⟩
theorem l_pg250 {c5 it lst r cp : Nat} {a2 a6 m : Int} {ks : List Nat} (hk : ∀ k ∈ ks, k < 100) : ∀ (n N i : Nat) (t : Nat) (xs : List Int) (K : List PC), i + n = ks.length → n < N → StH K t (pre xs) → xs.length + 4 * n ≤ 20 → ItH K it lst m i → LsH K lst r m cp (ks.map bx) → Sf F0_ L0 K → nCell + L0.length ≤ it → K.length + 5 * n < 400000000 →
    Ok (lp (fun go q => lb2_Law_pages_250 (pT P) a2 p c5 a6 it go q.1 q.2.1 q.2.2) N (Value.ref t, (S, K))) (5 * n) (112 * n) (fun v => ∃ t' K', v = (Value.ref t', (S, K')) ∧ StH K' t' (pre (foI 97 xs (ks.drop i))) ∧ Sf F0_ L0 K' ∧ Sf (fun b => b = it) K K' ∧ K'.length ≤ K.length + 5 * n)
  | 0, N + 1, i, t, xs, K, hi, _, ht, hx, hit, hl, hs, hb, hK => by
    have lm : (ks.map bx).length = ks.length := List.length_map _
    have q := k_hasNext (S := S) hl hit ⟨by omega, by omega⟩
    rw [decide_eq_false (by omega)] at q
    rw [lp_succ]
    show Ok (lb2_Law_pages_250 (pT P) a2 p c5 a6 it _ (Value.ref t) S K) _ _ _
    unfold lb2_Law_pages_250
    rw [if_pos hit.k, q, bnO_s, if_neg Bool.false_ne_true]
    refine Ok.ret ⟨t, K, rfl, ?_, hs, Sf.refl, Nat.le_refl _⟩
    rw [List.drop_of_length_le (by omega)]
    exact ht
  | n + 1, N + 1, i, t, xs, K, hi, hN, ht, hx, hit, hl, hs, hb, hK => by
    have lm : (ks.map bx).length = ks.length := List.length_map _
    have ll := hl.len
    have q := k_hasNext (S := S) hl hit ⟨by omega, by omega⟩
    rw [decide_eq_true (by omega)] at q
    obtain ⟨k, hk1⟩ : ∃ k, ks[i]? = some k := ⟨_, List.getElem?_eq_getElem (by omega)⟩
    have hkk := hk k (List.mem_of_getElem? hk1)
    have hxx : (ks.map bx)[((i : Int)).toNat]? = some (bx k) := by rw [Int.toNat_natCast, List.getElem?_map, hk1]; rfl
    have ed : ks.drop i = k :: ks.drop (i + 1) := by
      obtain ⟨p1, p2⟩ := List.getElem?_eq_some_iff.mp hk1
      rw [List.drop_eq_getElem_cons p1, p2]
    obtain ⟨K1, e1, w1⟩ := k_next (S := S) hl hit (by omega) hxx
    obtain ⟨l0, hl0, hlc⟩ := hit.hp_
    have t1 := ht.it hl0 hlc w1
    have s1 := rd_keep hs w1 hb
    have sk : Sf (fun b => b = it) K K1 := Sf.refl.w w1 (.inl rfl)
    have l1 : LsH K1 lst r m cp (ks.map bx) := hl.w1 hl0 ⟨by rw [hlc]; decide, by rw [hlc]; decide⟩ w1
    have i1 : ItH K1 it lst m ((i + 1 : Nat) : Int) := ⟨V (i : Int), by rw [w1.at]; rfl⟩
    obtain ⟨kb, kv⟩ := k_box (S := S) (L := K1) (k := k) (by omega)
    have hle := itB_len (l := 97) (x := (k : Int)) (xs := xs)
    rw [lp_succ]
    show Ok (lb2_Law_pages_250 (pT P) a2 p c5 a6 it _ (Value.ref t) S K) _ _ _
    unfold lb2_Law_pages_250
    rw [if_pos hit.k, q, bnO_s, if_pos rfl, if_pos hit.k, e1, bnO_s]
    refine Ok.ad (c := 0) (s := 0) (Nat.zero_le _) (Nat.zero_le _) ?_
    rw [rfB_r, if_pos kb, if_pos kb, kv, bnO_s]
    refine (pg_it (C := 5 * n) (T := 112 * n) t1 rfl nl_.1.2.2.1 lB10 ⟨by omega, by omega⟩ (by omega) (by have := w1.1; omega) (fun t' K2 y1 y2 y3 y4 => ?_)).mono (by omega) (by omega) (fun _ q => q)
    have wl := w1.1
    refine (l_pg250 (c5 := c5) (a2 := a2) (a6 := a6) hk n N (i + 1) t' (itB 97 (k : Int) xs) K2 (by omega) (by omega) y1 (by omega) (i1.s0 y3) (l1.sf y3 id (fun _ => id)) (s1.trans y3) hb (by omega)).mono (Nat.le_refl _) (Nat.le_refl _) (fun v z => ?_)
    obtain ⟨t2, K3, z1, z2, z3, z4, z5⟩ := z
    refine ⟨t2, K3, z1, ?_, z3, sk.trans ((y3.mono (fun b q => q.elim)).trans z4), by omega⟩
    rw [ed]
    exact z2
theorem l_pg312 {it lst r cp : Nat} {a2 a6 m : Int} {ks : List Nat} (hk : ∀ k ∈ ks, k < 100) : ∀ (n N i : Nat) (t : Nat) (xs : List Int) (K : List PC), i + n = ks.length → n < N → StH K t (pre xs) → xs.length + 4 * n ≤ 20 → ItH K it lst m i → LsH K lst r m cp (ks.map bx) → Sf F0_ L0 K → nCell + L0.length ≤ it → K.length + 5 * n < 400000000 →
    Ok (lp (fun go q => lb2_Law_pages_312 (pT P) a2 p a6 it go q.1 q.2.1 q.2.2) N (Value.ref t, (S, K))) (5 * n) (112 * n) (fun v => ∃ t' K', v = (Value.ref t', (S, K')) ∧ StH K' t' (pre (foI 98 xs (ks.drop i))) ∧ Sf F0_ L0 K' ∧ Sf (fun b => b = it) K K' ∧ K'.length ≤ K.length + 5 * n)
  | 0, N + 1, i, t, xs, K, hi, _, ht, hx, hit, hl, hs, hb, hK => by
    have lm : (ks.map bx).length = ks.length := List.length_map _
    have q := k_hasNext (S := S) hl hit ⟨by omega, by omega⟩
    rw [decide_eq_false (by omega)] at q
    rw [lp_succ]
    show Ok (lb2_Law_pages_312 (pT P) a2 p a6 it _ (Value.ref t) S K) _ _ _
    unfold lb2_Law_pages_312
    rw [if_pos hit.k, q, bnO_s, if_neg Bool.false_ne_true]
    refine Ok.ret ⟨t, K, rfl, ?_, hs, Sf.refl, Nat.le_refl _⟩
    rw [List.drop_of_length_le (by omega)]
    exact ht
  | n + 1, N + 1, i, t, xs, K, hi, hN, ht, hx, hit, hl, hs, hb, hK => by
    have lm : (ks.map bx).length = ks.length := List.length_map _
    have ll := hl.len
    have q := k_hasNext (S := S) hl hit ⟨by omega, by omega⟩
    rw [decide_eq_true (by omega)] at q
    obtain ⟨k, hk1⟩ : ∃ k, ks[i]? = some k := ⟨_, List.getElem?_eq_getElem (by omega)⟩
    have hkk := hk k (List.mem_of_getElem? hk1)
    have hxx : (ks.map bx)[((i : Int)).toNat]? = some (bx k) := by rw [Int.toNat_natCast, List.getElem?_map, hk1]; rfl
    have ed : ks.drop i = k :: ks.drop (i + 1) := by
      obtain ⟨p1, p2⟩ := List.getElem?_eq_some_iff.mp hk1
      rw [List.drop_eq_getElem_cons p1, p2]
    obtain ⟨K1, e1, w1⟩ := k_next (S := S) hl hit (by omega) hxx
    obtain ⟨l0, hl0, hlc⟩ := hit.hp_
    have t1 := ht.it hl0 hlc w1
    have s1 := rd_keep hs w1 hb
    have sk : Sf (fun b => b = it) K K1 := Sf.refl.w w1 (.inl rfl)
    have l1 : LsH K1 lst r m cp (ks.map bx) := hl.w1 hl0 ⟨by rw [hlc]; decide, by rw [hlc]; decide⟩ w1
    have i1 : ItH K1 it lst m ((i + 1 : Nat) : Int) := ⟨V (i : Int), by rw [w1.at]; rfl⟩
    obtain ⟨kb, kv⟩ := k_box (S := S) (L := K1) (k := k) (by omega)
    have hle := itB_len (l := 98) (x := (k : Int)) (xs := xs)
    rw [lp_succ]
    show Ok (lb2_Law_pages_312 (pT P) a2 p a6 it _ (Value.ref t) S K) _ _ _
    unfold lb2_Law_pages_312
    rw [if_pos hit.k, q, bnO_s, if_pos rfl, if_pos hit.k, e1, bnO_s]
    refine Ok.ad (c := 0) (s := 0) (Nat.zero_le _) (Nat.zero_le _) ?_
    rw [rfB_r, if_pos kb, if_pos kb, kv, bnO_s]
    refine (pg_it (C := 5 * n) (T := 112 * n) t1 rfl nl_.1.2.2.2.1 lB11 ⟨by omega, by omega⟩ (by omega) (by have := w1.1; omega) (fun t' K2 y1 y2 y3 y4 => ?_)).mono (by omega) (by omega) (fun _ q => q)
    have wl := w1.1
    refine (l_pg312 (a2 := a2) (a6 := a6) hk n N (i + 1) t' (itB 98 (k : Int) xs) K2 (by omega) (by omega) y1 (by omega) (i1.s0 y3) (l1.sf y3 id (fun _ => id)) (s1.trans y3) hb (by omega)).mono (Nat.le_refl _) (Nat.le_refl _) (fun v z => ?_)
    obtain ⟨t2, K3, z1, z2, z3, z4, z5⟩ := z
    refine ⟨t2, K3, z1, ?_, z3, sk.trans ((y3.mono (fun b q => q.elim)).trans z4), by omega⟩
    rw [ed]
    exact z2
end Page3
