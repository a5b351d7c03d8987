/-! PLACING THE FREE ADS -/
theorem fst_snoc {p : Int → Bool} : ∀ {n : Nat} {i : Int}, 0 ≤ i → fstR p i (n + 1) = if fstR p i n = -1 then (if p (i + n) = true then i + n else -1) else fstR p i n
  | 0, i, _ => by
    show (if p i = true then i else -1) = if (-1 : Int) = -1 then (if p (i + ((0 : Nat) : Int)) = true then i + ((0 : Nat) : Int) else -1) else -1
    rw [if_pos rfl, show i + ((0 : Nat) : Int) = i by omega]
  | n + 1, i, h => by
    show (if p i = true then i else fstR p (i + 1) (n + 1)) = if (if p i = true then i else fstR p (i + 1) n) = -1 then (if p (i + ((n + 1 : Nat) : Int)) = true then i + ((n + 1 : Nat) : Int) else -1) else (if p i = true then i else fstR p (i + 1) n)
    by_cases c : p i = true
    · rw [if_pos c, if_pos c, if_neg (by omega)]
    · rw [if_neg c, if_neg c, fst_snoc (by omega), show i + 1 + (n : Int) = i + ((n + 1 : Nat) : Int) by omega]
def lowF (p : Int → Bool) : Nat → Int → Int
  | 0, acc => acc
  | n + 1, acc => lowF p n (if p ((n : Int) + 1) = true then (n : Int) + 1 else acc)
theorem lowF_fst {p : Int → Bool} : ∀ {n : Nat} {acc : Int}, lowF p n acc = if fstR p 1 n = -1 then acc else fstR p 1 n
  | 0, acc => by
    show acc = if (-1 : Int) = -1 then acc else -1
    rw [if_pos rfl]
  | n + 1, acc => by
    show lowF p n (if p ((n : Int) + 1) = true then (n : Int) + 1 else acc) = _
    rw [lowF_fst, fst_snoc (by decide), show (1 : Int) + n = (n : Int) + 1 by omega]
    by_cases c : fstR p 1 n = -1
    · rw [if_pos c, if_pos c]
      by_cases d : p ((n : Int) + 1) = true
      · rw [if_pos d, if_pos d, if_neg (by omega)]
      · rw [if_neg d, if_neg d, if_pos rfl]
    · rw [if_neg c, if_neg c, if_neg c]
theorem plN_sn {W : Vw} {w : Int → Int} {i : Nat} : plN W w ((i + 1 : Nat) : Int) = plS w i (plN W w i) := by
  rw [show ((i + 1 : Nat) : Int) = (i : Int) + 1 by omega, plN_s (by omega)]
theorem plN_6 {W : Vw} {w : Int → Int} {x : Int} (hx : 0 ≤ x) (i : Nat) (h : ∀ j : Nat, j < i → w j ≠ x ∧ 0 ≤ w j) : at_ (plN W w i).2 6 x = at_ W 6 x := by
  induction i with
  | zero => rfl
  | succ i ih =>
    have q := ih (fun j hj => h j (by omega))
    have q2 := h i (by omega)
    rw [plN_sn]
    unfold plS
    split
    · exact q
    · rw [at_up, if_neg (by omega)]
      exact q
theorem plN_z {W : Vw} {w : Int → Int} : plN W w ((0 : Nat) : Int) = (0, W) := rfl
theorem plS_c {w w' : Int → Int} {j : Int} {x : Int × Vw} (h : w j = w' j) : plS w j x = plS w' j x := by
  unfold plS
  rw [h]
theorem plN_congr {W : Vw} {w w' : Int → Int} (i : Nat) (h : ∀ j : Nat, j < i → w j = w' j) : plN W w i = plN W w' i := by
  induction i with
  | zero => rw [plN_z, plN_z]
  | succ i ih => rw [plN_sn, plN_sn, ih (fun j hj => h j (by omega)), plS_c (h i (by omega))]
theorem up_same {W : Vw} {k i : Nat} (h : W k i = 0) : up W k i 0 = W := by
  funext k' i'
  unfold up
  by_cases c : k' = k ∧ i' = i
  · rw [if_pos c, c.1, c.2, h]
  · rw [if_neg c]
section Places2
variable {S : St} {L L' : List PC} {P : PA} {W : Vw}
theorem l_low (h : HP L P W) (hV : Val W) {a c : Int} (ha : 0 ≤ a ∧ a < nA W) {x t : Nat} (hxa : (xA P)[a.toNat]? = some x) : ∀ (n N : Nat) (acc : Int), n < N → (n : Int) ≤ pgs W → lp (fun go z => lb2_Law_places_166 (pT P) c t x go z.1 z.2.1 z.2.2.1 z.2.2.2) N (acc, (n : Int), (S, L)) = some ((lowF (fun q => decide (reas W a q = 0)) n acc, (S, L)), 0, 0)
  | 0, N + 1, acc, _, _ => by
    rw [lp_succ]
    show lb2_Law_places_166 (pT P) c t x _ acc ((0 : Nat) : Int) S L = _
    unfold lb2_Law_places_166
    rw [if_pos (by omega)]
    rfl
  | n + 1, N + 1, acc, hN, hn => by
    have b := hV.pg
    have ih := l_low h hV (c := c) (t := t) ha hxa n N (if reas W a ((n : Int) + 1) = 0 then (n : Int) + 1 else acc) (by omega) (by omega)
    have i1 : wr (((n + 1 : Nat) : Int) + (-1)) = (n : Int) := by
      rw [wr_s (by omega) (by omega)]; omega
    rw [lp_succ]
    have hun : ∀ gg, lb2_Law_places_166 (pT P) c t x gg acc ((n + 1 : Nat) : Int) S L = gg ((if reas W a ((n : Int) + 1) = 0 then (n : Int) + 1 else acc), (n : Int), (S, L)) := fun gg => by
      unfold lb2_Law_places_166
      rw [if_neg (by omega), if_pos h.k, l_reason h hV ha hxa (by unfold inR; omega), bnO_s]
      show adC 0 0 _ = _
      rw [adC00, show ((n + 1 : Nat) : Int) = (n : Int) + 1 by omega] at *
      by_cases d : reas W a ((n : Int) + 1) = 0
      · rw [if_pos d, nm_x, i1, if_pos d]
      · rw [if_neg d, nm_x, i1, if_neg d]
    show lb2_Law_places_166 (pT P) c t x _ acc ((n + 1 : Nat) : Int) S L = _
    rw [hun]
    show lp (fun go z => lb2_Law_places_166 (pT P) c t x go z.1 z.2.1 z.2.2.1 z.2.2.2) N _ = _
    rw [ih]
    show _ = some ((lowF (fun q => decide (reas W a q = 0)) n (if decide (reas W a ((n : Int) + 1) = 0) = true then (n : Int) + 1 else acc), (S, L)), 0, 0)
    simp only [decide_eq_true_eq]
def wO (ixs : List Nat) (j : Int) : Int := ((ixs.getD j.toNat 0 : Nat) : Int)
theorem wO_s {ixs : List Nat} {j : Nat} {k : Nat} (h : ixs[j]? = some k) : wO ixs (j : Int) = k := by
  unfold wO
  rw [Int.toNat_natCast, List.getD_eq_getElem?_getD, h]; rfl
theorem l_plc {L0 L1 : List PC} {lst t r cp : Nat} {m : Int} {ixs : List Nat} {V0 : Vw} (hG : Good W) (h0 : HP L0 P V0) (h1 : HP L1 P W) (hsr : SrtN W ixs (nA W).toNat) (hl : LsH L1 lst r m cp (ixs.map (xAt P))) (hit : ItH L1 t lst m 0) (ht : nCell + L0.length ≤ t) (hs : Sf (fpP P) L0 L1) :
    ∃ L2, lo2_Law_places_137 (pT P) t FU (0, (S, L1)) = some (((plN W (wO ixs) ixs.length).1, (S, L2)), 0, 0) ∧ L2.length = L1.length ∧ HP L2 P (plN W (wO ixs) ixs.length).2 ∧ Sf (fpP P) L0 L2 := by
  have b := hG.1.z
  have hlm : (ixs.map (xAt P)).length = ixs.length := List.length_map _
  have hln := hl.len
  have hA : ((xA P).length : Int) = nA W := h1.2.1.1
  have hw : ∀ j : Nat, j < ixs.length → ∃ k, ixs[j]? = some k ∧ wO ixs (j : Int) = k ∧ (k : Int) < nA W ∧ at_ W 6 k = 0 := fun j hj => by
    have e : ixs[j]? = some ixs[j] := List.getElem?_eq_getElem hj
    have q := hsr.1 _ (List.mem_of_getElem? e)
    exact ⟨_, e, wO_s e, by omega, q.2⟩
  have hwb : ∀ j : Int, 0 ≤ j → j < (ixs.length : Int) → 0 ≤ wO ixs j ∧ wO ixs j < nA W := fun j h2 h3 => by
    obtain ⟨k, -, e, q, -⟩ := hw j.toNat (by omega)
    rw [show ((j.toNat : Nat) : Int) = j by omega] at e
    omega
  have hdis : ∀ j j' : Nat, j < j' → j' < ixs.length → wO ixs (j : Int) ≠ wO ixs (j' : Int) := fun j j' h2 h3 e => by
    obtain ⟨k, e1, e2, -, -⟩ := hw j (by omega)
    obtain ⟨k', e1', e2', -, -⟩ := hw j' h3
    have q := List.pairwise_iff_getElem.mp hsr.2.1 j j' (by omega) h3 h2
    have g1 : ixs[j]'(by omega) = k := (List.getElem?_eq_some_iff.mp e1).2
    have g2 : ixs[j']'h3 = k' := (List.getElem?_eq_some_iff.mp e1').2
    rw [g1, g2] at q
    exact ahP_ne q (by omega)
  obtain ⟨L2, e, l, k1, k2, k3⟩ := fe_loop (body := fun go z => lb2_Law_places_137 (pT P) t go z.1 z.2.1 z.2.2) (S := S) (a := lst) (r := r) (t := t) (cp := cp) (m := m) (xs := ixs.map (xAt P)) (fun (s : Int × Vw) z => (s.1, z)) (fun s z => (s.1, z)) (fun i s => plS (wO ixs) i s)
    (fun i s K => s = plN W (wO ixs) i ∧ HP K P s.2 ∧ Sf (fpP P) L0 K ∧ LsH K lst r m cp (ixs.map (xAt P)) ∧ ∃ vs, hp K t = some (14, vs))
    (fun i s K hK => hK.2.2.2.1)
    (fun go s K hK hk hn => by
      show lb2_Law_places_137 (pT P) t go s.1 S K = _
      unfold lb2_Law_places_137
      rw [if_pos hk, hn, bnO_s, if_neg Bool.false_ne_true])
    (fun go i s K x K1 hK h0' hx hk hn hnx hw' => by
      obtain ⟨hs1, hs2, hs3, hs4, vs, hs5⟩ := hK
      obtain ⟨j, rfl⟩ : ∃ j : Nat, i = j := ⟨i.toNat, by omega⟩
      rw [Int.toNat_natCast] at hx
      have hjl := (List.getElem?_eq_some_iff.mp hx).1
      obtain ⟨k, e1, e2, e3, e4⟩ := hw j (by omega)
      rw [List.getElem?_map, e1] at hx
      obtain ⟨y, hy⟩ : ∃ y, (xA P)[k]? = some y := ⟨_, List.getElem?_eq_getElem (by omega)⟩
      have hxk : xAt P k = x := Option.some.inj hx
      rw [xAt_s hy] at hxk
      subst hxk
      have m1 := plN_i hG (i := (j : Int)) (k := (ixs.length : Int)) (w := wO ixs) ⟨by omega, by omega⟩ hwb
      rw [← hs1] at m1
      have c6 : at_ s.2 6 k = 0 := by
        rw [hs1, plN_6 (by omega) j (fun j' hj' => ⟨fun q => hdis j' j hj' (by omega) (by rw [q, e2]), (hwb j' (by omega) (by omega)).1⟩)]
        exact e4
      have g1 : HP K1 P s.2 := hs2.wo hs5 (by decide) hw'
      have nA' : nA s.2 = nA W := m1.2.1.1
      have hk' : 0 ≤ (k : Int) ∧ (k : Int) < nA s.2 := by omega
      have hx1 := g1.1.2.2.1 _ _ hy
      have k11 : isK K1 y 11 = true := isK_s hx1 (by decide)
      have pb := m1.1.1.pg
      obtain ⟨ac, hac⟩ : ∃ ac, ac = lowF (fun q => decide (reas s.2 k q = 0)) (pgs s.2).toNat 0 := ⟨_, rfl⟩
      have lw := l_low (S := S) g1 m1.1.1 (c := s.1) (t := t) hk' hy (pgs s.2).toNat FU 0 (FU_big (by omega)) (by omega)
      rw [← hac, show (((pgs s.2).toNat : Nat) : Int) = pgs s.2 by omega] at lw
      obtain ⟨K2, f2, w2⟩ := pf_s hx1 (f := 5) (Nat.le_of_ble_eq_true rfl) (V ac)
      have g2 : HP K2 P (up s.2 6 k ac) := g1.updA (f := 5) (by decide) hy w2
      have hxt : t ≠ y := by rintro rfl; rw [hw'.at] at hx1; cases hx1
      have hls1 : LsH K1 lst r m cp (ixs.map (xAt P)) := hs4.w1 hs5 (show (14 : Nat) ≠ 13 ∧ (14 : Nat) ≠ 103 by decide) hw'
      have hls2 : LsH K2 lst r m cp (ixs.map (xAt P)) := hls1.w1 hx1 (show (11 : Nat) ≠ 13 ∧ (11 : Nat) ≠ 103 by decide) w2
      have hfx : fpP P y := .inr (.inr (.inr (.inr (.inr (.inl (List.mem_of_getElem? hy))))))
      have hac2 : ac = if fstP s.2 k 1 = -1 then 0 else fstP s.2 k 1 := by
        rw [hac, lowF_fst]
        have e : fstP s.2 k 1 = fstR (fun q => decide (reas s.2 k q = 0)) 1 (pgs s.2 + 1 - 1).toNat := rfl
        rw [e, show pgs s.2 + 1 - 1 = pgs s.2 by omega]
      have es : plS (wO ixs) (j : Int) s = (s.1 + (if ac ≤ 0 then 0 else 1), up s.2 6 k ac) := by
        unfold plS
        rw [e2]
        by_cases d : fstP s.2 k 1 = -1
        · rw [if_pos d] at hac2 ⊢
          have z6 : s.2 6 k = 0 := by rw [← at_n (W := s.2)]; exact c6
          rw [hac2, if_pos (Int.le_refl 0), up_same z6, Int.add_zero]
        · rw [if_neg d] at hac2 ⊢
          rcases fstP_spec (W := s.2) (a := (k : Int)) m1.1.1 with q | ⟨q, -⟩
          · exact absurd q d
          · rw [hac2, if_neg (by omega), Int.toNat_natCast]
      refine ⟨K2, ?_, by rw [w2.1, hw'.1], by rw [w2.ne hxt], ?_, ?_, (hs3.w hw' (.inr ht)).w w2 (.inl hfx), hls2, ⟨_, by rw [w2.ne hxt]; exact hw'.at⟩⟩
      · show lb2_Law_places_137 (pT P) t go s.1 S K = go ((plS (wO ixs) (j : Int) s).1, (S, K2))
        rw [es]
        unfold lb2_Law_places_137
        rw [if_pos hk, hn, bnO_s, if_pos rfl, if_pos hk, hnx, bnO_s]
        show adC 0 0 _ = _
        rw [adC00, rfB_r]
        show (if isK K1 y 11 = true then (if isK K1 (pT P) 12 = true then (bnO (gn_LP_pages (pT P) S K1) fun p60 => bnO (lo2_Law_places_166 (pT P) s.1 t y FU (0, p60, (S, K1))) fun p68 => adC p68.2.1 p68.2.2 (bnO (pf p68.1.2.2 y 11 5 (V p68.1.1)) fun L69 => if p68.1.1 ≤ 0 then (nm (wr (s.1 + 0)) fun v70 => go (v70, (p68.1.2.1, L69))) else (nm (wr (s.1 + 1)) fun v71 => go (v71, (p68.1.2.1, L69))))) else none) else none) = _
        rw [if_pos k11, if_pos g1.k, l_pages g1 m1.1.1, bnO_s, show lo2_Law_places_166 (pT P) s.1 t y FU (0, pgs s.2, (S, K1)) = _ from lw, bnO_s]
        show adC 0 0 (bnO (pf K1 y 11 5 (V ac)) fun L69 => if ac ≤ 0 then (nm (wr (s.1 + 0)) fun v70 => go (v70, (S, L69))) else (nm (wr (s.1 + 1)) fun v71 => go (v71, (S, L69)))) = _
        have cb := m1.2.2.1
        rw [adC00, f2, bnO_s]
        by_cases d : ac ≤ 0
        · rw [if_pos d, if_pos d, nm_x, wr_s (by omega) (by omega)]
        · rw [if_neg d, if_neg d, nm_x, wr_s (by omega) (by omega)]
      · rw [hs1, show ((j : Int) + 1) = (j : Int) + 1 from rfl, plN_s (by omega)]
      · rw [es]; exact g2)
    (ixs.map (xAt P)).length FU 0 (0, W) L1 (by omega) (Int.le_refl _) (FU_big (by omega)) hit ⟨rfl, h1, hs, hl, by obtain ⟨l, hl'⟩ := hit; exact ⟨_, hl'⟩⟩
  rw [hlm] at e k1 k2
  rw [k1] at e k2
  exact ⟨L2, e, l, k2, k3.1⟩
end Places2
