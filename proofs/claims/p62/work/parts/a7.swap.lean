/-! COLORED, SWAP, EXCHANGES -/
section Swap
variable {S : St} {L L' : List PC} {P : PA} {W : Vw}
def colS (W : Vw) : Int := sumR (fun f => if hasC W f = true then 1 else 0) 0 (frm W).toNat
theorem sumR_last {w : Int → Int} {i : Int} (h : 0 ≤ i) : sumR w 0 (i + 1).toNat = sumR w 0 i.toNat + w i := by
  rw [show (i + 1).toNat = i.toNat + 1 by omega, sumR_snoc, Int.zero_add, show ((i.toNat : Nat) : Int) = i by omega]
theorem sumR_01 {p : Int → Bool} {n : Nat} : 0 ≤ sumR (fun f => if p f = true then (1 : Int) else 0) 0 n ∧ sumR (fun f => if p f = true then (1 : Int) else 0) 0 n ≤ n := by
  have q := sumR_bd (w := fun f => if p f = true then (1 : Int) else 0) (l := 0) (h := 1) (n := n) (i := 0) (fun j _ _ => by show 0 ≤ (if p j = true then (1 : Int) else 0) ∧ (if p j = true then (1 : Int) else 0) ≤ 1; split <;> omega)
  omega
theorem l_colored (h : HP L P W) (hV : Val W) (hL : L.length < 700000000) : Ok (gn_LP_colored (pT P) S L) 16 64 (fun v => ∃ L', v = (colS W, (S, L')) ∧ L'.length ≤ L.length + 16 ∧ Sf F0_ L L') := by
  have b := hV.z
  have ef : frm W = 2 * sg W := rfl
  have q := lp_Ok (body := fun go p => lb2_LP_colored_4 (pT P) go p.1 p.2.1 p.2.2.1 p.2.2.2) (R := fun v : Int × LZ => ∃ L', v = (colS W, (S, L')) ∧ L'.length ≤ L.length + 16 ∧ Sf F0_ L L')
    (fun n z => ∃ K, z = (sumR (fun f => if hasC W f = true then 1 else 0) 0 (frm W - n).toNat, frm W - n, (S, K)) ∧ (n : Int) ≤ frm W ∧ K.length + 2 * n ≤ L.length + 16 ∧ Sf F0_ L K) (fun n => 2 * n) (fun n => 8 * n)
    (fun go z hz => by
      obtain ⟨K, rfl, h1, h2, h3⟩ := hz
      show Ok (lb2_LP_colored_4 (pT P) go (sumR (fun f => if hasC W f = true then (1 : Int) else 0) 0 (frm W - ((0 : Nat) : Int)).toNat) (frm W - ((0 : Nat) : Int)) S K) _ _ _
      have hK := h.sf0 h3
      unfold lb2_LP_colored_4
      rw [hK.gg hV, bnO_s, nm_x, wr_s (by omega) (by omega), if_pos (by omega)]
      refine Ok.ret ⟨K, ?_, by omega, h3⟩
      rw [show (frm W - ((0 : Nat) : Int)).toNat = (frm W).toNat by omega]
      rfl)
    (fun go n z hz hgo => by
      obtain ⟨K, rfl, h1, h2, h3⟩ := hz
      show Ok (lb2_LP_colored_4 (pT P) go (sumR (fun f => if hasC W f = true then (1 : Int) else 0) 0 (frm W - ((n + 1 : Nat) : Int)).toNat) (frm W - ((n + 1 : Nat) : Int)) S K) _ _ _
      have hK := h.sf0 h3
      obtain ⟨K', e1, l1, s1⟩ := l_hasColor (S := S) hK hV (f := frm W - ((n + 1 : Nat) : Int)) (by omega)
      unfold lb2_LP_colored_4
      rw [hK.gg hV, bnO_s, nm_x, wr_s (by omega) (by omega), if_neg (by omega), if_pos hK.k, e1, bnO_s]
      refine Ok.ad (c := 2) (s := 8) (by omega) (by omega) ?_
      have e2 : sumR (fun f => if hasC W f = true then (1 : Int) else 0) 0 (frm W - (n : Int)).toNat = sumR (fun f => if hasC W f = true then (1 : Int) else 0) 0 (frm W - ((n + 1 : Nat) : Int)).toNat + (if hasC W (frm W - ((n + 1 : Nat) : Int)) = true then 1 else 0) := by
        rw [← sumR_last (w := fun f => if hasC W f = true then (1 : Int) else 0) (by omega)]
        congr 2; omega
      have e3 := sumR_01 (p := hasC W) (n := (frm W - ((n + 1 : Nat) : Int)).toNat)
      have g : ∀ x, x = sumR (fun f => if hasC W f = true then (1 : Int) else 0) 0 (frm W - (n : Int)).toNat → Ok (go (wr x, wr (frm W - ((n + 1 : Nat) : Int) + 1), (S, K'))) (2 * (n + 1) - 2) (8 * (n + 1) - 8) (fun v : Int × LZ => ∃ L', v = (colS W, (S, L')) ∧ L'.length ≤ L.length + 16 ∧ Sf F0_ L L') := fun x hx => by
        have e4 := sumR_01 (p := hasC W) (n := (frm W - (n : Int)).toNat)
        rw [wr_s (z := x) (by omega) (by omega), wr_s (by omega) (by omega), hx, show frm W - ((n + 1 : Nat) : Int) + 1 = frm W - (n : Int) by omega]
        exact (hgo _ ⟨K', rfl, by omega, by omega, h3.trans s1⟩).mono (by omega) (by omega) (fun _ q => q)
      show Ok (if hasC W (frm W - ((n + 1 : Nat) : Int)) = true then _ else _) _ _ _
      by_cases c : hasC W (frm W - ((n + 1 : Nat) : Int)) = true
      · rw [if_pos c]
        rw [if_pos c] at e2
        exact g _ e2.symm
      · rw [if_neg c]
        rw [if_neg c] at e2
        exact g _ e2.symm)
    (frm W).toNat FU (0, 0, (S, L)) ⟨L, by rw [show frm W - (((frm W).toNat : Nat) : Int) = 0 by omega]; rfl, by omega, by omega, Sf.refl⟩ (FU_big (by omega))
  obtain ⟨v, c, s, e, hc, hs, L', rfl, hl, hsf⟩ := q
  refine ⟨(colS W, (S, L')), c, s, ?_, by omega, by omega, L', rfl, hl, hsf⟩
  unfold gn_LP_colored
  rw [show lo2_LP_colored_4 (pT P) FU (0, 0, (S, L)) = _ from e, bnO_s]
  show some (_, 0 + c, 0 + s) = _
  rw [Nat.zero_add, Nat.zero_add]
/-! cells of a plan have their kinds -/
theorem fp_tag (h : HC0 L P W) : ∀ b, fpP P b → (∃ k vs, hp L b = some (k, vs) ∧ (k = 11 ∨ k = 12 ∨ k = 13 ∨ k = 100 ∨ k = 102 ∨ k = 103)) ∨ b = XB + 300 + 300 := by
  intro b hb
  have ls : ∀ A : LA, LsA L A → (b = A.1 ∨ b = A.2.1) → (∃ k vs, hp L b = some (k, vs) ∧ (k = 11 ∨ k = 12 ∨ k = 13 ∨ k = 100 ∨ k = 102 ∨ k = 103)) ∨ b = XB + 300 + 300 := by
    intro A hA hq
    rcases hq with rfl | rfl
    · exact .inl ⟨_, _, hA.2.1, by decide⟩
    · rcases hA.2.2 with ⟨e, _⟩ | ⟨vs, q, _⟩
      · exact .inr e
      · exact .inl ⟨_, _, q, by decide⟩
  obtain ⟨h1, ⟨h2, h3, h4⟩, h5, h6, h7, ⟨v1, h8, _⟩, ⟨v2, h9, _⟩, ⟨v3, h10, _⟩⟩ := h
  have im : ∀ (xs : List Nat) (f : Nat → List Value), (∀ (i x : Nat), xs[i]? = some x → hp L x = some (11, f i)) → b ∈ xs → ∃ k vs, hp L b = some (k, vs) ∧ (k = 11 ∨ k = 12 ∨ k = 13 ∨ k = 100 ∨ k = 102 ∨ k = 103) := by
    intro xs f hf hm
    obtain ⟨i, hi⟩ := List.mem_iff_getElem?.mp hm
    exact ⟨_, _, hf i b hi, .inl rfl⟩
  rcases hb with rfl | hb | hb | hb | hb | hb | hb | hb
  · exact .inl ⟨_, _, h1, by decide⟩
  · exact ls _ h2 hb
  · exact ls _ h3 hb
  · exact ls _ h4 hb
  · rcases hb with rfl | rfl | rfl
    · exact .inl ⟨_, _, h8, by decide⟩
    · exact .inl ⟨_, _, h9, by decide⟩
    · exact .inl ⟨_, _, h10, by decide⟩
  · exact .inl (im _ _ h5 hb)
  · exact .inl (im _ _ h6 hb)
  · exact .inl (im _ _ h7 hb)
/-- a cell of another kind changed -/
theorem HP.wo (h : HP L P W) {t k : Nat} {vs : List Value} {c : PC} (ht : hp L t = some (k, vs)) (hk : k ≠ 11 ∧ k ≠ 12 ∧ k ≠ 13 ∧ k ≠ 100 ∧ k ≠ 102 ∧ k ≠ 103) (hw : W1 L L' t c) : HP L' P W := by
  refine h.sf (F := fun b => b = t) (Sf.refl.w hw (.inl rfl)) (fun b hb e => ?_)
  subst e
  rcases fp_tag h.1 b hb with ⟨k', vs', q, hk'⟩ | q
  · rw [ht] at q; cases q; omega
  · have := (hp_bd ht).2.1; omega
theorem l_sw1 {p q : Int} (h : HP L P W) (hV : Val W) (hpp : 1 ≤ p ∧ p ≤ pgs W) (hq : 1 ≤ q ∧ q ≤ pgs W) {t : Nat} {L0 L1 : List PC} (h1 : HP L1 P W) (hs : Sf (fpP P) L0 L1) (ht : nCell + L0.length ≤ t) (hit : ItH L1 t (pA P).1 (pA P).2.2.1 0) :
    ∃ L2, lo2_LP_swap_8 (pT P) p q t FU (S, L1) = some ((S, L2), 0, 0) ∧ L2.length = L1.length ∧ HP L2 P (mapP W (exF p q) (nA W) 0) ∧ Sf (fpP P) L0 L2 := by
  have b := hV.z
  have hf := exF_b hpp hq
  have hlen : ((xA P).length : Int) = nA W := h.2.1.1
  obtain ⟨L2, e, l, k⟩ := fe_loop (body := fun go z => lb2_LP_swap_8 (pT P) p q t go z.1 z.2) (S := S) (a := (pA P).1) (r := (pA P).2.1) (t := t) (cp := (pA P).2.2.2.1) (m := (pA P).2.2.1) (xs := xA P) (fun (_ : Unit) z => z) (fun _ z => z) (fun _ s => s) (fun i _ K => HP K P (mapP W (exF p q) i 0) ∧ Sf (fpP P) L0 K ∧ ∃ vs, hp K t = some (14, vs))
    (fun i s K hK => hK.1.lA)
    (fun go s K hK hk hn => by
      show lb2_LP_swap_8 (pT P) p q t go S K = _
      unfold lb2_LP_swap_8
      rw [if_pos hk, hn, bnO_s, if_neg Bool.false_ne_true])
    (fun go i s K x K1 hK h0 hx hk hn hnx hw => by
      obtain ⟨hK1, hK2, vs, hK3⟩ := hK
      have g1 : HP K1 P (mapP W (exF p q) i 0) := hK1.wo hK3 (by decide) hw
      have hl := (List.getElem?_eq_some_iff.mp hx).1
      have hVi : Val (mapP W (exF p q) i 0) := Val_mapP hV hf
      have hi : 0 ≤ i ∧ i < nA (mapP W (exF p q) i 0) := by rw [mp_n.1]; omega
      have hx1 := g1.1.2.2.1 _ _ hx
      obtain ⟨kk, f0, f1, f2, f3, f4, f5, f6⟩ := ad_f hVi hi hx1
      have e5 : at_ (mapP W (exF p q) i 0) 6 i = at_ W 6 i := by rw [mp_6 h0, if_neg (by omega)]
      rw [e5] at f5
      have s1 : Sf (fpP P) L0 K1 := hK2.w hw (.inr ht)
      have hfx : fpP P x := .inr (.inr (.inr (.inr (.inr (.inl (List.mem_of_getElem? hx))))))
      have hxt : x ≠ t := by rintro rfl; rw [hw.at] at hx1; cases hx1
      obtain ⟨K2, e2, w2⟩ := pf_s hx1 (f := 5) (Nat.le_of_ble_eq_true rfl) (V (exF p q (at_ W 6 i)))
      have g2 : HP K2 P (mapP W (exF p q) (i + 1) 0) := by
        have := g1.updA (f := 5) (by decide) hx w2
        rw [← mp_s6 h0]
        exact this
      refine ⟨K2, ?_, by rw [w2.1, hw.1], by rw [w2.ne (Ne.symm hxt)], g2, s1.w w2 (.inl hfx), _, by rw [w2.ne (Ne.symm hxt)]; exact hw.at⟩
      show lb2_LP_swap_8 (pT P) p q t go S K = go (S, K2)
      unfold lb2_LP_swap_8
      rw [if_pos hk, hn, bnO_s, if_pos rfl, if_pos hk, hnx, bnO_s]
      show adC 0 0 _ = _
      rw [adC00]
      simp only [rfB_r, kk, eq_self, if_true, f5, bnO_s]
      unfold exF at e2
      by_cases c1 : at_ W 6 i = p
      · rw [if_pos c1] at e2 ⊢
        rw [e2, bnO_s]
      · rw [if_neg c1] at e2 ⊢
        by_cases c2 : at_ W 6 i = q
        · rw [if_pos c2] at e2 ⊢
          rw [e2, bnO_s]
        · rw [if_neg c2] at e2 ⊢
          rw [e2, bnO_s])
    (xA P).length FU 0 () L1 (by omega) (Int.le_refl _) (FU_big (by omega)) hit ⟨by rw [mp_0]; exact h1, hs, by obtain ⟨l, hl⟩ := hit; exact ⟨_, hl⟩⟩
  rw [hlen] at k
  exact ⟨L2, e, l, k.1, k.2.1⟩
theorem l_sw2 {p q : Int} {m : Int} (hV : Val W) (hpp : 1 ≤ p ∧ p ≤ pgs W) (hq : 1 ≤ q ∧ q ≤ pgs W) {t : Nat} {L0 L1 : List PC} (h1 : HP L1 P (mapP W (exF p q) m 0)) (hs : Sf (fpP P) L0 L1) (ht : nCell + L0.length ≤ t) (hit : ItH L1 t (pB P).1 (pB P).2.2.1 0) :
    ∃ L2, lo2_LP_swap_75 p q t FU (S, L1) = some ((S, L2), 0, 0) ∧ L2.length = L1.length ∧ HP L2 P (mapP W (exF p q) m (nB W)) ∧ Sf (fpP P) L0 L2 := by
  have b := hV.z
  have hf := exF_b hpp hq
  have hlen : ((xB P).length : Int) = nB W := by rw [h1.2.1.2.2, mp_n.2.2.1]
  obtain ⟨L2, e, l, k⟩ := fe_loop (body := fun go z => lb2_LP_swap_75 p q t go z.1 z.2) (S := S) (a := (pB P).1) (r := (pB P).2.1) (t := t) (cp := (pB P).2.2.2.1) (m := (pB P).2.2.1) (xs := xB P) (fun (_ : Unit) z => z) (fun _ z => z) (fun _ s => s) (fun i _ K => HP K P (mapP W (exF p q) m i) ∧ Sf (fpP P) L0 K ∧ ∃ vs, hp K t = some (14, vs))
    (fun i s K hK => hK.1.lB)
    (fun go s K hK hk hn => by
      show lb2_LP_swap_75 p q t go S K = _
      unfold lb2_LP_swap_75
      rw [if_pos hk, hn, bnO_s, if_neg Bool.false_ne_true])
    (fun go i s K x K1 hK h0 hx hk hn hnx hw => by
      obtain ⟨hK1, hK2, vs, hK3⟩ := hK
      have g1 : HP K1 P (mapP W (exF p q) m i) := hK1.wo hK3 (by decide) hw
      have hl := (List.getElem?_eq_some_iff.mp hx).1
      have hVi : Val (mapP W (exF p q) m i) := Val_mapP hV hf
      have hi : 0 ≤ i ∧ i < nB (mapP W (exF p q) m i) := by rw [mp_n.2.2.1]; omega
      have hx1 := g1.1.2.2.2.2.1 _ _ hx
      obtain ⟨kk, f0, f5⟩ := sb_f hVi hi hx1
      have e5 : at_ (mapP W (exF p q) m i) 13 i = at_ W 13 i := by rw [mp_13 h0, if_neg (by omega)]
      rw [e5] at f5
      have s1 : Sf (fpP P) L0 K1 := hK2.w hw (.inr ht)
      have hfx : fpP P x := .inr (.inr (.inr (.inr (.inr (.inr (.inr (List.mem_of_getElem? hx)))))))
      have hxt : x ≠ t := by rintro rfl; rw [hw.at] at hx1; cases hx1
      obtain ⟨K2, e2, w2⟩ := pf_s hx1 (f := 5) (Nat.le_of_ble_eq_true rfl) (V (exF p q (at_ W 13 i)))
      have g2 : HP K2 P (mapP W (exF p q) m (i + 1)) := by
        have := g1.updB hx w2
        rw [← mp_s13 h0]
        exact this
      refine ⟨K2, ?_, by rw [w2.1, hw.1], by rw [w2.ne (Ne.symm hxt)], g2, s1.w w2 (.inl hfx), _, by rw [w2.ne (Ne.symm hxt)]; exact hw.at⟩
      show lb2_LP_swap_75 p q t go S K = go (S, K2)
      unfold lb2_LP_swap_75
      rw [if_pos hk, hn, bnO_s, if_pos rfl, if_pos hk, hnx, bnO_s]
      show adC 0 0 _ = _
      rw [adC00]
      simp only [rfB_r, kk, eq_self, if_true, f5, bnO_s]
      unfold exF at e2
      by_cases c1 : at_ W 13 i = p
      · rw [if_pos c1] at e2 ⊢
        rw [e2, bnO_s]
      · rw [if_neg c1] at e2 ⊢
        by_cases c2 : at_ W 13 i = q
        · rw [if_pos c2] at e2 ⊢
          rw [e2, bnO_s]
        · rw [if_neg c2] at e2 ⊢
          rw [e2, bnO_s])
    (xB P).length FU 0 () L1 (by omega) (Int.le_refl _) (FU_big (by omega)) hit ⟨h1, hs, by obtain ⟨l, hl⟩ := hit; exact ⟨_, hl⟩⟩
  rw [hlen] at k
  exact ⟨L2, e, l, k.1, k.2.1⟩
theorem l_swap {p q : Int} (h : HP L P W) (hV : Val W) (hpp : 1 ≤ p ∧ p ≤ pgs W) (hq : 1 ≤ q ∧ q ≤ pgs W) (hL : L.length < 800000000) : ∃ L', gn_LP_swap (pT P) p q S L = some ((S, L'), 2, 8) ∧ HP L' P (mpV W (exF p q)) ∧ Sf (fpP P) L L' ∧ L'.length = L.length + 2 := by
  obtain ⟨t1, L1, e1, n1⟩ := k_iter (S := S) h.lA (by omega)
  have h1 := h.sf0 n1.sf0
  obtain ⟨L2, e2, l2, h2, s2⟩ := l_sw1 (S := S) h hV hpp hq h1 (Sf.refl.n n1) (by rw [n1.1]; exact Nat.le_refl _) ⟨_, n1.at⟩
  have ll : L2.length = L.length + 1 := l2.trans n1.2.1
  obtain ⟨t3, L3, e3, n3⟩ := k_iter (S := S) h2.lB (by omega)
  obtain ⟨L4, e4, l4, h4, s4⟩ := l_sw2 (S := S) hV hpp hq (h2.sf0 n3.sf0) (s2.n n3) (by rw [n3.1]; have := s2.1; omega) ⟨_, n3.at⟩
  refine ⟨L4, ?_, h4, s4, by rw [l4, n3.2.1, ll]⟩
  unfold gn_LP_swap
  rw [h.fA, bnO_s, rfB_r, if_pos h.kA, e1, bnO_s]
  show adC 1 4 (bnO (lo2_LP_swap_8 (pT P) p q t1 FU (S, L1)) _) = _
  rw [e2, bnO_s]
  show adC 1 4 (adC 0 0 (bnO (gfV L2 (pT P) 12 6) _)) = _
  rw [h2.fB, bnO_s, rfB_r, if_pos h2.kB, e3, bnO_s]
  show adC 1 4 (adC 0 0 (adC 1 4 (bnO (lo2_LP_swap_75 p q t3 FU (S, L3)) _))) = _
  rw [e4]
  rfl
end Swap
