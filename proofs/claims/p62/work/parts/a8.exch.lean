/-! THE LAW'S REASONS against exchanges -/
section ExR
variable {S : St} {L L' : List PC} {P : PA} {W : Vw}
def fv9 (W : Vw) (i : Int) : Int := if flR W i = 0 then 9 else flR W i
theorem flR_lv {a : Int} : flR W a = 0 ∨ (4 ≤ flR W a ∧ flR W a ≤ 6) := flR_v
def exL (W : Vw) (p q i m : Int) : Int := if at_ W 6 i = p ∨ at_ W 6 i = q then i_min m (fv9 W i) else m
theorem ex_it {p q : Int} : ∀ {n : Nat} {i m : Int}, (m = 1000000 ∨ (4 ≤ m ∧ m ≤ 6)) → itR (exL W p q) i n (cv9 m) = cv9 (itR (exS W p q) i n m)
  | 0, _, _, _ => rfl
  | n + 1, i, m, hm => by
    show itR _ (i + 1) n (exL W p q i (cv9 m)) = cv9 (itR (exS W p q) (i + 1) n (exS W p q i m))
    have v := flR_lv (W := W) (a := i)
    have e : exL W p q i (cv9 m) = cv9 (exS W p q i m) := by
      unfold exL exS
      by_cases c : at_ W 6 i = p ∨ at_ W 6 i = q
      · rw [if_pos c, if_pos c]
        unfold i_min cv9 fv9
        rcases v with v | v
        · rw [if_pos v, if_pos v]
          rcases hm with rfl | hm
          · rw [if_pos rfl, if_neg (by decide)]
          · rw [if_neg (by omega), if_neg (by omega)]
        · rw [if_neg (c := flR W i = 0) (by omega), if_neg (c := flR W i = 0) (by omega)]
          rcases hm with rfl | hm
          · rw [if_pos rfl, if_pos (c := flR W i < 9) (by omega), if_pos (c := flR W i < 1000000) (by omega), if_neg (by omega)]
          · rw [if_neg (c := m = 1000000) (by omega)]
            by_cases c : flR W i < m
            · rw [if_pos c, if_neg (by omega)]
            · rw [if_neg c, if_neg (by omega)]
      · rw [if_neg c, if_neg c]
    have hm' : exS W p q i m = 1000000 ∨ (4 ≤ exS W p q i m ∧ exS W p q i m ≤ 6) := by
      unfold exS
      split
      · split
        · exact hm
        · split
          · exact .inr (by omega)
          · exact hm
      · exact hm
    rw [e]
    exact ex_it hm'
theorem l_exLoop (h : HP L P W) (hV : Val W) {p q : Int} (hp : 1 ≤ p ∧ p ≤ pgs W) (hq : 1 ≤ q ∧ q ≤ pgs W) : lo2_LP_exchangeReason_48 (pT P) p q S L FU (9, 0) = some (cv9 (exM W p q)) := by
  have b := hV.z
  have z := lp_it (body := fun go w => lb2_LP_exchangeReason_48 (pT P) p q S L go w.1 w.2) (fun i b => (b, i)) (exL W p q) id (fun i _ => 0 ≤ i) (nA W)
    (fun go i b h0 h1 => by
      show lb2_LP_exchangeReason_48 (pT P) p q S L go b i = some b
      unfold lb2_LP_exchangeReason_48
      simp only [h.fA, bnO_s, rfB_r, h.kA, eq_self, if_true, h.cA]
      rw [if_pos h1])
    (fun go i b h0 h1 => by
      refine ⟨?_, by omega⟩
      show lb2_LP_exchangeReason_48 (pT P) p q S L go b i = go (exL W p q i b, i + 1)
      obtain ⟨x, hx, hg, hxc⟩ := h.ad ⟨h0, h1⟩
      obtain ⟨k, f0, f1, f2, f3, f4, f5, f6⟩ := ad_f hV ⟨h0, h1⟩ hxc
      have v := hV.2.1 i h0 h1
      have jf : (at_ W 6 i = p ∨ at_ W 6 i = q) → jf2_LP_exchangeReason_92_48 (pT P) p q S L go b i x = go (i_min b (fv9 W i), i + 1) := fun c => by
        have hpg : 1 ≤ at_ W 6 i ∧ at_ W 6 i ≤ pgs W := by rcases c with c | c <;> omega
        have hfb := l_fb hV hpg.1 hpg.2
        have vf := hV.2.2.2.2 _ hfb.1 hfb.2
        unfold jf2_LP_exchangeReason_92_48 fv9 flR
        simp only [f6, f5, bnO_s, h.k, eq_self, if_true, l_sided f2 (by omega : 0 ≤ at_ W 3 i ∧ at_ W 3 i ≤ 2) (by omega : 0 ≤ at_ W 6 i), l_rival h hV ⟨h0, h1⟩ (by omega : 0 ≤ at_ W 6 i ∧ at_ W 6 i ≤ 1000) hx, nm_x, wr_s (z := i + 1) (by omega) (by omega), h.fC, l_form h hV hpg.1 (by omega), rfB_r, h.co hV hfb]
        unfold coP
        by_cases c4 : at_ W 2 i = 0
        · rw [if_pos c4, if_neg (c := at_ W 2 i = 1 ∧ decide (at_ W 14 (fOf W (at_ W 6 i)) = 1) = false) (by omega)]
          cases onSd (at_ W 6 i) (at_ W 3 i) <;> cases rivl W i (at_ W 6 i / 2) <;> rfl
        · rw [if_neg c4]
          rcases vf.1 with e | e
          · rw [if_pos e, if_pos (c := at_ W 2 i = 1 ∧ decide (at_ W 14 (fOf W (at_ W 6 i)) = 1) = false) ⟨by omega, by rw [e]; rfl⟩]; rfl
          · rw [if_neg (by omega), if_neg (c := at_ W 2 i = 1 ∧ decide (at_ W 14 (fOf W (at_ W 6 i)) = 1) = false) (fun q => by rw [e] at q; exact absurd q.2 (by decide))]
            cases onSd (at_ W 6 i) (at_ W 3 i) <;> cases rivl W i (at_ W 6 i / 2) <;> rfl
      unfold lb2_LP_exchangeReason_48 exL
      simp only [h.fA, bnO_s, rfB_r, h.kA, eq_self, if_true, h.cA, hg, k, f5, nm_x, wr_s (z := i + 1) (by omega) (by omega)]
      rw [if_neg (by omega)]
      by_cases c1 : at_ W 6 i = p
      · rw [if_pos c1, if_pos (.inl c1), jf (.inl c1)]
      · rw [if_neg c1]
        by_cases c2 : at_ W 6 i = q
        · rw [if_pos c2, if_pos (.inr c2), jf (.inr c2)]
        · rw [if_neg c2, if_neg (fun z => z.elim c1 c2)]) (nA W).toNat FU 0 9 (Int.le_refl _) (by omega) (FU_big (by omega))
  rw [show lo2_LP_exchangeReason_48 (pT P) p q S L FU (9, 0) = _ from z]
  exact congrArg some (ex_it (.inl rfl))
theorem mpV_Val (hV : Val W) {p q : Int} (hp : 1 ≤ p ∧ p ≤ pgs W) (hq : 1 ≤ q ∧ q ≤ pgs W) : Val (mpV W (exF p q)) ∧ pgs (mpV W (exF p q)) = pgs W := ⟨Val_mapP hV (exF_b hp hq), mp_pgs⟩
theorem l_exReason {p q : Int} (h : HP L P W) (hV : Val W) (hp : 1 ≤ p ∧ p ≤ pgs W) (hq : 1 ≤ q ∧ q ≤ pgs W) (hL : L.length < 700000000) : Ok (gn_LP_exchangeReason (pT P) p q S L) 4 16 (fun v => ∃ L', v = (exR W p q, (S, L')) ∧ HP L' P W ∧ Sf (fpP P) L L' ∧ L'.length ≤ L.length + 4) := by
  unfold gn_LP_exchangeReason exR
  rw [if_pos h.k, l_isShut h hV hp.1 hp.2, bnO_s]
  by_cases c1 : prP W p = true
  · rw [if_pos c1, if_pos (.inl c1)]
    exact Ok.ret ⟨L, rfl, h, Sf.refl, by omega⟩
  · rw [if_neg c1, if_pos h.k, l_isShut h hV hq.1 hq.2, bnO_s]
    by_cases c2 : prP W q = true
    · rw [if_pos c2, if_pos (.inr c2)]
      exact Ok.ret ⟨L, rfl, h, Sf.refl, by omega⟩
    · rw [if_neg c2, if_pos h.k, l_story h hV, bnO_s, if_neg (c := prP W p = true ∨ prP W q = true) (fun z => z.elim c1 c2)]
      have sp := stOn_spec hV (p := p) (but := -1)
      have sq := stOn_spec hV (p := q) (but := -1)
      by_cases c3 : 0 ≤ stOn W p (-1)
      · rw [if_pos c3, if_pos (.inl (by omega))]
        exact Ok.ret ⟨L, rfl, h, Sf.refl, by omega⟩
      · rw [if_neg c3, if_pos h.k, l_story h hV, bnO_s]
        have e3 : stOn W p (-1) = -1 := by
          rcases sp with ⟨e, -⟩ | ⟨e, -⟩
          · exact e
          · omega
        by_cases c4 : stOn W q (-1) < 0
        · have e4 : stOn W q (-1) = -1 := by
            rcases sq with ⟨e, -⟩ | ⟨e, -⟩
            · exact e
            · omega
          rw [if_pos c4, if_neg (c := stOn W p (-1) ≠ -1 ∨ stOn W q (-1) ≠ -1) (fun z => z.elim (fun y => y e3) (fun y => y e4)), if_pos h.k]
          obtain ⟨L1, e1, h1, s1, l1⟩ := l_swap (S := S) h hV hp hq (by omega)
          have hV1 := (mpV_Val hV hp hq).1
          have hpg := (mpV_Val hV hp hq).2
          obtain ⟨L2, e2, h2, s2, l2⟩ := l_swap (S := S) h1 hV1 (p := p) (q := q) (by rw [hpg]; exact hp) (by rw [hpg]; exact hq) (by omega)
          rw [mpV_inv exF_inv] at h2
          rw [e1, bnO_s]
          refine Ok.ad (c := 2) (s := 8) (by omega) (by omega) ?_
          show Ok (bnO (lo2_LP_exchangeReason_48 (pT P) p q S L1 FU (9, 0)) _) _ _ _
          rw [l_exLoop h1 hV1 (by rw [hpg]; exact hp) (by rw [hpg]; exact hq), bnO_s]
          show Ok (if isK L1 (pT P) 12 = true then _ else none) _ _ _
          rw [if_pos h1.k]
          show Ok (bnO (gn_LP_swap (pT P) p q S L1) _) _ _ _
          rw [e2, bnO_s]
          refine Ok.ad (c := 2) (s := 8) (by omega) (by omega) ?_
          have mv := exM_v (W := mpV W (exF p q)) (p := p) (q := q)
          show Ok (if cv9 (exM (mpV W (exF p q)) p q) = 9 then some ((0, (S, L2)), 0, 0) else some ((cv9 (exM (mpV W (exF p q)) p q), (S, L2)), 0, 0)) _ _ _
          unfold cv9
          rcases mv with mv | mv
          · rw [if_pos mv, if_pos rfl, if_pos mv]
            exact Ok.ret ⟨L2, rfl, h2, s1.trans s2, by omega⟩
          · rw [if_neg (c := exM (mpV W (exF p q)) p q = 1000000) (by omega), if_neg (c := exM (mpV W (exF p q)) p q = 9) (by omega), if_neg (c := exM (mpV W (exF p q)) p q = 1000000) (by omega)]
            exact Ok.ret ⟨L2, rfl, h2, s1.trans s2, by omega⟩
        · rw [if_neg c4, if_pos (.inr (by omega))]
          exact Ok.ret ⟨L, rfl, h, Sf.refl, by omega⟩
end ExR
