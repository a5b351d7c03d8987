/-! CHANGES: clear and exchange, whole -/
section Chg6
variable {S : St} {L K : List PC} {P : PA} {W : Vw} {n : Int} {hs : Int → Vw} {a p k : Int} {x : Nat}
theorem fp_old (h : HP K P W) : ∀ b, fpP P b → b < XB → b < nCell + K.length := fun b hb hx => by
  rcases fp_lt h.1 b hb with ⟨c, e⟩ | e
  · exact hp_lt e
  · omega
theorem Kd_mp {f : Int → Int} {m n : Int} : Kd W (mapP W f m n) := by
  obtain ⟨n1, n2, n3, n4, n5, n6⟩ := mp_n (W := W) (f := f) (m := m) (n := n)
  exact ⟨⟨n2, n4⟩, by rw [n6]; omega, fun x _ _ => .inr (mp_ao (by decide) (by decide) x)⟩
theorem l_c688 {v : Int} (h : HP K P W) (hs' : Sf (fpP P) L K) (hK : K.length ≤ L.length + 50) (hL : L.length < 300000000) (hG : Good W) (hT : PT S 5 W) (hc : HCl S n hs) (hp : 1 ≤ p ∧ p ≤ pgs W) (hv : v = wr (adsO W p + stbO W p)) (b : Bool) (hb : b = true ↔ ¬ (v = 0 ∨ prP W p = true)) :
    Ok (jf2_Law_changes_688 (pT P) p v (bi b) S K) 7 40 (ChR S L P W n hs) := by
  obtain ⟨q1, q2⟩ := cl_clear hT hG hc hp
  rw [← hv] at q1 q2
  have hV := hG.1
  have bz := hV.z
  unfold jf2_Law_changes_688
  cases b with
  | false =>
    have hn : v = 0 ∨ prP W p = true := Decidable.byContradiction (fun z => Bool.false_ne_true (hb.mpr z))
    rw [if_pos (c := bi false = 0) rfl, q1 hn, bnO_s]
    dsimp only
    rw [if_pos rfl]
    refine Ok.ad (c := 1) (s := 6) (by omega) (by omega) ?_
    rw [if_pos (c := bi false = 0) rfl, if_pos rfl, if_pos (c := bi false = 0) rfl]
    exact Ok.ret (ChR.no hT hc h hs' (by omega))
  | true =>
    obtain ⟨hG', S', eC, hC⟩ := q2 (hb.mp rfl)
    have hle := hs'.1
    rw [if_neg (c := bi true = 0) (by decide), h.fA, bnO_s, rfB_r, if_pos h.k]
    refine Ok.bind (l_onA (S := S) h hV hG.2.1 hp (by omega)) (by omega) (by omega) ?_
    rintro u cc ss ⟨K1, rA, mA, cA, rfl, hA1, s1, l1, oA⟩
    have hA1 : LsH K1 (nCell + K.length) rA mA cA ((ksA W p).map bx) := hA1
    have lmA : ((ksA W p).map bx).length = (ksA W p).length := List.length_map _
    have llA := hA1.len
    dsimp only
    obtain ⟨it1, K2, e2, n2⟩ := k_iter (S := S) hA1 (by omega)
    have h2 := (h.sf0 s1).sf0 n2.sf0
    have it1e := n2.1
    have l2 := n2.2.1
    have hle1 := s1.1
    rw [rfB_r, if_pos hA1.k, e2, bnO_s]
    refine Ok.ad (c := 1) (s := 4) (by omega) (by omega) ?_
    dsimp only
    rw [rfB_r]
    have lA : ∀ k ∈ ksA W p, (k : Int) < nA W ∧ k < 100 := fun k hk => by have := (idxs_mem.mp hk).1; omega
    have lB : ∀ k ∈ ksB W p, (k : Int) < nB W ∧ k < 100 := fun k hk => by have := (idxs_mem.mp hk).1; omega
    have old := fp_old h
    have sK2 : Sf (fpP P) K K2 := (s1.mono (fun b q => q.elim)).trans (n2.sf0.mono (fun b q => q.elim))
    obtain ⟨K3, e3, h3, s3, l3⟩ := l_c710 (S := S) (W := W) (L := K) (P := P) (a9 := p) (a10 := v) (a11 := bi true) (ks := ksA W p) lA (ksA W p).length FU 0 W K2 (by omega) (FU_big (by omega)) h2 rfl ⟨V (-1), n2.at⟩ (hA1.sf n2.sf0 id (fun _ => id)) sK2 (by omega) (Nat.le_refl _) oA old
    rw [List.drop_zero, show oA_ W (ksA W p) = mapP W (clF p) (nA W).toNat 0 from oA_it _] at h3
    have e3' : lo2_Law_changes_710 (pT P) p v (bi true) it1 FU (S, K2) = some ((S, K3), 0, 0) := e3
    rw [e3', bnO_s]
    refine Ok.ad (c := 0) (s := 0) (Nat.zero_le _) (Nat.zero_le _) ?_
    have hV1 : Val (mapP W (clF p) (nA W).toNat 0) := Val_mapP hV (clF_bd hV p)
    obtain ⟨n1, -, n3, -⟩ := mp_n (W := W) (f := clF p) (m := ((nA W).toNat : Nat)) (n := 0)
    dsimp only
    rw [h3.fB, bnO_s, rfB_r, if_pos h3.k]
    have hlen : ((xB P).length : Int) = nB W := by rw [← n3]; exact h3.2.1.2.2
    have el : (pB P).2.2.2.2.length = (nB W).toNat := by show (xB P).length = _; omega
    have e13 : ∀ z : Int, at_ (mapP W (clF p) (nA W).toNat 0) 13 z = at_ W 13 z := fun z => by
      unfold at_ mapP
      rw [if_neg (by omega), if_neg (by omega)]
    have h4 := idx4B hV hG.2.1 hp
    have on := l_on (S := S) (A := pB P) (w := at_ W 13) (p := p) (t := pT P) h3.lB (fun i y hx => ⟨sbV (mapP W (clF p) (nA W).toNat 0) i, h3.1.2.2.2.2.1 _ _ hx, by rw [← e13, at_n]; rfl, by
      have hl := (List.getElem?_eq_some_iff.mp hx).1
      rw [at_n]
      exact (val_in hV).2.2.2.1 i (by omega) 13 (by decide) (by decide)⟩) (by rw [el]; omega) (by rw [el]; omega) (by omega)
    rw [el] at on
    refine Ok.bind on (by omega) (by omega) ?_
    rintro u cc ss ⟨K4, rB, mB, cB, rfl, hB4, s4, l4, oB⟩
    have hB4 : LsH K4 (nCell + K3.length) rB mB cB ((ksB W p).map bx) := hB4
    have lmB : ((ksB W p).map bx).length = (ksB W p).length := List.length_map _
    have llB := hB4.len
    dsimp only
    obtain ⟨it2, K5, e5, n5⟩ := k_iter (S := S) hB4 (by omega)
    have h5 := (h3.sf0 s4).sf0 n5.sf0
    have it2e := n5.1
    have l5 := n5.2.1
    have hle4 := s4.1
    rw [rfB_r, if_pos hB4.k, e5, bnO_s]
    refine Ok.ad (c := 1) (s := 4) (by omega) (by omega) ?_
    dsimp only
    rw [rfB_r]
    have old3 := fp_old h3
    have sK5 : Sf (fpP P) K3 K5 := (s4.mono (fun b q => q.elim)).trans (n5.sf0.mono (fun b q => q.elim))
    obtain ⟨K6, e6, h6, s6, l6⟩ := l_c769 (S := S) (W := W) (L := K3) (P := P) (a9 := p) (a10 := v) (a11 := bi true) (ks := ksB W p) lB (ksB W p).length FU 0 (mapP W (clF p) (nA W).toNat 0) K5 (by omega) (FU_big (by omega)) h5 n3 ⟨V (-1), n5.at⟩ (hB4.sf n5.sf0 id (fun _ => id)) sK5 (by omega) (Nat.le_refl _) oB old3
    rw [List.drop_zero, show oB_ (mapP W (clF p) (nA W).toNat 0) (ksB W p) = mapP W (clF p) (nA W).toNat (nB W).toNat from oB_it _, show (((nA W).toNat : Nat) : Int) = nA W by omega, show (((nB W).toNat : Nat) : Int) = nB W by omega] at h6
    have e6' : lo2_Law_changes_769 (pT P) p v (bi true) it2 FU (S, K5) = some ((S, K6), 0, 0) := e6
    rw [e6', bnO_s]
    refine Ok.ad (c := 0) (s := 0) (Nat.zero_le _) (Nat.zero_le _) ?_
    dsimp only
    rw [eC, bnO_s]
    dsimp only
    rw [if_pos rfl]
    refine Ok.ad (c := 1) (s := 6) (by omega) (by omega) ?_
    rw [if_neg (c := bi true = 0) (by decide), if_pos rfl, if_neg (c := bi true = 0) (by decide)]
    exact Ok.ret (ChR.yes h6 ((hs'.trans s3).trans s6) (by omega) hG' Kd_mp hC)
theorem l_c626 {a2 a3 a4 a6 a8 : Int} {c7 : Value} {C T : Nat} (h : HP L P W) (hL : L.length < 300000000) (hG : Good W) (hT : PT S 5 W) (hc : HCl S n hs) (hp : 0 ≤ p ∧ p ≤ pgs W) (h3 : 0 ≤ a3 ∧ a3 < 2147483648) (hC : 20 ≤ C) (hTT : 100 ≤ T) (hO : Ok (gn_Law_others (pT P) a2 a3 a4 a6 c7 a8 S L) C T (ChR S L P W n hs)) :
    Ok (jf2_Law_changes_626 (pT P) a2 a3 a4 p a6 c7 a8 S L) C T (ChR S L P W n hs) := by
  have hV := hG.1
  have bz := hV.z
  have bp := hV.pg
  have m1 : 1 ≤ i_max 1 p ∧ i_max 1 p ≤ pgs W := by unfold i_max; split <;> omega
  unfold jf2_Law_changes_626
  by_cases c9 : a2 = 9
  · rw [if_pos c9, h.fA, bnO_s, rfB_r, if_pos h.k]
    refine Ok.bind (l_onA (S := S) h hV hG.2.1 m1 (by omega)) (by omega) (by omega) ?_
    rintro u cc ss ⟨K1, rA, mA, cA, rfl, hA1, s1, l1, oA⟩
    have hA1 : LsH K1 (nCell + L.length) rA mA cA ((ksA W (i_max 1 p)).map bx) := hA1
    dsimp only
    have h1 := h.sf0 s1
    rw [rfB_r, if_pos hA1.k, k_size hA1, bnO_s, h1.fB, bnO_s, rfB_r, if_pos h1.k]
    refine Ok.bind (l_onB (S := S) h1 hV hG.2.1 m1 (by omega)) (by omega) (by omega) ?_
    rintro u cc ss ⟨K2, rB, mB, cB, rfl, hB2, s2, l2, oB⟩
    have hB2 : LsH K2 (nCell + K1.length) rB mB cB ((ksB W (i_max 1 p)).map bx) := hB2
    dsimp only
    have h2 := h1.sf0 s2
    have kn := ks_num hG m1
    have kc := ks_cap hG m1
    have lmA : ((ksA W (i_max 1 p)).map bx).length = (ksA W (i_max 1 p)).length := List.length_map _
    have lmB : ((ksB W (i_max 1 p)).map bx).length = (ksB W (i_max 1 p)).length := List.length_map _
    have sK2 : Sf (fpP P) L K2 := (s1.mono (fun b q => q.elim)).trans (s2.mono (fun b q => q.elim))
    have fin := fun b hb => l_c688 (S := S) (n := n) (hs := hs) h2 sK2 (by omega) hL hG hT hc m1 rfl b hb
    have ew : wr (adsO W (i_max 1 p) + stbO W (i_max 1 p)) = adsO W (i_max 1 p) + stbO W (i_max 1 p) := wr_s (by omega) (by omega)
    rw [rfB_r, if_pos hB2.k, k_size hB2, bnO_s, lmA, lmB, kn.1, kn.2, nm_x]
    rw [ew] at fin ⊢
    by_cases d : adsO W (i_max 1 p) + stbO W (i_max 1 p) ≤ 0
    · rw [if_pos d]
      exact (fin false ⟨fun q => absurd q Bool.false_ne_true, fun q => absurd (.inl (by omega)) q⟩).mono (by omega) (by omega) (fun _ q => q)
    · rw [if_neg d, if_pos h2.k, l_isShut h2 hV m1.1 m1.2, bnO_s]
      by_cases e : prP W (i_max 1 p) = true
      · rw [if_pos e]
        exact (fin false ⟨fun q => absurd q Bool.false_ne_true, fun q => absurd (.inr e) q⟩).mono (by omega) (by omega) (fun _ q => q)
      · rw [if_neg e]
        exact (fin true ⟨fun _ q => q.elim (fun z => by omega) e, fun _ => rfl⟩).mono (by omega) (by omega) (fun _ q => q)
  · rw [if_neg c9]
    by_cases c10 : a2 = 10
    · have m3 : 1 ≤ 1 + a3 % pgs W ∧ 1 + a3 % pgs W ≤ pgs W := by
        have q1 := Int.emod_nonneg a3 (b := pgs W) (by omega)
        have q2 := Int.emod_lt_of_pos a3 (b := pgs W) (by omega)
        omega
      rw [if_pos c10, if_pos h.k, l_pages h hV, bnO_s, if_pos (by omega), nm_x, Int.tmod_eq_emod_of_nonneg h3.1, wr_s (z := 1 + a3 % pgs W) (by omega) (by omega), if_pos h.k]
      refine Ok.bind (l_exReason (S := S) h hV m1 m3 (by omega)) (by omega) (by omega) ?_
      rintro u cc ss ⟨K1, rfl, h1, s1, l1⟩
      dsimp only
      obtain ⟨q1, q2⟩ := cl_exchange hT hG hc m1 m3
      by_cases d : exR W (i_max 1 p) (1 + a3 % pgs W) = 0
      · obtain ⟨hG', S', e, hC'⟩ := q2 d
        obtain ⟨K2, e2, h2, s2, l2⟩ := l_swap (S := S) h1 hV m1 m3 (by omega)
        rw [if_pos d, if_pos h1.k, e2, bnO_s]
        refine Ok.ad (c := 2) (s := 8) (by omega) (by omega) ?_
        dsimp only
        rw [e, bnO_s]
        dsimp only
        rw [if_pos rfl]
        refine Ok.ad (c := 2) (s := 12) (by omega) (by omega) ?_
        rw [if_pos d.symm, if_pos d]
        exact Ok.ret (ChR.yes h2 (s1.trans s2) (by omega) hG' Kd_mp hC')
      · rw [if_neg d, q1 d, bnO_s]
        dsimp only
        rw [if_pos rfl]
        refine Ok.ad (c := 2) (s := 12) (by omega) (by omega) ?_
        rw [if_pos rfl, if_neg d]
        exact Ok.ret (ChR.no hT hc h1 s1 (by omega))
    · rw [if_neg c10]
      refine Ok.bind hO (Nat.le_refl _) (Nat.le_refl _) ?_
      rintro ⟨d, S', L'⟩ cc ss z
      exact Ok.ret z
end Chg6
