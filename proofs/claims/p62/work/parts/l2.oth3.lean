/-! OTHER CHANGES: stories laid, whole; a list of ads grown -/
section Oth3
variable {S : St} {L L' : List PC} {P : PA} {W W' : Vw} {n : Int} {hs : Int → Vw}
theorem lsT_n {m : Nat} {j : Int} {z : Int × Vw} : itR lsT j (m + 1) z = itR lsT (j + 1) m (lsT j z) := rfl
theorem l_o405 (h0 : HP L P W) (hL : L.length < 300000000) : ∀ (m N : Nat) (z : Int × Vw) (K : List PC), m ≤ 8 → HP K P z.2 → Good z.2 → m < N → Sf (fpP P) L K → K.length ≤ L.length + 8 - m → 0 ≤ z.1 ∧ z.1 ≤ 1000 - 20 * m →
    Ok (lp (fun go q => lb2_Law_others_405 (pT P) go q.1 q.2.1 q.2.2.1 q.2.2.2) N (z.1, (m : Int), (S, K))) m (4 * m) (fun v => ∃ K', v = ((itR lsT (8 - m) m z).1, (S, K')) ∧ HP K' P (itR lsT (8 - m) m z).2 ∧ Sf (fpP P) L K' ∧ K'.length ≤ L.length + 8)
  | 0, N + 1, z, K, hm, h, hG, _, hs, hK, hz => by
    rw [lp_succ]
    show Ok (lb2_Law_others_405 (pT P) _ z.1 ((0 : Nat) : Int) S K) _ _ _
    unfold lb2_Law_others_405
    rw [if_pos (by omega)]
    exact Ok.ret ⟨K, rfl, h, hs, by omega⟩
  | m + 1, N + 1, z, K, hm, h, hG, hN, hs, hK, hz => by
    have hV := hG.1
    have bz := hV.z
    have old := fp_old h0
    have hle := hs.1
    obtain ⟨t1, K1, e1, n1⟩ := k_iter (S := S) h.lS (by omega)
    have h1 := h.sf0 n1.sf0
    have s1 : Sf (fpP P) L K1 := hs.n n1
    have t1e := n1.1
    have l1 := n1.2.1
    obtain ⟨K2, e2, h2, s2, l2⟩ := l_o419 (S := S) (L := L) (y := ((m + 1 : Nat) : Int)) (it := t1) (nS z.2).toNat FU 0 z K1 h1 hG (by omega) (FU_big (by omega)) ⟨V (-1), n1.at⟩ s1 (by omega) old (by omega)
    have ey : (8 : Int) - (8 - ((m + 1 : Nat) : Int)) = ((m + 1 : Nat) : Int) := by omega
    have eT : lsT (8 - ((m + 1 : Nat) : Int)) z = itR (lsS ((m + 1 : Nat) : Int)) ((0 : Nat) : Int) (nS z.2).toNat z := by
      unfold lsT lsI
      rw [ey]; rfl
    rw [← eT] at h2 e2
    have gI := lsI_i (y := ((m + 1 : Nat) : Int)) (i := nS z.2) (x := z) hG ⟨by omega, Int.le_refl _⟩
    have eI : lsI ((m + 1 : Nat) : Int) (nS z.2) z = lsT (8 - ((m + 1 : Nat) : Int)) z := by unfold lsT; rw [ey]
    rw [eI] at gI
    have e8 : (8 : Int) - ((m + 1 : Nat) : Int) + 1 = 8 - (m : Int) := by omega
    have ih := l_o405 h0 hL m N (lsT (8 - ((m + 1 : Nat) : Int)) z) K2 (by omega) h2 gI.1 (by omega) s2 (by omega) (by omega)
    have e2 : lo2_Law_others_419 (pT P) ((m + 1 : Nat) : Int) t1 FU (z.1, (S, K1)) = some (((lsT (8 - ((m + 1 : Nat) : Int)) z).1, (S, K2)), 0, 0) := e2
    rw [lp_succ, lsT_n, e8]
    show Ok (lb2_Law_others_405 (pT P) _ z.1 ((m + 1 : Nat) : Int) S K) _ _ _
    unfold lb2_Law_others_405
    rw [if_neg (by omega), h.fS, bnO_s, rfB_r, if_pos h.kS, e1, bnO_s]
    refine Ok.ad (c := 1) (s := 4) (by omega) (by omega) ?_
    dsimp only
    rw [rfB_r, e2, bnO_s]
    refine Ok.ad (c := 0) (s := 0) (Nat.zero_le _) (Nat.zero_le _) ?_
    dsimp only
    rw [nm_x, wr_s (z := ((m + 1 : Nat) : Int) + -1) (by omega) (by omega), show ((m + 1 : Nat) : Int) + -1 = (m : Int) by omega]
    exact ih.mono (by omega) (by omega) (fun _ q => q)
theorem lsO_o : tm (lsO W 8).2 = tm W ∧ ∀ x, at_ (lsO W 8).2 16 x = at_ W 16 x := by
  have one : ∀ (y s : Int) (z : Int × Vw), tm (lsS y s z).2 = tm z.2 ∧ ∀ x, at_ (lsS y s z).2 16 x = at_ z.2 16 x := fun y s z => by
    unfold lsS
    split
    · exact ⟨tm_up (by decide), fun x => at_upn (by decide)⟩
    · exact ⟨rfl, fun _ => rfl⟩
  have q := itR_inv (f := lsT) (n := 8) (i := 0) (s := ((0 : Int), W)) (I := fun _ s => tm s.2 = tm W ∧ ∀ x, at_ s.2 16 x = at_ W 16 x) (fun j s _ _ hI => by
    have r := itR_inv (f := lsS (8 - j)) (n := (nS s.2).toNat) (i := 0) (s := s) (I := fun _ s => tm s.2 = tm W ∧ ∀ x, at_ s.2 16 x = at_ W 16 x) (fun k s' _ _ hI' => by
      obtain ⟨o1, o2⟩ := one (8 - j) k s'
      exact ⟨o1.trans hI'.1, fun x => (o2 x).trans (hI'.2 x)⟩) hI
    exact r) ⟨rfl, fun _ => rfl⟩
  exact q
theorem l_o17 (h : HP L P W) (hG : Good W) (hT : PT S 5 W) (hc : HCl S n hs) (hL : L.length < 300000000) :
    Ok (bnO (lo2_Law_others_405 (pT P) FU (0, 8, (S, L))) fun p109 => adC p109.2.1 p109.2.2 (bnO (fn_FP_layStories 0 p109.1.2.1) fun p110 => if p110.1 = p109.1.1 then (some ((1, (p110.2, p109.1.2.2)), 0, 0)) else (some (((-1), (p110.2, p109.1.2.2)), 0, 0)))) 8 32 (ChR S L P W n hs) := by
  obtain ⟨hG', S', e, hC⟩ := cl_layStories hT hG hc
  have q := l_o405 (S := S) h hL 8 FU (0, W) L (Nat.le_refl _) h hG (FU_big (by decide)) Sf.refl (by omega) (by omega)
  refine Ok.bind (o := lo2_Law_others_405 (pT P) FU (0, 8, (S, L))) q (Nat.le_refl _) (Nat.le_refl _) ?_
  rintro v cc ss ⟨K', rfl, h', s', l'⟩
  have eO : itR lsT (8 - ((8 : Nat) : Int)) 8 ((0 : Int), W) = lsO W 8 := rfl
  rw [eO] at h' ⊢
  dsimp only
  rw [e, bnO_s]
  dsimp only
  rw [if_pos rfl]
  have n5 := (lsO_i hG (i := 8) (by decide)).2.1
  obtain ⟨t1, t2⟩ := lsO_o (W := W)
  exact Ok.ret (ChR.yes h' s' (by omega) hG' ⟨⟨n5.2.1, n5.2.2.2.1⟩, by rw [t1]; omega, fun x _ _ => .inr (t2 x)⟩ hC)
end Oth3
