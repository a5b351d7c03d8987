/-! OTHER CHANGES: the law's method that makes them, whole; a change, whole -/
section Oth6
variable {S : St} {L K : List PC} {P : PA} {W : Vw} {n : Int} {hs : Int → Vw} {k : Int}
theorem latF_b (hV : Val W) {f : Int} : 0 ≤ latF W f := by
  have b := hV.z
  have qa := sumR_bd (w := fun a => if onF W a f = true then (if laA W a = true then (1 : Int) else 0) else 0) (l := 0) (h := 1) (n := (nA W).toNat) (i := 0) (fun j _ _ => by
    show 0 ≤ (if onF W j f = true then (if laA W j = true then (1 : Int) else 0) else 0) ∧ (if onF W j f = true then (if laA W j = true then (1 : Int) else 0) else 0) ≤ 1
    split
    · split <;> omega
    · omega)
  have qs := sumR_bd (w := fun s => if laS W s = true then (if hasPg W s f = true then (1 : Int) else 0) else 0) (l := 0) (h := 1) (n := (nS W).toNat) (i := 0) (fun j _ _ => by
    show 0 ≤ (if laS W j = true then (if hasPg W j f = true then (1 : Int) else 0) else 0) ∧ (if laS W j = true then (if hasPg W j f = true then (1 : Int) else 0) else 0) ≤ 1
    split
    · split <;> omega
    · omega)
  unfold latF sumA sumS
  rw [wr_s (by omega) (by omega)]
  omega
theorem l_o756 {a4 : Int} (hT : PT S 5 W) (hG : Good W) (hc : HCl S n hs) (hk : 0 ≤ k ∧ k < nA W) (h4 : 0 ≤ a4 ∧ a4 < 2147483648) (hs' : Sf (fpP P) L K) (hK : K.length ≤ L.length + 600) (b : Bool) (hb : (b = false ∧ at_ W 6 k ≠ 0 ∧ HP K P W) ∨ (b = true ∧ at_ W 6 k = 0 ∧ HP K P (up (up W 2 k.toNat (if a4 % 2 = 0 then 1 else 0)) 3 k.toNat (a4 / 2 % 3)))) :
    Ok (jf2_Law_others_756 a4 k (bi b) S K) 2 12 (ChR S L P W n hs) := by
  have m2 := md_b h4.1 (m := 2) (by decide)
  have d2 : a4.tdiv 2 = a4 / 2 := Int.tdiv_eq_ediv_of_nonneg h4.1
  have q2 : 0 ≤ a4 / 2 ∧ a4 / 2 < 2147483648 := by omega
  have m3 := md_b q2.1 (m := 3) (by decide)
  obtain ⟨x, hx⟩ : ∃ x : Int, x = if a4 % 2 = 0 then 1 else 0 := ⟨_, rfl⟩
  rw [← hx] at hb
  have hx01 : x = 0 ∨ x = 1 := by rw [hx]; split <;> omega
  obtain ⟨q1, q2'⟩ := cl_setAd hT hG hc hk hx01 (p := a4 / 2 % 3) (by omega)
  have fin : ∀ o : Option (Nat × Bool × St), o = fn_FP_setAd 0 k x (a4 / 2 % 3) S → Ok (bnO o fun p51 => if p51.1 = 0 then (adC 2 12 (if (bi p51.2.1) = bi b then (if bi b = 0 then (some ((0, (p51.2.2, K)), 0, 0)) else (some ((1, (p51.2.2, K)), 0, 0))) else (some (((-1), (p51.2.2, K)), 0, 0)))) else none) 2 12 (ChR S L P W n hs) := fun o ho => by
    rw [ho]
    rcases hb with ⟨rfl, e, h⟩ | ⟨rfl, e, h⟩
    · rw [q1 e, bnO_s]
      dsimp only
      rw [if_pos rfl]
      refine Ok.ad (c := 2) (s := 12) (Nat.le_refl _) (Nat.le_refl _) ?_
      rw [if_pos rfl, if_pos (c := bi false = 0) rfl]
      exact Ok.ret (ChR.no hT hc h hs' hK)
    · obtain ⟨hG', S', e2, hC⟩ := q2' e
      rw [e2, bnO_s]
      dsimp only
      rw [if_pos rfl]
      refine Ok.ad (c := 2) (s := 12) (Nat.le_refl _) (Nat.le_refl _) ?_
      rw [if_pos rfl, if_neg (c := bi true = 0) (by decide)]
      refine Ok.ret (ChR.yes h hs' hK hG' ⟨⟨by rw [nS_up (by decide), nS_up (by decide)], by rw [sg_up (by decide), sg_up (by decide)]⟩, by rw [tm_up (by decide), tm_up (by decide)]; omega, fun y _ _ => .inr (by rw [at_upn (by decide), at_upn (by decide)])⟩ hC)
  unfold jf2_Law_others_756
  rw [nm_x, m2.1, wr_s (z := a4 % 2) (by omega) (by omega)]
  by_cases c : a4 % 2 = 0
  · rw [if_pos c, nm_x, d2, wr_s (z := a4 / 2) (by omega) (by omega), nm_x, m3.1, wr_s (z := a4 / 2 % 3) (by omega) (by omega)]
    have ex : x = 1 := by rw [hx, if_pos c]
    exact fin (fn_FP_setAd 0 k 1 (a4 / 2 % 3) S) (by rw [ex])
  · rw [if_neg c, nm_x, d2, wr_s (z := a4 / 2) (by omega) (by omega), nm_x, m3.1, wr_s (z := a4 / 2 % 3) (by omega) (by omega)]
    have ex : x = 0 := by rw [hx, if_neg c]
    exact fin (fn_FP_setAd 0 k 0 (a4 / 2 % 3) S) (by rw [ex])
theorem l_oth {a2 a3 a4 f : Int} {c7 : Value} (h : HP L P W) (hL : L.length < 200000000) (hG : Good W) (hT : PT S 5 W) (hc : HCl S n hs) (h3 : 0 ≤ a3 ∧ a3 < 2147483648) (h4 : 0 ≤ a4 ∧ a4 < 2147483648) (hf : 0 ≤ f ∧ f < frm W) (ht : tm W ≤ 9000)
    (h7 : (c7 = .null ∧ nA W = 0) ∨ ∃ x, c7 = Value.ref x ∧ (xA P)[k.toNat]? = some x ∧ 0 ≤ k ∧ k < nA W) :
    Ok (gn_Law_others (pT P) a2 a3 a4 f c7 k S L) 470 2200 (ChR S L P W n hs) := by
  have hV := hG.1
  have bz := hV.z
  have ef : frm W = 2 * sg W := rfl
  have v := hV.2.2.2.2 f hf.1 hf.2
  have m2 := md_b h4.1 (m := 2) (by decide)
  have m40 := md_b h4.1 (m := 40) (by decide)
  have m7 := md_b h3.1 (m := 7) (by decide)
  have m999 := md_b h4.1 (m := 999) (by decide)
  have d2 : a4.tdiv 2 = a4 / 2 := Int.tdiv_eq_ediv_of_nonneg h4.1
  have q2 : 0 ≤ a4 / 2 ∧ a4 / 2 < 2147483648 := by omega
  have m3 := md_b q2.1 (m := 3) (by decide)
  have pr := h.pr hV (f := f) ⟨hf.1, by omega⟩
  unfold gn_Law_others
  by_cases c11 : a2 = 11
  · rw [if_pos c11, nm_x, m2.1, wr_s (z := a4 % 2) (by omega) (by omega)]
    by_cases d : a4 % 2 = 0
    · rw [if_pos d, h.fP, bnO_s, rfB_r, pr, bnO_s]
      have fin := fun b hb => l_o49 (z := 1) (S := S) (n := n) (hs := hs) h (Sf.refl (L := L)) (by omega) hG hT hc hf (.inr rfl) b hb
      by_cases e : at_ W 15 f = 0
      · rw [if_pos e]
        exact (fin true ⟨fun _ q => q.elim (fun z => by omega) (fun z => absurd z.1 (by decide)), fun _ => rfl⟩).mono (by decide) (by decide) (fun _ q => q)
      · rw [if_neg e]
        exact (fin false ⟨fun q => absurd q Bool.false_ne_true, fun q => absurd (.inl (by omega)) q⟩).mono (by decide) (by decide) (fun _ q => q)
    · rw [if_neg d, h.fP, bnO_s, rfB_r, pr, bnO_s]
      by_cases e : at_ W 15 f = 0
      · obtain ⟨K, e1, l1, s1⟩ := l_hasColor (S := S) h hV (f := f) (by omega)
        have fin := fun b hb => l_o49 (z := 0) (S := S) (n := n) (hs := hs) (h.sf0 s1) (s1.mono (fun b q => q.elim)) (by omega) hG hT hc hf (.inl rfl) b hb
        rw [if_pos e, if_pos h.k, e1, bnO_s]
        refine Ok.ad (c := 2) (s := 8) (by decide) (by decide) ?_
        dsimp only
        by_cases g : hasC W f = true
        · rw [if_pos g]
          exact (fin false ⟨fun q => absurd q Bool.false_ne_true, fun q => absurd (.inr ⟨rfl, g⟩) q⟩).mono (by decide) (by decide) (fun _ q => q)
        · rw [if_neg g]
          exact (fin true ⟨fun _ q => q.elim (fun z => by omega) (fun z => g z.2), fun _ => rfl⟩).mono (by decide) (by decide) (fun _ q => q)
      · have fin := fun b hb => l_o49 (z := 0) (S := S) (n := n) (hs := hs) h (Sf.refl (L := L)) (by omega) hG hT hc hf (.inl rfl) b hb
        rw [if_neg e]
        exact (fin false ⟨fun q => absurd q Bool.false_ne_true, fun q => absurd (.inl (by omega)) q⟩).mono (by decide) (by decide) (fun _ q => q)
  rw [if_neg c11]
  by_cases c12 : a2 = 12
  · have fin := l_o130 (S := S) (n := n) (hs := hs) (z := 1 + a4 % 40) h (by omega) hT hG hc hf (by omega)
    rw [if_pos c12, nm_x, m40.1, wr_s (z := 1 + a4 % 40) (by omega) (by omega), h.fP, bnO_s, rfB_r, pr, bnO_s]
    by_cases e : at_ W 15 f = 0
    · rw [if_pos e, h.fK, bnO_s, rfB_r, h.cl hV ⟨hf.1, by omega⟩, bnO_s]
      rw [if_neg (by omega)] at fin
      exact fin.mono (by decide) (by decide) (fun _ q => q)
    · rw [if_neg e]
      rw [if_pos (by omega)] at fin
      exact fin.mono (by decide) (by decide) (fun _ q => q)
  rw [if_neg c12]
  by_cases c15 : 15 ≤ a2
  · rw [if_pos c15]
    by_cases e15 : a2 = 15
    · rw [if_pos e15, h.fP, bnO_s, rfB_r, pr, bnO_s]
      by_cases e : at_ W 15 f = 0
      · obtain ⟨K, e1, l1, s1⟩ := l_late (S := S) h hV (f := f) (by omega)
        have fin := fun b hb => l_o271 (S := S) (n := n) (hs := hs) (h.sf0 s1) (s1.mono (fun b q => q.elim)) (by omega) hG hT hc hf b hb
        have lb := latF_b hV (f := f)
        rw [if_pos e, if_pos h.k, e1, bnO_s]
        refine Ok.ad (c := 2) (s := 8) (by decide) (by decide) ?_
        dsimp only
        by_cases g : latF W f = 0
        · rw [if_pos g]
          exact (fin true ⟨fun _ q => q.elim (fun z => by omega) (fun z => by omega), fun _ => rfl⟩).mono (by decide) (by decide) (fun _ q => q)
        · rw [if_neg g]
          exact (fin false ⟨fun q => absurd q Bool.false_ne_true, fun q => absurd (.inr (by omega)) q⟩).mono (by decide) (by decide) (fun _ q => q)
      · have fin := fun b hb => l_o271 (S := S) (n := n) (hs := hs) h (Sf.refl (L := L)) (by omega) hG hT hc hf b hb
        rw [if_neg e]
        exact (fin false ⟨fun q => absurd q Bool.false_ne_true, fun q => absurd (.inl (by omega)) q⟩).mono (by decide) (by decide) (fun _ q => q)
    rw [if_neg e15]
    by_cases e16 : a2 = 16
    · rw [if_pos e16]
      exact (l_o16 h hG hT hc (by omega)).mono (by decide) (by decide) (fun _ q => q)
    rw [if_neg e16]
    by_cases e17 : a2 = 17
    · rw [if_pos e17]
      exact (l_o17 h hG hT hc (by omega)).mono (by decide) (by decide) (fun _ q => q)
    rw [if_neg e17]
    have add := (l_o563 (S := S) (n := n) (hs := hs) (a3 := a3) (a4 := a4) h hG hT hc (by omega) h3 h4).mono (C' := 470) (T' := 2200) (by decide) (by decide) (fun _ q => q)
    by_cases e18 : a2 = 18
    · rw [if_pos e18]
      exact add
    rw [if_neg e18]
    rcases h7 with ⟨rfl, _⟩ | ⟨x, rfl, hx, k0, k1⟩
    · exact add
    have hk2 : 0 ≤ k ∧ k < nA W := ⟨k0, k1⟩
    have hxc := h.1.2.2.1 _ _ hx
    have af := ad_f hV hk2 hxc
    have va := hV.2.1 k k0 k1
    rw [nlB_r]
    by_cases e19 : a2 = 19
    · rw [if_pos e19, rfB_r, af.2.2.2.2.2.2.1, bnO_s]
      by_cases g : at_ W 6 k = 0
      · rw [if_pos g, nm_x, m2.1, wr_s (z := a4 % 2) (by omega) (by omega)]
        have upd : ∀ z : Int, ∃ L1 L2, pf L x 11 6 (V z) = some L1 ∧ pf L1 x 11 2 (V (a4 / 2 % 3)) = some L2 ∧ HP L2 P (up (up W 2 k.toNat z) 3 k.toNat (a4 / 2 % 3)) ∧ Sf (fpP P) L L2 ∧ L2.length = L.length := fun z => by
          obtain ⟨L1, e1, w1⟩ := pf_s hxc (f := 6) (Nat.le_of_ble_eq_true rfl) (V z)
          have h1 := h.updA (f := 6) (by decide) hx w1
          obtain ⟨L2, e2, w2⟩ := pf_s (h1.1.2.2.1 _ _ hx) (f := 2) (Nat.le_of_ble_eq_true rfl) (V (a4 / 2 % 3))
          have h2 := h1.updA (f := 2) (by decide) hx w2
          exact ⟨L1, L2, e1, e2, h2, (Sf.refl.w w1 (.inl (fp_A hx))).w w2 (.inl (fp_A hx)), by rw [w2.1, w1.1]⟩
        by_cases d : a4 % 2 = 0
        · obtain ⟨L1, L2, e1, e2, h2, s2, l2⟩ := upd 1
          rw [if_pos d, e1, bnO_s, nm_x, d2, wr_s (z := a4 / 2) (by omega) (by omega), nm_x, m3.1, wr_s (z := a4 / 2 % 3) (by omega) (by omega), e2, bnO_s]
          exact (l_o756 hT hG hc hk2 h4 s2 (by omega) true (.inr ⟨rfl, g, by rw [if_pos d]; exact h2⟩)).mono (by decide) (by decide) (fun _ q => q)
        · obtain ⟨L1, L2, e1, e2, h2, s2, l2⟩ := upd 0
          rw [if_neg d, e1, bnO_s, nm_x, d2, wr_s (z := a4 / 2) (by omega) (by omega), nm_x, m3.1, wr_s (z := a4 / 2 % 3) (by omega) (by omega), e2, bnO_s]
          exact (l_o756 hT hG hc hk2 h4 s2 (by omega) true (.inr ⟨rfl, g, by rw [if_neg d]; exact h2⟩)).mono (by decide) (by decide) (fun _ q => q)
      · rw [if_neg g]
        exact (l_o756 hT hG hc hk2 h4 (Sf.refl (L := L)) (by omega) false (.inl ⟨rfl, g, h⟩)).mono (by decide) (by decide) (fun _ q => q)
    · obtain ⟨hG', S', e, hC⟩ := cl_setPrice hT hG hc hk2 (p := 1 + a4 % 999) (by omega)
      obtain ⟨L1, e1, w1⟩ := pf_s hxc (f := 3) (Nat.le_of_ble_eq_true rfl) (V (1 + a4 % 999))
      have h1 := h.updA (f := 3) (by decide) hx w1
      rw [if_neg e19, rfB_r, af.2.2.2.2.1, bnO_s, nm_x, m999.1, wr_s (z := 1 + a4 % 999) (by omega) (by omega), e1, bnO_s, gfI_s w1.at (f := 3) rfl (by unfold inR; omega), bnO_s, e, bnO_s]
      dsimp only
      rw [if_pos rfl]
      refine Ok.ad (c := 2) (s := 12) (by decide) (by decide) ?_
      rw [if_pos rfl]
      exact Ok.ret (ChR.yes h1 (Sf.refl.w w1 (.inl (fp_A hx))) (by rw [w1.1]; omega) hG' (Kd_up (by decide) (by decide)) hC)
  rw [if_neg c15]
  obtain ⟨hG', S', e, hC⟩ := cl_pass hT hG hc (a := 1 + a3 % 7) (by omega) (by omega)
  have p8 := psN_8 hG (a := 1 + a3 % 7) (by omega) (by omega)
  have pi := psN_i hG (i := 1 + a3 % 7) (by omega) (by omega)
  have po := psN_o (W := W) (1 + a3 % 7).toNat
  rw [Int.toNat_of_nonneg (by omega)] at po
  rw [nm_x, m7.1, wr_s (z := 1 + a3 % 7) (by omega) (by omega), e, bnO_s]
  dsimp only
  rw [if_pos rfl]
  refine Ok.ad (c := 1) (s := 6) (by decide) (by decide) ?_
  rw [nm_x, if_pos h.k]
  refine Ok.bind (C1 := 456) (T1 := 2144) ((l_pass (S := S') (a := 1 + a3 % 7) h hG (by omega) (by omega) (by omega)).mono (by omega) (by omega) (fun _ q => q)) (by decide) (by decide) ?_
  rintro u cc ss ⟨L2, rfl, h2, s2, l2⟩
  dsimp only
  rw [if_pos rfl]
  exact Ok.ret (ChR.yes h2 s2 (by omega) hG' ⟨⟨pi.2.1.2.1, pi.2.1.2.2.2.1⟩, by omega, fun y _ _ => .inr (po y)⟩ hC)
/-- a change, whole -/
theorem l_changes {a2 a3 a4 : Int} (h : HP L P W) (hL : L.length < 200000000) (hG : Good W) (hT : PT S 5 W) (hc : HCl S n hs) (h3 : 0 ≤ a3 ∧ a3 < 2147483648) (h4 : 0 ≤ a4 ∧ a4 < 2147483648) (ht : tm W ≤ 9000) :
    Ok (gn_Law_changes (pT P) a2 a3 a4 S L) 470 2200 (ChR S L P W n hs) :=
  l_chg h (by omega) hG hT hc h3 h4 (by decide) (by decide) (fun f c7 a8 hf h7 => l_oth h hL hG hT hc h3 h4 hf ht h7)
end Oth6
