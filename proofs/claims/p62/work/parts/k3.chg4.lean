/-! CHANGES: what stays, what the law answers -/
def Kd (W W' : Vw) : Prop := (nS W' = nS W ∧ sg W' = sg W) ∧ tm W' ≤ tm W + 7 ∧ ∀ f : Int, 0 ≤ f → f < frm W → at_ W' 16 f ≤ 40 ∨ at_ W' 16 f = at_ W 16 f
def ChR (S : St) (L : List PC) (P : PA) (W : Vw) (n : Int) (hs : Int → Vw) (v : Int × LZ) : Prop := ∃ d S' L' P' W', (v = (d, (S', L')) ∧ pT P' = pT P) ∧ HP L' P' W' ∧ Sf (fpP P) L L' ∧ (∀ b, fpP P' b → fpP P b ∨ nCell + L.length ≤ b) ∧ L'.length ≤ L.length + 600 ∧ ((d = 0 ∧ W' = W ∧ CR S S' W n hs) ∨ (d = 1 ∧ Good W' ∧ Kd W W' ∧ CR S S' W' (hpn n) (hph n hs W)))
section Chg4
variable {S : St} {L : List PC} {P : PA} {W : Vw} {n : Int} {hs : Int → Vw} {a p k : Int} {x : Nat}
theorem Kd_up {k i : Nat} {z : Int} (hk : k < 17) (h16 : k ≠ 16) : Kd W (up W k i z) :=
  ⟨⟨nS_up hk, sg_up hk⟩, by rw [tm_up hk]; omega, fun f _ _ => .inr (at_upn (fun q => h16 q.symm))⟩
theorem CR.self (hT : PT S 5 W) (hc : HCl S n hs) : CR S S W n hs := ⟨OC.refl, hT, hc⟩
/-- refused -/
theorem ChR.no (hT : PT S 5 W) (hc : HCl S n hs) {L' : List PC} (h' : HP L' P W) (hs' : Sf (fpP P) L L') (hl : L'.length ≤ L.length + 600) : ChR S L P W n hs (0, (S, L')) :=
  ⟨0, S, L', P, W, ⟨rfl, rfl⟩, h', hs', fun _ q => .inl q, hl, .inl ⟨rfl, rfl, CR.self hT hc⟩⟩
/-- done, in the plan's own cells -/
theorem ChR.yes {S' : St} {L' : List PC} {W' : Vw} (h' : HP L' P W') (hs' : Sf (fpP P) L L') (hl : L'.length ≤ L.length + 600) (hG : Good W') (hK : Kd W W') (hC : CR S S' W' (hpn n) (hph n hs W)) : ChR S L P W n hs (1, (S', L')) :=
  ⟨1, S', L', P, W', ⟨rfl, rfl⟩, h', hs', fun _ q => .inl q, hl, .inr ⟨rfl, hG, hK, hC⟩⟩
theorem fp_A {x i : Nat} (h : (xA P)[i]? = some x) : fpP P x := .inr (.inr (.inr (.inr (.inr (.inl (List.mem_of_getElem? h))))))
theorem fp_S {x i : Nat} (h : (xS P)[i]? = some x) : fpP P x := .inr (.inr (.inr (.inr (.inr (.inr (.inl (List.mem_of_getElem? h)))))))
theorem fp_B {x i : Nat} (h : (xB P)[i]? = some x) : fpP P x := .inr (.inr (.inr (.inr (.inr (.inr (.inr (List.mem_of_getElem? h)))))))
theorem l_c136 (h : HP L P W) (hG : Good W) (hT : PT S 5 W) (hc : HCl S n hs) (hk : 0 ≤ k ∧ k < nA W) (hx : (xA P)[k.toNat]? = some x) (hp : inR p) : Ok (jf2_Law_changes_136 p (Value.ref x) k (putR W k p) S L) 1 6 (ChR S L P W n hs) := by
  obtain ⟨q1, q2⟩ := cl_put hT hG hc hk hp
  unfold jf2_Law_changes_136
  by_cases c : putR W k p = 0
  · obtain ⟨hG', S', e, hC⟩ := q2 c
    obtain ⟨L1, e1, w1⟩ := pf_s (h.1.2.2.1 _ _ hx) (f := 5) (Nat.le_of_ble_eq_true rfl) (V p)
    have h1 := h.updA (f := 5) (by decide) hx w1
    rw [if_pos c, rfB_r, e1, bnO_s, e, bnO_s]
    dsimp only
    rw [if_pos rfl]
    refine Ok.ad (c := 1) (s := 6) (Nat.le_refl _) (Nat.le_refl _) ?_
    rw [if_pos c.symm, if_pos c]
    exact Ok.ret (ChR.yes h1 (Sf.refl.w w1 (.inl (fp_A hx))) (by rw [w1.1]; omega) hG' (Kd_up (by decide) (by decide)) hC)
  · rw [if_neg c, q1 c, bnO_s]
    dsimp only
    rw [if_pos rfl]
    refine Ok.ad (c := 1) (s := 6) (Nat.le_refl _) (Nat.le_refl _) ?_
    rw [if_pos rfl, if_neg c]
    exact Ok.ret (ChR.no hT hc h Sf.refl (by omega))
theorem l_c250 (h : HP L P W) (hG : Good W) (hT : PT S 5 W) (hc : HCl S n hs) (hk : 0 ≤ k ∧ k < nS W) (hx : (xS P)[k.toNat]? = some x) (hp : inR p) : Ok (jf2_Law_changes_250 p k x (layQ W k p) S L) 1 6 (ChR S L P W n hs) := by
  obtain ⟨q1, q2⟩ := cl_lay hT hG hc hk hp
  unfold jf2_Law_changes_250
  by_cases c : layQ W k p = 0
  · obtain ⟨hG', S', e, hC⟩ := q2 c
    obtain ⟨L1, e1, w1⟩ := pf_s (h.1.2.2.2.1 _ _ hx) (f := 5) (Nat.le_of_ble_eq_true rfl) (V p)
    have h1 := h.updS hx w1
    rw [if_pos c, e1, bnO_s, e, bnO_s]
    dsimp only
    rw [if_pos rfl]
    refine Ok.ad (c := 1) (s := 6) (Nat.le_refl _) (Nat.le_refl _) ?_
    rw [if_pos c.symm, if_pos c]
    exact Ok.ret (ChR.yes h1 (Sf.refl.w w1 (.inl (fp_S hx))) (by rw [w1.1]; omega) hG' (Kd_up (by decide) (by decide)) hC)
  · rw [if_neg c, q1 c, bnO_s]
    dsimp only
    rw [if_pos rfl]
    refine Ok.ad (c := 1) (s := 6) (Nat.le_refl _) (Nat.le_refl _) ?_
    rw [if_pos rfl, if_neg c]
    exact Ok.ret (ChR.no hT hc h Sf.refl (by omega))
theorem l_c328 (h : HP L P W) (hG : Good W) (hT : PT S 5 W) (hc : HCl S n hs) (hk : 0 ≤ k ∧ k < nA W) (hx : (xA P)[k.toNat]? = some x) (b : Bool) (hb : b = true ↔ ¬ (at_ W 6 k = 0 ∨ prP W (at_ W 6 k) = true)) : Ok (jf2_Law_changes_328 (Value.ref x) k (bi b) S L) 1 6 (ChR S L P W n hs) := by
  obtain ⟨q1, q2⟩ := cl_take hT hG hc hk
  unfold jf2_Law_changes_328
  cases b with
  | true =>
    obtain ⟨hG', S', e, hC⟩ := q2 (hb.mp rfl)
    obtain ⟨L1, e1, w1⟩ := pf_s (h.1.2.2.1 _ _ hx) (f := 5) (Nat.le_of_ble_eq_true rfl) (V 0)
    have h1 := h.updA (f := 5) (by decide) hx w1
    rw [if_neg (c := bi true = 0) (by decide), rfB_r, e1, bnO_s, e, bnO_s]
    dsimp only
    rw [if_pos rfl]
    refine Ok.ad (c := 1) (s := 6) (Nat.le_refl _) (Nat.le_refl _) ?_
    rw [if_pos rfl, if_neg (c := bi true = 0) (by decide)]
    exact Ok.ret (ChR.yes h1 (Sf.refl.w w1 (.inl (fp_A hx))) (by rw [w1.1]; omega) hG' (Kd_up (by decide) (by decide)) hC)
  | false =>
    have hn : at_ W 6 k = 0 ∨ prP W (at_ W 6 k) = true := Decidable.byContradiction (fun z => Bool.false_ne_true (hb.mpr z))
    rw [if_pos (c := bi false = 0) rfl, q1 hn, bnO_s]
    dsimp only
    rw [if_pos rfl]
    refine Ok.ad (c := 1) (s := 6) (Nat.le_refl _) (Nat.le_refl _) ?_
    rw [if_pos rfl, if_pos (c := bi false = 0) rfl]
    exact Ok.ret (ChR.no hT hc h Sf.refl (by omega))
theorem l_c430 (h : HP L P W) (hG : Good W) (hT : PT S 5 W) (hc : HCl S n hs) (hk : 0 ≤ k ∧ k < nS W) (hx : (xS P)[k.toNat]? = some x) (b : Bool) (hb : b = true ↔ ¬ (at_ W 11 k = 0 ∨ stPr W k = true)) : Ok (jf2_Law_changes_430 k x (bi b) S L) 1 6 (ChR S L P W n hs) := by
  obtain ⟨q1, q2⟩ := cl_takeStory hT hG hc hk
  unfold jf2_Law_changes_430
  cases b with
  | true =>
    obtain ⟨hG', S', e, hC⟩ := q2 (hb.mp rfl)
    obtain ⟨L1, e1, w1⟩ := pf_s (h.1.2.2.2.1 _ _ hx) (f := 5) (Nat.le_of_ble_eq_true rfl) (V 0)
    have h1 := h.updS hx w1
    rw [if_neg (c := bi true = 0) (by decide), e1, bnO_s, e, bnO_s]
    dsimp only
    rw [if_pos rfl]
    refine Ok.ad (c := 1) (s := 6) (Nat.le_refl _) (Nat.le_refl _) ?_
    rw [if_pos rfl, if_neg (c := bi true = 0) (by decide)]
    exact Ok.ret (ChR.yes h1 (Sf.refl.w w1 (.inl (fp_S hx))) (by rw [w1.1]; omega) hG' (Kd_up (by decide) (by decide)) hC)
  | false =>
    have hn : at_ W 11 k = 0 ∨ stPr W k = true := Decidable.byContradiction (fun z => Bool.false_ne_true (hb.mpr z))
    rw [if_pos (c := bi false = 0) rfl, q1 hn, bnO_s]
    dsimp only
    rw [if_pos rfl]
    refine Ok.ad (c := 1) (s := 6) (Nat.le_refl _) (Nat.le_refl _) ?_
    rw [if_pos rfl, if_pos (c := bi false = 0) rfl]
    exact Ok.ret (ChR.no hT hc h Sf.refl (by omega))
/-- a standby looked at as if it was not placed -/
theorem l_c579 {L1 : List PC} {c0 : PC} (h : HP L P W) (hG : Good W) (hT : PT S 5 W) (hc : HCl S n hs) (hk : 0 ≤ k ∧ k < nB W) (hx : (xB P)[k.toNat]? = some x) (hp : inR p) (hw : W1 L L1 x (11, (sbV W k.toNat).set 5 (V 0))) : Ok (jf2_Law_changes_579 p k x (at_ W 13 k) (useR W k p) S L1) 1 6 (ChR S L P W n hs) := by
  obtain ⟨q1, q2⟩ := cl_use hT hG hc hk hp
  unfold jf2_Law_changes_579
  have hx0 := h.1.2.2.2.2.1 _ _ hx
  by_cases c : useR W k p = 0
  · obtain ⟨hG', S', e, hC⟩ := q2 c
    obtain ⟨L2, e1, w1⟩ := pf_s hw.at (f := 5) (Nat.le_of_ble_eq_true rfl) (V p)
    have w2 := hw.trans w1
    rw [List.set_set] at w2
    have h1 := h.updB hx w2
    rw [if_pos c, e1, bnO_s, e, bnO_s]
    dsimp only
    rw [if_pos rfl]
    refine Ok.ad (c := 1) (s := 6) (Nat.le_refl _) (Nat.le_refl _) ?_
    rw [if_pos c.symm, if_pos c]
    exact Ok.ret (ChR.yes h1 (Sf.refl.w w2 (.inl (fp_B hx))) (by rw [w2.1]; omega) hG' (Kd_up (by decide) (by decide)) hC)
  · obtain ⟨L2, e1, w1⟩ := pf_s hw.at (f := 5) (Nat.le_of_ble_eq_true rfl) (V (at_ W 13 k))
    have w2 := hw.trans w1
    rw [List.set_set] at w2
    have h1 := h.updB hx w2
    have e9 : up W 13 k.toNat (at_ W 13 k) = W := by
      funext k' j
      unfold up
      by_cases d : k' = 13 ∧ j = k.toNat
      · rw [if_pos d, d.1, d.2]; rfl
      · rw [if_neg d]
    rw [e9] at h1
    rw [if_neg c, e1, bnO_s, q1 c, bnO_s]
    dsimp only
    rw [if_pos rfl]
    refine Ok.ad (c := 1) (s := 6) (Nat.le_refl _) (Nat.le_refl _) ?_
    rw [if_pos rfl, if_neg c]
    exact Ok.ret (ChR.no hT hc h1 (Sf.refl.w w2 (.inl (fp_B hx))) (by rw [w2.1]; omega))
end Chg4
