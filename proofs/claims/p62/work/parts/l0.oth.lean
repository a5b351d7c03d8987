/-! OTHER CHANGES: colors, closings, time, prints, prices -/
section Oth
variable {S : St} {L K : List PC} {P : PA} {W : Vw} {n : Int} {hs : Int → Vw} {f a p k : Int} {x : Nat}
theorem nz01 : i_nz 1 = 1 ∧ i_nz 0 = 0 := by decide
theorem l_o49 {K : List PC} {z : Int} (h : HP K P W) (hs' : Sf (fpP P) L K) (hK : K.length ≤ L.length + 50) (hG : Good W) (hT : PT S 5 W) (hc : HCl S n hs) (hf : 0 ≤ f ∧ f < frm W) (hz : z = 0 ∨ z = 1) (b : Bool) (hb : b = true ↔ ¬ (at_ W 15 f = 1 ∨ (z = 0 ∧ hasC W f = true))) :
    Ok (jf2_Law_others_49 (pT P) f z (bi b) S K) 1 6 (ChR S L P W n hs) := by
  have hV := hG.1
  have bz := hV.z
  have ef : frm W = 2 * sg W := rfl
  obtain ⟨q1, q2⟩ := cl_setColor hT hG hc hf hz
  unfold jf2_Law_others_49
  cases b with
  | true =>
    obtain ⟨hG', S', e, hC⟩ := q2 (hb.mp rfl)
    obtain ⟨K1, e1, h1, s1, l1⟩ := h.setC (f := f) ⟨hf.1, by omega⟩ hz
    have ez : i_nz z = z := by rcases hz with rfl | rfl <;> first | exact nz01.2 | exact nz01.1
    rw [if_neg (c := bi true = 0) (by decide), h.fC, bnO_s, rfB_r, ez, e1, bnO_s, e, bnO_s]
    dsimp only
    rw [if_pos rfl]
    refine Ok.ad (c := 1) (s := 6) (Nat.le_refl _) (Nat.le_refl _) ?_
    rw [if_pos rfl, if_neg (c := bi true = 0) (by decide)]
    exact Ok.ret (ChR.yes h1 (hs'.trans s1) (by omega) hG' (Kd_up (by decide) (by decide)) hC)
  | false =>
    have hn : at_ W 15 f = 1 ∨ (z = 0 ∧ hasC W f = true) := Decidable.byContradiction (fun z => Bool.false_ne_true (hb.mpr z))
    rw [if_pos (c := bi false = 0) rfl, q1 hn, bnO_s]
    dsimp only
    rw [if_pos rfl]
    refine Ok.ad (c := 1) (s := 6) (Nat.le_refl _) (Nat.le_refl _) ?_
    rw [if_pos rfl, if_pos (c := bi false = 0) rfl]
    exact Ok.ret (ChR.no hT hc h hs' (by omega))
theorem Kd_sc {z : Int} (hV : Val W) (hf : 0 ≤ f ∧ f < frm W) (hz : 1 ≤ z ∧ z ≤ 40) : Kd W (scV W f z) := by
  have a16 : ∀ x, 0 ≤ x → at_ (up W 16 f.toNat z) 16 x = if x = f then z else at_ W 16 x := fun x hx => at_upe hx hf.1
  have d : ∀ x, 0 ≤ x → (at_ (up W 16 f.toNat z) 16 x ≤ 40 ∨ at_ (up W 16 f.toNat z) 16 x = at_ W 16 x) := fun x hx => by
    rw [a16 x hx]
    split <;> omega
  unfold scV
  split
  · exact ⟨⟨nS_up (by decide), sg_up (by decide)⟩, by rw [tm_up (by decide)]; omega, fun x x0 _ => d x x0⟩
  · obtain ⟨n5, nt⟩ := clW_n (W := up W 16 f.toNat z) (f := f)
    refine ⟨⟨n5.2.1.trans (nS_up (by decide)), n5.2.2.2.1.trans (sg_up (by decide))⟩, by rw [nt, tm_up (by decide)]; omega, fun x x0 _ => ?_⟩
    rw [clW_at (by decide) (by decide) (by decide) (by decide) (by decide)]
    exact d x x0
theorem l_o178 {z d : Int} {K : List PC} (hT : PT S 5 W) (hG : Good W) (hc : HCl S n hs) (hf : 0 ≤ f ∧ f < frm W) (hz : 1 ≤ z ∧ z ≤ 40) (hs' : Sf (fpP P) L K) (hK : K.length ≤ L.length + 600) (hd : (d = 0 ∧ at_ W 15 f = 1 ∧ HP K P W) ∨ (d = 1 ∧ at_ W 15 f ≠ 1 ∧ HP K P (scV W f z))) :
    Ok (jf2_Law_others_178 f z (if at_ W 15 f = 1 then -4 else at_ W 16 f) d S K) 2 12 (ChR S L P W n hs) := by
  obtain ⟨q1, q2⟩ := cl_setClosing hT hG hc hf (z := z) ⟨hz.1, by omega⟩
  unfold jf2_Law_others_178
  rcases hd with ⟨rfl, h1, h⟩ | ⟨rfl, h1, h⟩
  · rw [q1 h1, bnO_s]
    dsimp only
    rw [if_pos rfl]
    refine Ok.ad (c := 2) (s := 12) (Nat.le_refl _) (Nat.le_refl _) ?_
    rw [if_pos h1, if_pos rfl, if_pos rfl]
    exact Ok.ret (ChR.no hT hc h hs' hK)
  · obtain ⟨hG', S', e, hC⟩ := q2 h1
    rw [e, bnO_s]
    dsimp only
    rw [if_pos rfl]
    refine Ok.ad (c := 2) (s := 12) (Nat.le_refl _) (Nat.le_refl _) ?_
    rw [if_neg h1, if_pos rfl, if_neg (c := (1 : Int) = 0) (by decide)]
    exact Ok.ret (ChR.yes h hs' hK hG' (Kd_sc hG.1 hf hz) hC)
theorem cntP_le2 {e f : Int} : ∀ (m : Nat) (q : Int), cntP e f q m ≤ m
  | 0, _ => Nat.le_refl _
  | m + 1, q => by
    have ih := cntP_le2 (e := e) (f := f) m (q + 1)
    have u : ∀ (c : Prop) [Decidable c], (if c then 1 else 0 : Nat) ≤ 1 := fun c _ => by split <;> omega
    exact Nat.le_trans (Nat.add_le_add (u _) ih) (by omega)
theorem l_o130 {z : Int} (h : HP L P W) (hL : L.length < 300000000) (hT : PT S 5 W) (hG : Good W) (hc : HCl S n hs) (hf : 0 ≤ f ∧ f < frm W) (hz : 1 ≤ z ∧ z ≤ 40) :
    Ok (jf2_Law_others_130 (pT P) f z (if at_ W 15 f = 1 then -4 else at_ W 16 f) S L) 451 2128 (ChR S L P W n hs) := by
  have hV := hG.1
  have bz := hV.z
  have ef : frm W = 2 * sg W := rfl
  have v := hV.2.2.2.2 f hf.1 hf.2
  unfold jf2_Law_others_130
  rw [h.fP, bnO_s, rfB_r, h.pr hV ⟨hf.1, by omega⟩, bnO_s]
  by_cases c : at_ W 15 f = 0
  · obtain ⟨K1, e1, h1, s1, l1⟩ := h.setK (f := f) ⟨hf.1, by omega⟩ (z := z)
    have hg1 := G3_closing hG hf (z := z) ⟨hz.1, by omega⟩
    rw [if_pos c, h.fK, bnO_s, rfB_r, e1, bnO_s, h1.ti hg1.1, bnO_s, tm_up (by decide)]
    by_cases d : tm W < z
    · rw [if_pos d]
      exact (l_o178 hT hG hc hf hz s1 (by omega) (.inr ⟨rfl, by omega, by unfold scV; rw [if_pos d]; exact h1⟩)).mono (by omega) (by omega) (fun _ q => q)
    · rw [if_neg d, if_pos h1.k]
      have hc2 := cntP_le2 (e := pe (up W 16 f.toNat z)) (f := f) (pgs (up W 16 f.toNat z)).toNat 1
      have hpg : pgs (up W 16 f.toNat z) = pgs W := pgs_up (by decide)
      rw [hpg] at hc2
      refine Ok.bind (C1 := 449) (T1 := 2116) ((l_close (S := S) h1 hg1 (f := f) ⟨hf.1, by unfold frm; rw [sg_up (by decide)]; exact hf.2⟩ (by omega)).mono (by rw [hpg]; omega) (by rw [hpg]; omega) (fun _ q => q)) (by omega) (by omega) ?_
      rintro u cc ss ⟨K2, rfl, l2, h2, s2⟩
      rw [hpg] at l2
      dsimp only
      exact (l_o178 hT hG hc hf hz (s1.trans s2) (by omega) (.inr ⟨rfl, by omega, by unfold scV; rw [if_neg d]; exact h2⟩)).mono (by omega) (by omega) (fun _ q => q)
  · rw [if_neg c]
    exact (l_o178 hT hG hc hf hz Sf.refl (by omega) (.inl ⟨rfl, by omega, h⟩)).mono (by omega) (by omega) (fun _ q => q)
theorem l_o279 {a8 : Int} (h : HP L P W) (hG : Good W) : ∀ (m N : Nat) (q s : Int), q + m = pgs W + 1 → 1 ≤ q → m < N → inR s →
    lp (fun go y => lb2_Law_others_279 (pT P) f a8 S L go y.1 y.2) N (s, q) = some (wr (s + sumR (fun y => if fOf W y = f then lf W y else 0) q m))
  | 0, N + 1, q, s, hq, h1, _, hs => by
    have hV := hG.1
    rw [lp_succ]
    show lb2_Law_others_279 (pT P) f a8 S L _ s q = _
    unfold lb2_Law_others_279
    rw [if_pos h.k, l_pages h hV, bnO_s, if_pos (by omega)]
    show some s = some (wr (s + 0))
    rw [Int.add_zero, wr_id hs]
  | m + 1, N + 1, q, s, hq, h1, hN, hs => by
    have hV := hG.1
    have bp := hV.pg
    have i1 : wr (q + 1) = q + 1 := wr_s (by omega) (by omega)
    have hun : ∀ gg : Int × Int → Option Int, lb2_Law_others_279 (pT P) f a8 S L gg s q = gg (wr (s + (if fOf W q = f then lf W q else 0)), q + 1) := fun gg => by
      unfold lb2_Law_others_279
      rw [if_pos h.k, l_pages h hV, bnO_s, if_neg (by omega), if_pos h.k, l_form h hV h1 (by omega), bnO_s]
      by_cases c : fOf W q = f
      · rw [if_pos c, if_pos h.k, l_left h hV, bnO_s, nm_x, nm_x, i1, if_pos c]
      · rw [if_neg c, nm_x, nm_x, i1, if_neg c]
    have ih := l_o279 (a8 := a8) h hG m N (q + 1) (wr (s + (if fOf W q = f then lf W q else 0))) (by omega) (by omega) (by omega) (wr_in _)
    rw [lp_succ]
    show lb2_Law_others_279 (pT P) f a8 S L _ s q = _
    rw [hun]
    show lp (fun go y => lb2_Law_others_279 (pT P) f a8 S L go y.1 y.2) N (_, _) = _
    rw [ih, wr_add, Int.add_assoc]
    rfl
theorem lefF_15 {z : Int} {i : Nat} : lefF (up W 15 i z) f = lefF W f := by
  unfold lefF sumP
  rw [pgs_up (by decide)]
  congr 1
theorem l_o271 {K : List PC} (h : HP K P W) (hs' : Sf (fpP P) L K) (hK : K.length ≤ L.length + 50) (hG : Good W) (hT : PT S 5 W) (hc : HCl S n hs) (hf : 0 ≤ f ∧ f < frm W) (b : Bool) (hb : b = true ↔ ¬ (at_ W 15 f = 1 ∨ 0 < latF W f)) :
    Ok (jf2_Law_others_271 (pT P) f (bi b) S K) 1 6 (ChR S L P W n hs) := by
  have hV := hG.1
  have bz := hV.z
  have bp := hV.pg
  have ef : frm W = 2 * sg W := rfl
  obtain ⟨q1, q2⟩ := cl_print hT hG hc hf
  have q := l_o279 (S := S) (f := f) (a8 := bi b) h hG (pgs W).toNat FU 1 0 (by omega) (Int.le_refl _) (FU_big (by omega)) inR_0
  rw [Int.zero_add] at q
  have q : lo2_Law_others_279 (pT P) f (bi b) S K FU (0, 1) = some (lefF W f) := q
  unfold jf2_Law_others_271
  rw [q, bnO_s]
  cases b with
  | true =>
    obtain ⟨hG', S', e, hC⟩ := q2 (hb.mp rfl)
    rw [lefF_15] at e
    obtain ⟨K1, e1, h1, s1, l1⟩ := h.setP (f := f) ⟨hf.1, by omega⟩ (z := 1) (.inr rfl)
    rw [if_neg (c := bi true = 0) (by decide), h.fP, bnO_s, rfB_r, nz01.1, e1, bnO_s, e, bnO_s]
    dsimp only
    rw [if_pos rfl]
    refine Ok.ad (c := 1) (s := 6) (Nat.le_refl _) (Nat.le_refl _) ?_
    rw [if_neg (c := bi true = 0) (by decide), if_pos rfl, if_neg (c := bi true = 0) (by decide)]
    exact Ok.ret (ChR.yes h1 (hs'.trans s1) (by omega) hG' (Kd_up (by decide) (by decide)) hC)
  | false =>
    have hn : at_ W 15 f = 1 ∨ 0 < latF W f := Decidable.byContradiction (fun z => Bool.false_ne_true (hb.mpr z))
    rw [if_pos (c := bi false = 0) rfl, q1 hn, bnO_s]
    dsimp only
    rw [if_pos rfl]
    refine Ok.ad (c := 1) (s := 6) (Nat.le_refl _) (Nat.le_refl _) ?_
    rw [if_pos (c := bi false = 0) rfl, if_pos rfl, if_pos (c := bi false = 0) rfl]
    exact Ok.ret (ChR.no hT hc h hs' (by omega))
theorem psN_o (i : Nat) : ∀ x, at_ (psN W i).2 16 x = at_ W 16 x := by
  have hr : ∀ (V : Vw) x, at_ (hrA V).2 16 x = at_ V 16 x := fun V x => by
    have q := itR_inv (f := hrS (tm V + 1)) (n := (frm V).toNat) (i := 0) (s := ((0 : Int), up V 17 5 (tm V + 1))) (I := fun _ s => at_ s.2 16 x = at_ V 16 x) (fun j s _ _ hI => by
      unfold hrS
      split
      · show at_ (clW j s.2) 16 x = _
        rw [clW_at (by decide) (by decide) (by decide) (by decide) (by decide)]
        exact hI
      · exact hI) (at_upn (by decide))
    exact q
  intro x
  have q := itR_inv (f := psS) (n := i) (i := 0) (s := ((0 : Int), W)) (I := fun _ s => at_ s.2 16 x = at_ W 16 x) (fun j s _ _ hI => by
    show at_ (hrA s.2).2 16 x = _
    rw [hr]
    exact hI) rfl
  unfold psN
  rw [Int.toNat_natCast]
  exact q
theorem plN_o {w : Int → Int} (i : Int) : tm (plN W w i).2 = tm W ∧ ∀ x, at_ (plN W w i).2 16 x = at_ W 16 x := by
  have q := itR_inv (f := plS w) (n := i.toNat) (i := 0) (s := ((0 : Int), W)) (I := fun _ s => tm s.2 = tm W ∧ ∀ x, at_ s.2 16 x = at_ W 16 x) (fun j s _ _ hI => by
    unfold plS
    split
    · exact hI
    · refine ⟨?_, fun x => ?_⟩
      · show tm (up s.2 6 _ _) = _
        rw [tm_up (by decide)]
        exact hI.1
      · show at_ (up s.2 6 _ _) 16 x = _
        rw [at_upn (by decide)]
        exact hI.2 x) ⟨rfl, fun _ => rfl⟩
  exact q
theorem srtN_uniq {xs ys : List Nat} {i : Nat} (h1 : SrtN W xs i) (h2 : SrtN W ys i) : xs = ys :=
  sorted_uniq (R := fun x y : Nat => ahP W x y) (fun _ _ q q' => ahP_ne (ahP_tr q q') rfl) xs ys h1.2.1 h2.2.1 (fun z => ⟨fun hz => h2.2.2 z (h1.1 z hz).1 (h1.1 z hz).2, fun hz => h1.2.2 z (h2.1 z hz).1 (h2.1 z hz).2⟩)
theorem l_o16 (h : HP L P W) (hG : Good W) (hT : PT S 5 W) (hc : HCl S n hs) (hL : L.length < 300000000) :
    Ok (bnO (fn_FP_placeAds 0 S) fun p113 => bnO (gn_Law_places (pT P) p113.2 L) fun p114 => adC p114.2.1 p114.2.2 (if p113.1 = p114.1.1 then (some ((1, (p114.1.2.1, p114.1.2.2)), 0, 0)) else (some (((-1), (p114.1.2.1, p114.1.2.2)), 0, 0)))) 8 140 (ChR S L P W n hs) := by
  obtain ⟨v0, c0, s0, e0, -, -, L0, ixs, -, hx, -⟩ := l_places (S := S) h hG (by omega)
  obtain ⟨hG', n5, S', e, o, t, hcl⟩ := cl_placeAds hT hG hc hx
  rw [e, bnO_s]
  dsimp only
  refine Ok.bind (l_places (S := S') h hG (by omega)) (Nat.le_refl _) (Nat.le_refl _) ?_
  rintro v cc ss ⟨L', ixs', rfl, hx', h', s', l'⟩
  have ei := srtN_uniq hx' hx
  subst ei
  dsimp only
  rw [if_pos rfl]
  obtain ⟨t1, t2⟩ := plN_o (W := W) (w := wO ixs') ixs'.length
  exact Ok.ret (ChR.yes h' s' (by omega) hG' ⟨⟨n5.2.1, n5.2.2.2.1⟩, by rw [t1]; omega, fun x _ _ => .inr (t2 x)⟩ ⟨o, t, hcl⟩)
end Oth
