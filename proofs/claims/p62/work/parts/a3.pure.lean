/-! THE LAW'S QUESTIONS that make nothing -/
section Pure
variable {S : St} {L L' : List PC} {P : PA} {W : Vw}
theorem l_leftA (h : HP L P W) (hV : Val W) {p a : Int} (ha : inR a) : lo2_LP_left_4 (pT P) p S L FU (a, 0) = some (wr (a + sumA W (fun i => -szA W p (-1) i))) := by
  have b := hV.z
  have q := lp_sum (body := fun go z => lb2_LP_left_4 (pT P) p S L go z.1 z.2) (fun i => -szA W p (-1) i) 0 (nA W)
    (fun go a i h0 => by
      show lb2_LP_left_4 (pT P) p S L go a i = _
      unfold lb2_LP_left_4
      simp only [h.fA, bnO_s, rfB_r, h.kA, eq_self, if_true, h.cA]
      rw [if_pos h0])
    (fun go a i ha h1 h2 => by
      show lb2_LP_left_4 (pT P) p S L go a i = _
      obtain ⟨x, -, hg, hx⟩ := h.ad ⟨h1, h2⟩
      obtain ⟨k, f0, -, -, -, -, f5, -⟩ := ad_f hV ⟨h1, h2⟩ hx
      unfold lb2_LP_left_4
      simp only [h.fA, bnO_s, rfB_r, h.kA, eq_self, if_true, h.cA, hg, k, f5, f0, nm_x, wr_s (z := i + 1) (by omega) (by omega)]
      rw [if_neg (by omega)]
      by_cases c : at_ W 6 i = p
      · rw [if_pos c, show szA W p (-1) i = at_ W 0 i from if_pos ⟨by omega, c⟩, Int.sub_eq_add_neg]
      · rw [if_neg c, show szA W p (-1) i = 0 from if_neg (fun q => c q.2), Int.sub_zero, Int.neg_zero, Int.add_zero]) (n := FU) (a := a) ha (FU_big (by omega))
  rw [Int.sub_zero] at q
  exact q
theorem l_leftB (h : HP L P W) (hV : Val W) {p a : Int} (ha : inR a) : lo2_LP_left_62 (pT P) p S L FU (a, 0) = some (wr (a + sumB W (fun i => -szB W p (-1) i))) := by
  have b := hV.z
  have q := lp_sum (body := fun go z => lb2_LP_left_62 (pT P) p S L go z.1 z.2) (fun i => -szB W p (-1) i) 0 (nB W)
    (fun go a i h0 => by
      show lb2_LP_left_62 (pT P) p S L go a i = _
      unfold lb2_LP_left_62
      simp only [h.fB, bnO_s, rfB_r, h.kB, eq_self, if_true, h.cB]
      rw [if_pos h0])
    (fun go a i ha h1 h2 => by
      show lb2_LP_left_62 (pT P) p S L go a i = _
      obtain ⟨x, -, hg, hx⟩ := h.sb ⟨h1, h2⟩
      obtain ⟨k, f0, f5⟩ := sb_f hV ⟨h1, h2⟩ hx
      unfold lb2_LP_left_62
      simp only [h.fB, bnO_s, rfB_r, h.kB, eq_self, if_true, h.cB, hg, k, f5, f0, nm_x, wr_s (z := i + 1) (by omega) (by omega)]
      rw [if_neg (by omega)]
      by_cases c : at_ W 13 i = p
      · rw [if_pos c, show szB W p (-1) i = at_ W 12 i from if_pos ⟨by omega, c⟩, Int.sub_eq_add_neg]
      · rw [if_neg c, show szB W p (-1) i = 0 from if_neg (fun q => c q.2), Int.sub_zero, Int.neg_zero, Int.add_zero]) (n := FU) (a := a) ha (FU_big (by omega))
  rw [Int.sub_zero] at q
  exact q
theorem l_story (h : HP L P W) (hV : Val W) {p : Int} : gn_LP_story (pT P) p S L = some (stOn W p (-1)) := by
  have b := hV.z
  have q := lp_fst (body := fun go z => lb2_LP_story_2 (pT P) p S L go z) (fun s => decide (s ≠ -1) && cov W s p) (fun i => i) 0 (nS W)
    (fun go i h0 => by
      show lb2_LP_story_2 (pT P) p S L go i = _
      unfold lb2_LP_story_2
      simp only [h.fS, bnO_s, rfB_r, h.kS, eq_self, if_true, h.cS]
      rw [if_pos h0])
    (fun go i h1 h2 => by
      show lb2_LP_story_2 (pT P) p S L go i = _
      obtain ⟨x, -, hg, hx⟩ := h.st ⟨h1, h2⟩
      obtain ⟨k, f0, -, -, -, -, f5, -⟩ := st_f hV ⟨h1, h2⟩ hx
      have v := hV.2.2.1 i h1 h2
      have v2 : at_ W 11 i ≤ 64 := by omega
      unfold lb2_LP_story_2
      simp only [h.fS, bnO_s, rfB_r, h.kS, eq_self, if_true, h.cS, hg, k, f5, f0, nm_x, wr_s (z := i + 1) (by omega) (by omega), wr_s (z := at_ W 11 i + at_ W 7 i) (by omega) (by omega)]
      rw [if_neg (by omega), decide_eq_true (show i ≠ -1 by omega), Bool.true_and]
      unfold cov
      by_cases c1 : at_ W 11 i ≤ 0
      · rw [if_pos c1, decide_eq_false (by omega), if_neg Bool.false_ne_true]
      · rw [if_neg c1]
        by_cases c2 : p < at_ W 11 i
        · rw [if_pos c2, decide_eq_false (by omega), if_neg Bool.false_ne_true]
        · rw [if_neg c2]
          by_cases c3 : at_ W 11 i + at_ W 7 i ≤ p
          · rw [if_pos c3, decide_eq_false (by omega), if_neg Bool.false_ne_true]
          · rw [if_neg c3, decide_eq_true (by omega), if_pos rfl]) (n := FU) (Int.le_refl _) (FU_big (by omega))
  unfold gn_LP_story stOn
  have q2 : lo2_LP_story_2 (pT P) p S L FU 0 = _ := q
  rw [q2]
  simp only [Int.sub_zero]
  split
  · rename_i c; rw [c]; rfl
  · rfl
theorem l_left (h : HP L P W) (hV : Val W) {p : Int} : gn_LP_left (pT P) p S L = some (lf W p) := by
  unfold gn_LP_left lf lefO room
  rw [l_leftA h hV (by unfold inR; omega), bnO_s, l_leftB h hV (wr_in _), bnO_s, if_pos h.k, l_story h hV, bnO_s, wr_add]
  rcases stOn_spec hV (p := p) (but := -1) with ⟨e, -⟩ | ⟨e, -⟩
  · rw [e, if_neg (by decide), if_pos rfl]
  · rw [if_pos e, if_neg (by omega)]
theorem l_sided {x t : Nat} {s p : Int} (hx : gfI L x 11 2 = some s) (hs : 0 ≤ s ∧ s ≤ 2) (hp : 0 ≤ p) : gn_LP_sided t x p S L = some (onSd p s) := by
  have e2 : wr (p.tmod 2) = p % 2 := by rw [tm_n hp, wr_s (by omega) (by omega)]
  unfold gn_LP_sided onSd
  simp only [hx, bnO_s, nm_x, e2]
  rcases (show s = 0 ∨ s = 1 ∨ s = 2 by omega) with rfl | rfl | rfl
  · rw [if_pos rfl, decide_eq_true (.inl rfl)]
  · rw [if_neg (by decide), if_pos rfl, if_neg (by decide : ¬ (1 : Int) = 2)]
    by_cases c : p % 2 = 0
    · rw [if_pos c, decide_eq_true (by rw [if_neg (by decide)]; exact .inr c)]
    · rw [if_neg c, decide_eq_false (by rw [if_neg (by decide)]; omega)]
  · rw [if_neg (by decide), if_neg (by decide : ¬ (2 : Int) = 1), if_pos rfl]
    by_cases c : p % 2 = 1
    · rw [if_pos c, decide_eq_true (by rw [if_pos rfl]; exact .inr c)]
    · rw [if_neg c, decide_eq_false (by rw [if_pos rfl]; omega)]
theorem apq_i {a b k k' : Nat} {vs vs' : List Value} (h1 : hp L a = some (k, vs)) (h2 : hp L b = some (k', vs')) (hk : k < 900) (hk' : k' < 900) : apq L a b = true := by
  have e1 : Nat.blt k 900 = true := Nat.ble_eq_true_of_le hk
  have e2 : Nat.blt k' 900 = true := Nat.ble_eq_true_of_le hk'
  unfold apq
  rw [h1, h2]
  simp only [Option.isSome_some, Bool.true_and, Bool.true_or, e1, e2, Bool.or_true]
theorem nd_inj {xs : List Nat} (h : xs.Nodup) {i j x : Nat} (hi : xs[i]? = some x) (hj : xs[j]? = some x) : i = j := by
  exact (List.getElem?_inj (List.getElem?_eq_some_iff.mp hi).1 h).mp (hi.trans hj.symm)
theorem HP.ndA (h : HP L P W) : (xA P).Nodup := (List.nodup_append.mp (List.nodup_append.mp h.2.2.2.2.2.2).1).1
theorem HP.ndS (h : HP L P W) : (xS P).Nodup := (List.nodup_append.mp (List.nodup_append.mp h.2.2.2.2.2.2).1).2.1
theorem HP.ndB (h : HP L P W) : (xB P).Nodup := (List.nodup_append.mp h.2.2.2.2.2.2).2.1
theorem HP.dAS (h : HP L P W) {x : Nat} (h1 : x ∈ xA P) (h2 : x ∈ xS P) : False := (List.nodup_append.mp (List.nodup_append.mp h.2.2.2.2.2.2).1).2.2 x h1 x h2 rfl
theorem HP.dAB (h : HP L P W) {x : Nat} (h1 : x ∈ xA P) (h2 : x ∈ xB P) : False := (List.nodup_append.mp h.2.2.2.2.2.2).2.2 x (List.mem_append_left _ h1) x h2 rfl
theorem HP.dSB (h : HP L P W) {x : Nat} (h1 : x ∈ xS P) (h2 : x ∈ xB P) : False := (List.nodup_append.mp h.2.2.2.2.2.2).2.2 x (List.mem_append_right _ h1) x h2 rfl
theorem l_rival (h : HP L P W) (hV : Val W) {a p : Int} (ha : 0 ≤ a ∧ a < nA W) (hp : 0 ≤ p ∧ p ≤ 1000) {x : Nat} (hxa : (xA P)[a.toNat]? = some x) : gn_LP_rival (pT P) x p S L = some (rivl W a (p / 2)) := by
  have b := hV.z
  have hx0 := h.1.2.2.1 _ _ hxa
  obtain ⟨-, -, g1, -⟩ := ad_f hV ha hx0
  have va := hV.2.1 a ha.1 ha.2
  unfold gn_LP_rival
  by_cases c0 : at_ W 1 a ≤ 0
  · -- no group
    have e0 : at_ W 1 a = 0 := by omega
    have q : lo2_LP_rival_2 (pT P) x p S L FU 0 = some (.inr ()) := by
      show lp (fun go z => lb2_LP_rival_2 (pT P) x p S L go z) FU 0 = _
      rw [show FU = (FU - 1) + 1 by have := FU_big (n := 0) (by decide); omega, lp_succ]
      unfold lb2_LP_rival_2
      simp only [h.fA, bnO_s, rfB_r, h.kA, eq_self, if_true, h.cA, g1]
      rw [if_neg (by omega), if_pos c0]
    rw [q]
    unfold rivl
    rw [e0]
    show some false = some (_ && decide ((0 : Int) ≠ 0))
    rw [decide_eq_false (by decide), Bool.and_false]
  · have q := lp_fst (body := fun go z => lb2_LP_rival_2 (pT P) x p S L go z) (fun o => decide (o ≠ a ∧ 0 < at_ W 6 o ∧ at_ W 6 o / 2 = p / 2 ∧ at_ W 1 o = at_ W 1 a)) (fun _ => true) 0 (nA W)
      (fun go i h0 => by
        show lb2_LP_rival_2 (pT P) x p S L go i = _
        unfold lb2_LP_rival_2
        simp only [h.fA, bnO_s, rfB_r, h.kA, eq_self, if_true, h.cA]
        rw [if_pos h0])
      (fun go i h1 h2 => by
        show lb2_LP_rival_2 (pT P) x p S L go i = _
        obtain ⟨y, hy, hg, hyc⟩ := h.ad ⟨h1, h2⟩
        obtain ⟨k, -, f1, -, -, -, f5, -⟩ := ad_f hV ⟨h1, h2⟩ hyc
        have v := hV.2.1 i h1 h2
        unfold lb2_LP_rival_2
        simp only [h.fA, bnO_s, rfB_r, h.kA, eq_self, if_true, h.cA, hg, k, f5, f1, g1, nm_x, apq_i hyc hx0 (by decide) (by decide), wr_s (z := i + 1) (by omega) (by omega), td_n (a := p) (b := 2) hp.1, td_n (a := at_ W 6 i) (b := 2) (by omega), wr_s (z := p / 2) (by omega) (by omega), wr_s (z := at_ W 6 i / 2) (by omega) (by omega)]
        rw [if_neg (by omega), if_neg c0]
        by_cases c1 : y = x
        · have ei : i = a := by
            subst c1
            have := nd_inj h.ndA hy hxa
            omega
          rw [if_pos c1, decide_eq_false (fun q => q.1 ei), if_neg Bool.false_ne_true]
        · have ei : i ≠ a := fun q => by
            subst q
            rw [hy] at hxa
            exact c1 (Option.some.inj hxa)
          rw [if_neg c1]
          by_cases c2 : at_ W 1 i = at_ W 1 a
          · rw [if_pos c2]
            by_cases c3 : at_ W 6 i ≤ 0
            · rw [if_pos c3, decide_eq_false (by omega), if_neg Bool.false_ne_true]
            · rw [if_neg c3]
              by_cases c4 : at_ W 6 i / 2 = p / 2
              · rw [if_pos c4, decide_eq_true ⟨ei, by omega, c4, c2⟩, if_pos rfl]
              · rw [if_neg c4, decide_eq_false (fun q => c4 q.2.2.1), if_neg Bool.false_ne_true]
          · rw [if_neg c2, decide_eq_false (fun q => c2 q.2.2.2), if_neg Bool.false_ne_true]) (n := FU) (Int.le_refl _) (FU_big (by omega))
    have q2 : lo2_LP_rival_2 (pT P) x p S L FU 0 = _ := q
    rw [q2]
    unfold rivl anyA
    simp only [Int.sub_zero]
    rw [decide_eq_true (show at_ W 1 a ≠ 0 by omega), Bool.and_true]
    split
    · rename_i c; rw [(fstR_any (Int.le_refl _)).mp c]; rfl
    · rename_i c
      have : anyR (fun o => decide (o ≠ a ∧ 0 < at_ W 6 o ∧ at_ W 6 o / 2 = p / 2 ∧ at_ W 1 o = at_ W 1 a)) 0 (nA W).toNat = true := by
        cases e : anyR (fun o => decide (o ≠ a ∧ 0 < at_ W 6 o ∧ at_ W 6 o / 2 = p / 2 ∧ at_ W 1 o = at_ W 1 a)) 0 (nA W).toNat with
        | true => rfl
        | false => exact absurd ((fstR_any (Int.le_refl _)).mpr e) c
      rw [this]; rfl
/-! a field of an item changed -/
def fk : Nat → Nat
  | 0 => 0
  | 1 => 1
  | 2 => 3
  | 3 => 4
  | 4 => 5
  | 5 => 6
  | _ => 2
theorem adV_up {f i : Nat} {z : Int} (hf : f < 7) : adV (up W (fk f) i z) i = (adV W i).set f (V z) := by
  unfold adV itV up
  match f, hf with
  | 0, _ => simp [fk]
  | 1, _ => simp [fk]
  | 2, _ => simp [fk]
  | 3, _ => simp [fk]
  | 4, _ => simp [fk]
  | 5, _ => simp [fk]
  | 6, _ => simp [fk]
theorem adV_ne {k i j : Nat} {z : Int} (h : i ≠ j) : adV (up W k j z) i = adV W i := by
  unfold adV itV up
  simp [h]
theorem stV_k {k j i : Nat} {z : Int} (h : k < 7) : stV (up W k j z) i = stV W i := by
  unfold stV itV up
  simp [show ¬ 7 = k by omega, show ¬ 8 = k by omega, show ¬ 9 = k by omega, show ¬ 10 = k by omega, show ¬ 11 = k by omega]
theorem sbV_k {k j i : Nat} {z : Int} (h : k < 12) : sbV (up W k j z) i = sbV W i := by
  unfold sbV itV up
  simp [show ¬ 12 = k by omega, show ¬ 13 = k by omega]
theorem adV_k {k j i : Nat} {z : Int} (h : 7 ≤ k) : adV (up W k j z) i = adV W i := by
  unfold adV itV up
  simp [show ¬ 0 = k by omega, show ¬ 1 = k by omega, show ¬ 2 = k by omega, show ¬ 3 = k by omega, show ¬ 4 = k by omega, show ¬ 5 = k by omega, show ¬ 6 = k by omega]
theorem LsH.w1 {a r y : Nat} {m : Int} {cp : Nat} {xs : List Nat} {k : Nat} {vs : List Value} {c0 : PC} (h : LsH L a r m cp xs) (hc0 : hp L y = some c0) (hk : c0.1 ≠ 13 ∧ c0.1 ≠ 103) (hw : W1 L L' y (k, vs)) : LsH L' a r m cp xs := by
  have h1 : a ≠ y := by rintro rfl; rw [h.2.1] at hc0; cases hc0; exact hk.1 rfl
  refine ⟨h.1, by rw [hw.ne h1]; exact h.2.1, ?_⟩
  rcases h.2.2 with q | ⟨vs, q1, q2⟩
  · exact .inl q
  · exact .inr ⟨vs, by rw [hw.ne (by rintro rfl; rw [q1] at hc0; cases hc0; exact hk.2 rfl)]; exact q1, q2⟩
theorem RwH.w1 {k r j y : Nat} {c0 c : PC} (h : RwH L k r W j) (hc0 : hp L y = some c0) (hk : c0.1 ≠ k) (hw : W1 L L' y c) : RwH L' k r W j := by
  obtain ⟨vs, q1, q2⟩ := h
  exact ⟨vs, by rw [hw.ne (by rintro rfl; rw [q1] at hc0; cases hc0; exact hk rfl)]; exact q1, q2⟩
theorem RwH.upd {k r j k' i : Nat} {z : Int} (h : RwH L k r W j) (h1 : k' < 14) (h2 : 14 ≤ j) : RwH L k r (up W k' i z) j := by
  obtain ⟨vs, q1, q2, q3⟩ := h
  refine ⟨vs, q1, q2, fun f hf => ?_⟩
  rw [sg_up (by omega)] at hf
  rw [q3 f hf]
  unfold up
  rw [if_neg (by omega)]
/-- of an ad -/
theorem HP.updA (h : HP L P W) {f i x : Nat} {z : Int} (hf : f < 7) (hx : (xA P)[i]? = some x) (hw : W1 L L' x (11, (adV W i).set f (V z))) : HP L' P (up W (fk f) i z) := by
  have hk : fk f < 7 := by
    match f, hf with
    | 0, _ => decide
    | 1, _ => decide
    | 2, _ => decide
    | 3, _ => decide
    | 4, _ => decide
    | 5, _ => decide
    | 6, _ => decide
  have hc := h.1.2.2.1 _ _ hx
  have hm : x ∈ xA P := List.mem_of_getElem? hx
  refine ⟨⟨?_, ⟨h.lA.w1 hc (show (11 : Nat) ≠ 13 ∧ (11 : Nat) ≠ 103 by decide) hw, h.lS.w1 hc (show (11 : Nat) ≠ 13 ∧ (11 : Nat) ≠ 103 by decide) hw, h.lB.w1 hc (show (11 : Nat) ≠ 13 ∧ (11 : Nat) ≠ 103 by decide) hw⟩, fun j y hy => ?_, fun j y hy => ?_, fun j y hy => ?_, (h.1.2.2.2.2.2.1.w1 hc (by show (11 : Nat) ≠ _; decide) hw).upd (by omega) (by decide), (h.1.2.2.2.2.2.2.1.w1 hc (by show (11 : Nat) ≠ _; decide) hw).upd (by omega) (by decide), (h.1.2.2.2.2.2.2.2.w1 hc (by show (11 : Nat) ≠ _; decide) hw).upd (by omega) (by decide)⟩, ?_, by rw [lo_up (by omega)]; exact h.2.2.1, h.2.2.2⟩
  · rw [hw.ne (by intro e; have q := h.1.1; rw [e, hc] at q; cases q), sg_up (by omega), pe_up (by omega), tm_up (by omega), lo_up (by omega)]
    exact h.1.1
  · by_cases e : j = i
    · subst e
      rw [hx] at hy
      cases hy
      rw [hw.at, adV_up hf]
    · rw [hw.ne (by rintro rfl; exact e (nd_inj h.ndA hy hx)), adV_ne e]
      exact h.1.2.2.1 _ _ hy
  · rw [hw.ne (by rintro rfl; exact h.dAS hm (List.mem_of_getElem? hy)), stV_k hk]
    exact h.1.2.2.2.1 _ _ hy
  · rw [hw.ne (by rintro rfl; exact h.dAB hm (List.mem_of_getElem? hy)), sbV_k (by omega)]
    exact h.1.2.2.2.2.1 _ _ hy
  · rw [nA_up (by omega), nS_up (by omega), nB_up (by omega)]
    exact h.2.1
def fs_ : Nat → Nat
  | 0 => 7
  | 2 => 9
  | 4 => 10
  | 5 => 11
  | _ => 8
theorem stV_up {f i : Nat} {z : Int} (hf : f = 5) : stV (up W (fs_ f) i z) i = (stV W i).set f (V z) := by
  subst hf
  unfold stV itV up
  simp [fs_]
theorem stV_ne {k i j : Nat} {z : Int} (h : i ≠ j) : stV (up W k j z) i = stV W i := by
  unfold stV itV up
  simp [h]
theorem sbV_up {i : Nat} {z : Int} : sbV (up W 13 i z) i = (sbV W i).set 5 (V z) := by
  unfold sbV itV up
  simp
theorem sbV_ne {k i j : Nat} {z : Int} (h : i ≠ j) : sbV (up W k j z) i = sbV W i := by
  unfold sbV itV up
  simp [h]
theorem stV_12 {k j i : Nat} {z : Int} (h : 12 ≤ k) : stV (up W k j z) i = stV W i := by
  unfold stV itV up
  simp [show ¬ 7 = k by omega, show ¬ 8 = k by omega, show ¬ 9 = k by omega, show ¬ 10 = k by omega, show ¬ 11 = k by omega]
/-- a story's page -/
theorem HP.updS (h : HP L P W) {i x : Nat} {z : Int} (hx : (xS P)[i]? = some x) (hw : W1 L L' x (11, (stV W i).set 5 (V z))) : HP L' P (up W 11 i z) := by
  have hc := h.1.2.2.2.1 _ _ hx
  have hm : x ∈ xS P := List.mem_of_getElem? hx
  refine ⟨⟨?_, ⟨h.lA.w1 hc (show (11 : Nat) ≠ 13 ∧ (11 : Nat) ≠ 103 by decide) hw, h.lS.w1 hc (show (11 : Nat) ≠ 13 ∧ (11 : Nat) ≠ 103 by decide) hw, h.lB.w1 hc (show (11 : Nat) ≠ 13 ∧ (11 : Nat) ≠ 103 by decide) hw⟩, fun j y hy => ?_, fun j y hy => ?_, fun j y hy => ?_, (h.1.2.2.2.2.2.1.w1 hc (by show (11 : Nat) ≠ _; decide) hw).upd (by omega) (by decide), (h.1.2.2.2.2.2.2.1.w1 hc (by show (11 : Nat) ≠ _; decide) hw).upd (by omega) (by decide), (h.1.2.2.2.2.2.2.2.w1 hc (by show (11 : Nat) ≠ _; decide) hw).upd (by omega) (by decide)⟩, ?_, by rw [lo_up (by omega)]; exact h.2.2.1, h.2.2.2⟩
  · rw [hw.ne (by intro e; have q := h.1.1; rw [e, hc] at q; cases q), sg_up (by omega), pe_up (by omega), tm_up (by omega), lo_up (by omega)]
    exact h.1.1
  · rw [hw.ne (by rintro rfl; exact h.dAS (List.mem_of_getElem? hy) hm), adV_k (by omega)]
    exact h.1.2.2.1 _ _ hy
  · by_cases e : j = i
    · subst e
      rw [hx] at hy
      cases hy
      rw [hw.at, ← stV_up (f := 5) rfl]
      rfl
    · rw [hw.ne (by rintro rfl; exact e (nd_inj h.ndS hy hx)), stV_ne e]
      exact h.1.2.2.2.1 _ _ hy
  · rw [hw.ne (by rintro rfl; exact h.dSB hm (List.mem_of_getElem? hy)), sbV_k (by omega)]
    exact h.1.2.2.2.2.1 _ _ hy
  · rw [nA_up (by omega), nS_up (by omega), nB_up (by omega)]
    exact h.2.1
/-- a standby's page -/
theorem HP.updB (h : HP L P W) {i x : Nat} {z : Int} (hx : (xB P)[i]? = some x) (hw : W1 L L' x (11, (sbV W i).set 5 (V z))) : HP L' P (up W 13 i z) := by
  have hc := h.1.2.2.2.2.1 _ _ hx
  have hm : x ∈ xB P := List.mem_of_getElem? hx
  refine ⟨⟨?_, ⟨h.lA.w1 hc (show (11 : Nat) ≠ 13 ∧ (11 : Nat) ≠ 103 by decide) hw, h.lS.w1 hc (show (11 : Nat) ≠ 13 ∧ (11 : Nat) ≠ 103 by decide) hw, h.lB.w1 hc (show (11 : Nat) ≠ 13 ∧ (11 : Nat) ≠ 103 by decide) hw⟩, fun j y hy => ?_, fun j y hy => ?_, fun j y hy => ?_, (h.1.2.2.2.2.2.1.w1 hc (by show (11 : Nat) ≠ _; decide) hw).upd (by omega) (by decide), (h.1.2.2.2.2.2.2.1.w1 hc (by show (11 : Nat) ≠ _; decide) hw).upd (by omega) (by decide), (h.1.2.2.2.2.2.2.2.w1 hc (by show (11 : Nat) ≠ _; decide) hw).upd (by omega) (by decide)⟩, ?_, by rw [lo_up (by omega)]; exact h.2.2.1, h.2.2.2⟩
  · rw [hw.ne (by intro e; have q := h.1.1; rw [e, hc] at q; cases q), sg_up (by omega), pe_up (by omega), tm_up (by omega), lo_up (by omega)]
    exact h.1.1
  · rw [hw.ne (by rintro rfl; exact h.dAB (List.mem_of_getElem? hy) hm), adV_k (by omega)]
    exact h.1.2.2.1 _ _ hy
  · rw [hw.ne (by rintro rfl; exact h.dSB (List.mem_of_getElem? hy) hm), stV_12 (by omega)]
    exact h.1.2.2.2.1 _ _ hy
  · by_cases e : j = i
    · subst e
      rw [hx] at hy
      cases hy
      rw [hw.at, sbV_up]
    · rw [hw.ne (by rintro rfl; exact e (nd_inj h.ndB hy hx)), sbV_ne e]
      exact h.1.2.2.2.2.1 _ _ hy
  · rw [nA_up (by omega), nS_up (by omega), nB_up (by omega)]
    exact h.2.1
/-- set and set back -/
theorem pf_back {x f : Nat} {vs : List Value} {v w : Value} (h : hp L x = some (11, vs)) (hv : vs[f]? = some v) : ∃ L1, pf L x 11 f w = some L1 ∧ W1 L L1 x (11, vs.set f w) ∧ pf L1 x 11 f v = some L := by
  obtain ⟨L1, e1, w1⟩ := pf_s h (List.getElem?_eq_some_iff.mp hv).1 w
  refine ⟨L1, e1, w1, ?_⟩
  have b := hp_bd h
  have hL : L[x - nCell]? = some (11, vs) := by
    unfold hp at h
    rw [if_pos ⟨b.1, b.2.1⟩] at h
    exact h
  have e2 : L1 = L.set (x - nCell) (11, vs.set f w) := by
    unfold pf at e1
    rw [h] at e1
    have q : (if (11 : Nat) = 11 ∧ f < vs.length then some (L.set (x - nCell) (11, vs.set f w)) else none) = some L1 := e1
    rw [if_pos ⟨rfl, (List.getElem?_eq_some_iff.mp hv).1⟩] at q
    exact (Option.some.inj q).symm
  unfold pf
  rw [w1.at]
  show (if (11 : Nat) = 11 ∧ f < (vs.set f w).length then some (L1.set (x - nCell) (11, (vs.set f w).set f v)) else none) = _
  rw [if_pos ⟨rfl, by rw [List.length_set]; exact (List.getElem?_eq_some_iff.mp hv).1⟩, e2, List.set_set, List.set_set]
  congr 1
  obtain ⟨q1, q2⟩ := List.getElem?_eq_some_iff.mp hL
  obtain ⟨q3, q4⟩ := List.getElem?_eq_some_iff.mp hv
  have e3 : vs.set f v = vs := by rw [← q4]; exact List.set_getElem_self q3
  rw [e3, ← q2]
  exact List.set_getElem_self q1
end Pure
