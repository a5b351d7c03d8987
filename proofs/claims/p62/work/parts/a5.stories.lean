/-! THE LAW'S STORIES: what forms they touch -/
section Touch
variable {S : St} {L L' : List PC} {P : PA} {W : Vw}
theorem any_t {p : Int → Bool} {lo : Int} {n : Nat} (h0 : 0 ≤ lo) (b : Bool) (h : b = true ↔ ∃ j, lo ≤ j ∧ j < lo + n ∧ p j = true) : bnS (if fstR p lo n = -1 then some (.inr ()) else some (.inl true)) (fun r => some r) (fun _ : Unit => some false) = some b := by
  by_cases c : fstR p lo n = -1
  · rw [if_pos c]
    have e := (fstR_any h0).mp c
    show some false = some b
    cases b with
    | false => rfl
    | true =>
      have q := anyR_iff.mpr (h.mp rfl)
      rw [e] at q; cases q
  · rw [if_neg c]
    show some true = some b
    cases b with
    | true => rfl
    | false =>
      exfalso
      apply c
      rw [fstR_any h0]
      cases e : anyR p lo n with
      | false => rfl
      | true => exact absurd (h.mpr (anyR_iff.mp e)) (by decide)
theorem hasPg_iff (hV : Val W) {s f : Int} (hs : 0 ≤ s ∧ s < nS W) : hasPg W s f = true ↔ 0 < at_ W 11 s ∧ ∃ q, at_ W 11 s ≤ q ∧ q < at_ W 11 s + at_ W 7 s ∧ fOf W q = f := by
  have v := hV.2.2.1 s hs.1 hs.2
  have b := hV.z
  unfold hasPg anyP
  rw [anyR_iff]
  constructor
  · rintro ⟨j, h1, h2, h3⟩
    rw [Bool.and_eq_true, decide_eq_true_eq] at h3
    have c := of_decide_eq_true h3.1
    exact ⟨c.1, j, c.2.1, c.2.2, h3.2⟩
  · rintro ⟨h0, q, h1, h2, h3⟩
    refine ⟨q, by omega, by omega, ?_⟩
    rw [Bool.and_eq_true, decide_eq_true_eq]
    exact ⟨decide_eq_true ⟨h0, h1, h2⟩, h3⟩
theorem l_touches (h : HP L P W) (hV : Val W) {s f : Int} (hs : 0 ≤ s ∧ s < nS W) {x : Nat} (hxs : (xS P)[s.toNat]? = some x) : gn_LP_touches (pT P) x f S L = some (hasPg W s f) := by
  have b := hV.z
  have v := hV.2.2.1 s hs.1 hs.2
  have hx0 := h.1.2.2.2.1 _ _ hxs
  obtain ⟨k, f0, f1, f2, f3, f4, f5, f6⟩ := st_f hV hs hx0
  unfold gn_LP_touches
  rw [f5, bnO_s]
  by_cases c0 : at_ W 11 s ≤ 0
  · have q : lo2_LP_touches_5 (pT P) x f S L FU (at_ W 11 s) = some (.inr ()) := by
      show lp (fun go z => lb2_LP_touches_5 (pT P) x f S L go z) FU _ = _
      rw [show FU = (FU - 1) + 1 by have := FU_big (n := 0) (by decide); omega, lp_succ]
      unfold lb2_LP_touches_5
      rw [f5, bnO_s, if_pos c0]
    rw [q]
    show some false = _
    cases e : hasPg W s f with
    | false => rfl
    | true => have := ((hasPg_iff hV hs).mp e).1; omega
  · have q := lp_fst (body := fun go z => lb2_LP_touches_5 (pT P) x f S L go z) (fun q => decide (fOf W q = f)) (fun _ => true) (at_ W 11 s) (at_ W 11 s + at_ W 7 s)
      (fun go i h0 => by
        show lb2_LP_touches_5 (pT P) x f S L go i = _
        unfold lb2_LP_touches_5
        simp only [f5, f0, bnO_s, nm_x, wr_s (z := at_ W 11 s + at_ W 7 s) (by omega) (by omega)]
        rw [if_neg c0, if_pos h0])
      (fun go i h1 h2 => by
        show lb2_LP_touches_5 (pT P) x f S L go i = _
        unfold lb2_LP_touches_5
        simp only [f5, f0, bnO_s, nm_x, wr_s (z := at_ W 11 s + at_ W 7 s) (by omega) (by omega), h.k, eq_self, if_true, l_form h hV (p := i) (by omega) (by omega), wr_s (z := i + 1) (by omega) (by omega)]
        rw [if_neg c0, if_neg (by omega)]
        by_cases c : fOf W i = f
        · rw [if_pos c, decide_eq_true c, if_pos rfl]
        · rw [if_neg c, decide_eq_false c, if_neg Bool.false_ne_true]) (n := FU) (by omega) (FU_big (by omega))
    rw [show lo2_LP_touches_5 (pT P) x f S L FU (at_ W 11 s) = _ from q]
    refine any_t (by omega) _ ?_
    rw [hasPg_iff hV hs]
    constructor
    · rintro ⟨-, q, h1, h2, h3⟩
      exact ⟨q, h1, by omega, decide_eq_true h3⟩
    · rintro ⟨q, h1, h2, h3⟩
      exact ⟨by omega, q, h1, by omega, of_decide_eq_true h3⟩
theorem stOp_iff (hV : Val W) {s : Int} (hs : 0 ≤ s ∧ s < nS W) : stOp W s = true ↔ ∃ f, 0 ≤ f ∧ f < frm W ∧ at_ W 15 f = 0 ∧ hasPg W s f = true := by
  have v := hV.2.2.1 s hs.1 hs.2
  have b := hV.z
  unfold stOp anyP
  rw [anyR_iff]
  constructor
  · rintro ⟨j, h1, h2, h3⟩
    rw [Bool.and_eq_true, Bool.not_eq_true'] at h3
    have c := of_decide_eq_true h3.1
    have hfb := l_fb hV (p := j) h1 (by omega)
    have vf := hV.2.2.2.2 _ hfb.1 hfb.2
    refine ⟨fOf W j, hfb.1, hfb.2, ?_, (hasPg_iff hV hs).mpr ⟨c.1, j, c.2.1, c.2.2, rfl⟩⟩
    have := of_decide_eq_false h3.2
    omega
  · rintro ⟨f, h0, h1, h2, h3⟩
    obtain ⟨g0, q, g1, g2, g3⟩ := (hasPg_iff hV hs).mp h3
    refine ⟨q, by omega, by omega, ?_⟩
    rw [Bool.and_eq_true, Bool.not_eq_true']
    exact ⟨decide_eq_true ⟨g0, g1, g2⟩, decide_eq_false (by rw [g3]; omega)⟩
theorem stPr_iff (hV : Val W) {s : Int} (hs : 0 ≤ s ∧ s < nS W) : stPr W s = true ↔ ∃ f, 0 ≤ f ∧ f < frm W ∧ at_ W 15 f = 1 ∧ hasPg W s f = true := by
  have v := hV.2.2.1 s hs.1 hs.2
  have b := hV.z
  unfold stPr anyP
  rw [anyR_iff]
  constructor
  · rintro ⟨j, h1, h2, h3⟩
    rw [Bool.and_eq_true] at h3
    have c := of_decide_eq_true h3.1
    have hfb := l_fb hV (p := j) h1 (by omega)
    exact ⟨fOf W j, hfb.1, hfb.2, of_decide_eq_true h3.2, (hasPg_iff hV hs).mpr ⟨c.1, j, c.2.1, c.2.2, rfl⟩⟩
  · rintro ⟨f, h0, h1, h2, h3⟩
    obtain ⟨g0, q, g1, g2, g3⟩ := (hasPg_iff hV hs).mp h3
    refine ⟨q, by omega, by omega, ?_⟩
    rw [Bool.and_eq_true]
    exact ⟨decide_eq_true ⟨g0, g1, g2⟩, decide_eq_true (by rw [g3]; exact h2)⟩
theorem l_open (h : HP L P W) (hV : Val W) {s : Int} (hs : 0 ≤ s ∧ s < nS W) {x : Nat} (hxs : (xS P)[s.toNat]? = some x) : gn_LP_open (pT P) x S L = some (stOp W s) := by
  have b := hV.z
  have ef : frm W = 2 * sg W := rfl
  have q := lp_fst (body := fun go z => lb2_LP_open_2 (pT P) x S L go z) (fun f => decide (at_ W 15 f = 0) && hasPg W s f) (fun _ => true) 0 (frm W)
    (fun go i h0 => by
      show lb2_LP_open_2 (pT P) x S L go i = _
      unfold lb2_LP_open_2
      rw [h.gg hV, bnO_s, nm_x, wr_s (by omega) (by omega), if_pos (by omega)])
    (fun go i h1 h2 => by
      show lb2_LP_open_2 (pT P) x S L go i = _
      have vf := hV.2.2.2.2 i h1 (by omega)
      unfold lb2_LP_open_2
      simp only [h.gg hV, bnO_s, nm_x, wr_s (z := 2 * sg W) (by omega) (by omega), h.fP, rfB_r, h.pr hV (f := i) (by omega), h.k, eq_self, if_true, l_touches h hV hs hxs, wr_s (z := i + 1) (by omega) (by omega)]
      rw [if_neg (by omega)]
      by_cases c : at_ W 15 i = 0
      · rw [if_pos c, decide_eq_true c, Bool.true_and]
      · rw [if_neg c, decide_eq_false c, Bool.false_and, if_neg Bool.false_ne_true]) (n := FU) (Int.le_refl _) (FU_big (by omega))
  unfold gn_LP_open
  rw [show lo2_LP_open_2 (pT P) x S L FU 0 = _ from q]
  refine any_t (Int.le_refl _) _ ?_
  rw [stOp_iff hV hs]
  constructor
  · rintro ⟨f, h1, h2, h3, h4⟩
    exact ⟨f, h1, by omega, by rw [decide_eq_true h3, h4]; rfl⟩
  · rintro ⟨f, h1, h2, h3⟩
    rw [Bool.and_eq_true] at h3
    exact ⟨f, h1, by omega, of_decide_eq_true h3.1, h3.2⟩
theorem l_shut (h : HP L P W) (hV : Val W) {s : Int} (hs : 0 ≤ s ∧ s < nS W) {x : Nat} (hxs : (xS P)[s.toNat]? = some x) : gn_LP_shut (pT P) x S L = some (stPr W s) := by
  have b := hV.z
  have ef : frm W = 2 * sg W := rfl
  have q := lp_fst (body := fun go z => lb2_LP_shut_2 (pT P) x S L go z) (fun f => decide (at_ W 15 f = 1) && hasPg W s f) (fun _ => true) 0 (frm W)
    (fun go i h0 => by
      show lb2_LP_shut_2 (pT P) x S L go i = _
      unfold lb2_LP_shut_2
      rw [h.gg hV, bnO_s, nm_x, wr_s (by omega) (by omega), if_pos (by omega)])
    (fun go i h1 h2 => by
      show lb2_LP_shut_2 (pT P) x S L go i = _
      have vf := hV.2.2.2.2 i h1 (by omega)
      unfold lb2_LP_shut_2
      simp only [h.gg hV, bnO_s, nm_x, wr_s (z := 2 * sg W) (by omega) (by omega), h.fP, rfB_r, h.pr hV (f := i) (by omega), h.k, eq_self, if_true, l_touches h hV hs hxs, wr_s (z := i + 1) (by omega) (by omega)]
      rw [if_neg (by omega)]
      rcases vf.2.1 with c | c
      · rw [if_pos c, decide_eq_false (by omega), Bool.false_and, if_neg Bool.false_ne_true]
      · rw [if_neg (by omega), decide_eq_true c, Bool.true_and]) (n := FU) (Int.le_refl _) (FU_big (by omega))
  unfold gn_LP_shut
  rw [show lo2_LP_shut_2 (pT P) x S L FU 0 = _ from q]
  refine any_t (Int.le_refl _) _ ?_
  rw [stPr_iff hV hs]
  constructor
  · rintro ⟨f, h1, h2, h3, h4⟩
    exact ⟨f, h1, by omega, by rw [decide_eq_true h3, h4]; rfl⟩
  · rintro ⟨f, h1, h2, h3⟩
    rw [Bool.and_eq_true] at h3
    exact ⟨f, h1, by omega, of_decide_eq_true h3.1, h3.2⟩
theorem l_ready (h : HP L P W) (hV : Val W) {k : Int} (hk : (0 ≤ k ∧ k < nA W ∧ k < 100) ∨ (100 ≤ k ∧ k - 100 < nS W)) : gn_Law_ready (pT P) k S L = some (rdy W k) := by
  have b := hV.z
  unfold gn_Law_ready rdy
  rcases hk with ⟨h1, h2, h3⟩ | ⟨h1, h2⟩
  · obtain ⟨x, -, hg, hx⟩ := h.ad ⟨h1, h2⟩
    obtain ⟨kk, f0, f1, f2, f3, f4, f5, f6⟩ := ad_f hV ⟨h1, h2⟩ hx
    rw [if_neg (by omega), if_neg (by omega)]
    simp only [h.fA, bnO_s, rfB_r, h.kA, eq_self, if_true, hg, kk, f4]
  · obtain ⟨x, -, hg, hx⟩ := h.st (i := k - 100) (by omega)
    obtain ⟨kk, f0, f1, f2, f3, f4, f5, f6⟩ := st_f hV (i := k - 100) (by omega) hx
    rw [if_pos h1, if_pos h1]
    simp only [h.fS, bnO_s, rfB_r, h.kS, eq_self, if_true, nm_x, wr_s (z := k - 100) (by omega) (by omega), hg, kk, f4]
end Touch
