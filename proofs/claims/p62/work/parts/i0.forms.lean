/-! FORMS: what is counted and what is lost -/
section Kth
variable {p : Int → Bool}
def cnT (p : Int → Bool) (lo : Int) (n : Nat) : Int := sumR (fun i => if p i = true then 1 else 0) lo n
theorem cnT_nn {lo : Int} {n : Nat} : 0 ≤ cnT p lo n := by
  have q := sumR_bd (w := fun i : Int => if p i = true then (1 : Int) else 0) (l := 0) (h := 1) (n := n) (i := lo) (fun j _ _ => by
    show 0 ≤ (if p j = true then (1 : Int) else 0) ∧ (if p j = true then (1 : Int) else 0) ≤ 1
    split <;> omega)
  unfold cnT
  omega
theorem cnT_s {lo : Int} {n : Nat} : cnT p lo (n + 1) = (if p lo = true then 1 else 0) + cnT p (lo + 1) n := rfl
theorem cnT_e {lo : Int} {n : Nat} : cnT p lo (n + 1) = cnT p lo n + (if p (lo + n) = true then 1 else 0) := by
  unfold cnT
  rw [sumR_snoc]
theorem kth_run {k : Int} : ∀ {n : Nat} {i c x : Int}, i ≤ x → x < i + n → p x = true → c + cnT p i (x - i).toNat = k → getI (runR (fun i (c : Int) => if p i = true then c + 1 else c) (fun i c => if p i = true ∧ c = k then some (.inl i) else none) (fun _ => (.inr () : Int ⊕ Unit)) i n c) = x
  | 0, i, c, x, h1, h2, _, _ => by omega
  | n + 1, i, c, x, h1, h2, h3, h4 => by
    show getI ((if p i = true ∧ c = k then some (.inl i) else none).getD _) = x
    by_cases e : x = i
    · rw [e, Int.sub_self] at h4
      have h4 : c + 0 = k := h4
      rw [if_pos ⟨by rw [← e]; exact h3, by omega⟩]
      exact e.symm
    · have ex : (x - i).toNat = (x - (i + 1)).toNat + 1 := by omega
      rw [ex, cnT_s] at h4
      have nn := cnT_nn (p := p) (lo := i + 1) (n := (x - (i + 1)).toNat)
      by_cases c1 : p i = true
      · rw [if_pos c1] at h4
        rw [if_neg (fun z => by omega)]
        show getI (runR _ _ _ (i + 1) n (if p i = true then c + 1 else c)) = x
        rw [if_pos c1]
        exact kth_run (by omega) (by omega) h3 (by omega)
      · rw [if_neg c1] at h4
        rw [if_neg (fun z => c1 z.1)]
        show getI (runR _ _ _ (i + 1) n (if p i = true then c + 1 else c)) = x
        rw [if_neg c1]
        exact kth_run (by omega) (by omega) h3 (by omega)
theorem kth_no {k : Int} : ∀ {n : Nat} {i c : Int}, (k < c ∨ c + cnT p i n ≤ k) → getI (runR (fun i (c : Int) => if p i = true then c + 1 else c) (fun i c => if p i = true ∧ c = k then some (.inl i) else none) (fun _ => (.inr () : Int ⊕ Unit)) i n c) = -1
  | 0, _, _, _ => rfl
  | n + 1, i, c, h => by
    have nn := cnT_nn (p := p) (lo := i + 1) (n := n)
    rw [cnT_s] at h
    show getI ((if p i = true ∧ c = k then some (.inl i) else none).getD _) = -1
    by_cases c1 : p i = true
    · rw [if_pos c1] at h
      rw [if_neg (fun z => by omega)]
      show getI (runR _ _ _ (i + 1) n (if p i = true then c + 1 else c)) = -1
      rw [if_pos c1]
      exact kth_no (by omega)
    · rw [if_neg c1] at h
      rw [if_neg (fun z => c1 z.1)]
      show getI (runR _ _ _ (i + 1) n (if p i = true then c + 1 else c)) = -1
      rw [if_neg c1]
      exact kth_no (by omega)
theorem kth_is {k lo x : Int} {n : Nat} (h1 : lo ≤ x) (h2 : x < lo + n) (h3 : p x = true) (h4 : cnT p lo (x - lo).toNat = k) : getI (kth p k lo n) = x := kth_run h1 h2 h3 (by omega)
theorem kth_none {k lo : Int} {n : Nat} (h : k < 0 ∨ cnT p lo n ≤ k) : getI (kth p k lo n) = -1 := kth_no (by omega)
end Kth
section Down
/-- from above with the latest of the best -/
def dnF (ok : Int → Bool) (v : Int → Int) (z : Int) (s : Int × Int) : Int × Int := if ok z = true ∧ s.2 ≤ v z then (z, v z) else s
def dnN (ok : Int → Bool) (v : Int → Int) : Nat → Int × Int → Int × Int
  | 0, s => s
  | n + 1, s => dnN ok v n (dnF ok v (n + 1 : Nat) s)
def BstD (ok : Int → Bool) (v : Int → Int) (lo hi : Int) (s : Int × Int) : Prop := (s = (0, -1) ∧ ∀ z, lo ≤ z → z < hi → ok z = false) ∨ ((lo ≤ s.1 ∧ s.1 < hi) ∧ ok s.1 = true ∧ s.2 = v s.1 ∧ (∀ z, lo ≤ z → z < hi → ok z = true → v z ≤ v s.1) ∧ ∀ z, lo ≤ z → z < s.1 → ok z = true → v z < v s.1)
theorem dn_spec {ok : Int → Bool} {v : Int → Int} (hv : ∀ z, 0 ≤ v z) {hi : Int} : ∀ (n : Nat) (s : Int × Int), BstD ok v (n + 1) hi s → (n : Int) < hi → BstD ok v 1 hi (dnN ok v n s)
  | 0, s, h, _ => by
    have h : BstD ok v (((0 : Nat) : Int) + 1) hi s := h
    exact h
  | n + 1, s, h, hn => by
    refine dn_spec hv n _ ?_ (by omega)
    obtain ⟨z0, hz0⟩ : ∃ z0 : Int, z0 = ((n + 1 : Nat) : Int) := ⟨_, rfl⟩
    rw [← hz0] at h hn ⊢
    have e : (n : Int) + 1 = z0 := by omega
    rw [e]
    have vz := hv z0
    have split_ : ∀ z, z0 ≤ z → z = z0 ∨ z0 + 1 ≤ z := fun z h => by omega
    unfold dnF
    rcases h with ⟨h1, h2⟩ | ⟨h1, h2, h3, h4, h5⟩
    · by_cases c : ok z0 = true
      · rw [h1, if_pos ⟨c, by show (-1 : Int) ≤ v z0; omega⟩]
        refine .inr ⟨⟨Int.le_refl _, hn⟩, c, rfl, fun z y1 y2 y3 => ?_, fun z y1 y2 _ => ?_⟩
        · rcases split_ z y1 with y | y
          · rw [y]; exact Int.le_refl _
          · rw [h2 z y y2] at y3; cases y3
        · have y2 : z < z0 := y2
          omega
      · rw [if_neg (fun y => c y.1)]
        refine .inl ⟨h1, fun z y1 y2 => ?_⟩
        rcases split_ z y1 with y | y
        · rw [y]; exact Bool.eq_false_iff.mpr c
        · exact h2 z y y2
    · by_cases c : ok z0 = true ∧ s.2 ≤ v z0
      · rw [if_pos c]
        refine .inr ⟨⟨Int.le_refl _, hn⟩, c.1, rfl, fun z y1 y2 y3 => ?_, fun z y1 y2 _ => ?_⟩
        · show v z ≤ v z0
          rcases split_ z y1 with y | y
          · rw [y]; exact Int.le_refl _
          · have := h4 z y y2 y3
            rw [h3] at c
            omega
        · have y2 : z < z0 := y2
          omega
      · rw [if_neg c]
        refine .inr ⟨⟨by omega, h1.2⟩, h2, h3, fun z y1 y2 y3 => ?_, fun z y1 y2 y3 => ?_⟩
        · rcases split_ z y1 with y | y
          · rw [y] at y3 ⊢
            by_cases d : s.2 ≤ v z0
            · exact absurd ⟨y3, d⟩ c
            · omega
          · exact h4 z y y2 y3
        · rcases split_ z y1 with y | y
          · rw [y] at y3 ⊢
            by_cases d : s.2 ≤ v z0
            · exact absurd ⟨y3, d⟩ c
            · omega
          · exact h5 z y y2 y3
theorem up_spec {ok : Int → Bool} {v : Int → Int} (hv : ∀ z, 0 ≤ v z) : ∀ n : Nat, BstD ok v 1 (n + 1) (itR (fun z s => if ok z = true ∧ s.2 < v z then (z, v z) else s) 1 n (0, -1))
  | 0 => .inl ⟨rfl, fun z y1 y2 => by omega⟩
  | n + 1 => by
    have h := up_spec (ok := ok) hv n
    rw [itR_snoc]
    obtain ⟨s, hs⟩ : ∃ s, s = itR (fun z (s : Int × Int) => if ok z = true ∧ s.2 < v z then (z, v z) else s) 1 n (0, -1) := ⟨_, rfl⟩
    rw [← hs] at h ⊢
    obtain ⟨z0, hz0⟩ : ∃ z0 : Int, z0 = 1 + (n : Int) := ⟨_, rfl⟩
    rw [← hz0]
    rw [show (n : Int) + 1 = z0 by omega] at h
    rw [show ((n + 1 : Nat) : Int) + 1 = z0 + 1 by omega]
    have vz := hv z0
    have split_ : ∀ z, z < z0 + 1 → z = z0 ∨ z < z0 := fun z h => by omega
    show BstD ok v 1 (z0 + 1) (if ok z0 = true ∧ s.2 < v z0 then (z0, v z0) else s)
    rcases h with ⟨h1, h2⟩ | ⟨h1, h2, h3, h4, h5⟩
    · by_cases c : ok z0 = true
      · rw [h1, if_pos ⟨c, by show (-1 : Int) < v z0; omega⟩]
        refine .inr ⟨⟨by show 1 ≤ z0; omega, by show z0 < z0 + 1; omega⟩, c, rfl, fun z y1 y2 y3 => ?_, fun z y1 y2 y3 => ?_⟩
        · rcases split_ z y2 with y | y
          · rw [y]; exact Int.le_refl _
          · rw [h2 z y1 y] at y3; cases y3
        · rw [h2 z y1 y2] at y3; cases y3
      · rw [if_neg (fun y => c y.1)]
        refine .inl ⟨h1, fun z y1 y2 => ?_⟩
        rcases split_ z y2 with y | y
        · rw [y]; exact Bool.eq_false_iff.mpr c
        · exact h2 z y1 y
    · by_cases c : ok z0 = true ∧ s.2 < v z0
      · rw [if_pos c]
        refine .inr ⟨⟨by show 1 ≤ z0; omega, by show z0 < z0 + 1; omega⟩, c.1, rfl, fun z y1 y2 y3 => ?_, fun z y1 y2 y3 => ?_⟩
        · show v z ≤ v z0
          rcases split_ z y2 with y | y
          · rw [y]; exact Int.le_refl _
          · have := h4 z y1 y y3
            rw [h3] at c
            omega
        · show v z < v z0
          have := h4 z y1 y2 y3
          rw [h3] at c
          omega
      · rw [if_neg c]
        refine .inr ⟨⟨h1.1, by omega⟩, h2, h3, fun z y1 y2 y3 => ?_, h5⟩
        rcases split_ z y2 with y | y
        · rw [y] at y3 ⊢
          by_cases d : s.2 < v z0
          · exact absurd ⟨y3, d⟩ c
          · omega
        · exact h4 z y1 y y3
theorem BstD.uni {ok : Int → Bool} {v : Int → Int} {hi : Int} {s s' : Int × Int} (h : BstD ok v 1 hi s) (h' : BstD ok v 1 hi s') : s.1 = s'.1 := by
  rcases h with ⟨h1, h2⟩ | ⟨h1, h2, h3, h4, h5⟩
  · rcases h' with ⟨g1, g2⟩ | ⟨g1, g2, g3, g4, g5⟩
    · rw [h1, g1]
    · rw [h2 _ g1.1 g1.2] at g2; cases g2
  · rcases h' with ⟨g1, g2⟩ | ⟨g1, g2, g3, g4, g5⟩
    · rw [g2 _ h1.1 h1.2] at h2; cases h2
    · have q1 := h4 _ g1.1 g1.2 g2
      have q2 := g4 _ h1.1 h1.2 h2
      by_cases c : s.1 < s'.1
      · have := g5 _ h1.1 c h2; omega
      · by_cases d : s'.1 < s.1
        · have := h5 _ g1.1 d g2; omega
        · omega
end Down
section Lost
variable {W V : Vw} {f : Int}
def lsE (V : Vw) : Int := wr (lo_ V + endW V)
theorem up_tm : up V 17 5 (tm V) = V := by
  funext k i
  show (if k = 17 ∧ i = 5 then tm V else V k i) = V k i
  by_cases c : k = 17 ∧ i = 5
  · rw [if_pos c, c.1, c.2]; rfl
  · rw [if_neg c]
theorem lsE_tm {z : Int} : lsE (up V 17 5 z) = lsE V := by
  have e : endW (up V 17 5 z) = endW V := by
    unfold endW sumA edP
    rw [show nA (up V 17 5 z) = nA V from rfl]
    refine sumR_congr (fun x _ _ => ?_)
    show (if decide (1 ≤ at_ (up V 17 5 z) 6 x ∧ at_ (up V 17 5 z) 15 (fOf (up V 17 5 z) (at_ (up V 17 5 z) 6 x)) = 0 ∧ at_ (up V 17 5 z) 16 (fOf (up V 17 5 z) (at_ (up V 17 5 z) 6 x)) ≠ -1 ∧ at_ (up V 17 5 z) 16 (fOf (up V 17 5 z) (at_ (up V 17 5 z) 6 x)) < at_ (up V 17 5 z) 5 x) = true then at_ (up V 17 5 z) 4 x else 0) = _
    have ef : ∀ y, fOf (up V 17 5 z) y = fOf V y := fun y => rfl
    simp only [ef, at_upn (W := V) (k := 17) (i := 5) (z := z) (k' := 6) (by decide), at_upn (W := V) (k := 17) (i := 5) (z := z) (k' := 15) (by decide), at_upn (W := V) (k := 17) (i := 5) (z := z) (k' := 16) (by decide), at_upn (W := V) (k := 17) (i := 5) (z := z) (k' := 5) (by decide), at_upn (W := V) (k := 17) (i := 5) (z := z) (k' := 4) (by decide)]
  unfold lsE
  rw [e]
  rfl
theorem hr_lsE {c0 : Int} (hG : G3 V) (ht : tm V = c0) (h0 : 0 ≤ c0) : ∀ m : Nat, (m : Int) ≤ frm V → lsE (hrN c0 V m).2 = lsE V
  | 0, _ => rfl
  | m + 1, h => by
    have q := hr_lsE hG ht h0 m (by omega)
    have iv := hr_inv (c0 := c0) (c := 0) hG (m := m) (by omega)
    have iv : G3 (hrN c0 V m).2 ∧ N5 V (hrN c0 V m).2 ∧ tm (hrN c0 V m).2 = tm V ∧ _ := iv
    rw [hrN_s, ← q]
    unfold hrS
    by_cases c : at_ (hrN c0 V m).2 15 m = 0 ∧ at_ (hrN c0 V m).2 16 m = c0
    · rw [if_pos c]
      have e : frm (hrN c0 V m).2 = frm V := by unfold frm; rw [show sg (hrN c0 V m).2 = sg V from iv.2.1.2.2.2.1]
      have et : tm (hrN c0 V m).2 = c0 := iv.2.2.1.trans ht
      have z := (end_step iv.1 (f := (m : Int)) ⟨by omega, by rw [e]; omega⟩ c.1 (by rw [c.2]; omega)).1
      have eu := up_tm (V := (hrN c0 V m).2)
      rw [et] at eu
      rw [c.2, eu] at z
      exact z
    · rw [if_neg c]
theorem ps_lsE (hG : Good W) : ∀ n : Nat, tm W + n ≤ 9999 → lsE (psN W n).2 = lsE W ∧ ∀ f, 0 ≤ f → f < frm W → at_ (psN W n).2 15 f = 0 → at_ W 15 f = 0 ∧ at_ (psN W n).2 16 f = at_ W 16 f
  | 0, _ => ⟨rfl, fun f _ _ z => ⟨z, rfl⟩⟩
  | n + 1, h => by
    have ih := ps_lsE hG n (by omega)
    have iv := psN_i hG (i := (n : Int)) (by omega) (by omega)
    have e : psN W ((n + 1 : Nat) : Int) = psS n (psN W n) := psN_s (W := W) (i := (n : Int)) (by omega)
    have bz := iv.1.1.z
    have g := iv.1.g3.setT (z := tm (psN W n).2 + 1) (by omega)
    have ef : frm (psN W n).2 = frm W := by unfold frm; rw [show sg (psN W n).2 = sg W from iv.2.1.2.2.2.1]
    have u := hr_lsE (c0 := tm (psN W n).2 + 1) g tm_tm (by omega) (frm (psN W n).2).toNat (by rw [frm_tm]; omega)
    rw [lsE_tm] at u
    have hv := (hr_inv (c0 := tm (psN W n).2 + 1) (c := 0) g (m := (frm (psN W n).2).toNat) (by rw [frm_tm]; omega)).2.2.2.2
    rw [e]
    refine ⟨Eq.trans (show lsE (hrA (psN W n).2).2 = lsE (psN W n).2 from u) ih.1, fun f f0 f1 f2 => ?_⟩
    have f2 : at_ (hrA (psN W n).2).2 15 f = 0 := f2
    have y := hv f f0 (by rw [frm_tm]; omega) f2
    rw [at_upn (by decide), at_upn (by decide)] at y
    have y2 : at_ (hrA (psN W n).2).2 16 f = at_ (psN W n).2 16 f := y.2.1
    have z := ih.2 f f0 f1 y.1
    exact ⟨z.1, by show at_ (hrA (psN W n).2).2 16 f = _; rw [y2]; exact z.2⟩
/-- all hours to the last closing -/
theorem lost_all (hG : Good W) {a : Int} (ha : 0 ≤ a) (ht : tm W + a ≤ 9999) (hm : ∀ f, 0 ≤ f → f < frm W → at_ W 15 f = 0 → at_ W 16 f ≤ tm W + a) : wr (lo_ (psN W a).2 - lo_ W) = wr (endW W) := by
  have q := ps_lsE hG a.toNat (by omega)
  rw [Int.toNat_of_nonneg ha] at q
  have iv := psN_i hG ha ht
  have ef : frm (psN W a).2 = frm W := by unfold frm; rw [show sg (psN W a).2 = sg W from iv.2.1.2.2.2.1]
  have z : endW (psN W a).2 = 0 := end_none (fun f f0 f1 f2 => by
    rw [ef] at f1
    have y := q.2 f f0 f1 f2
    have d := iv.1.2.2.2 f f0 (by rw [ef]; exact f1) f2
    have m := hm f f0 f1 y.1
    have t := iv.2.2.1
    rw [y.2] at d ⊢
    omega) iv.1.1
  have e := q.1
  unfold lsE at e
  rw [z, Int.add_zero] at e
  have e2 := wr_c (k := -lo_ W) e
  rw [show lo_ W + endW W + -lo_ W = endW W by omega] at e2
  rw [show lo_ (psN W a).2 - lo_ W = lo_ (psN W a).2 + -lo_ W by omega]
  exact e2
end Lost
