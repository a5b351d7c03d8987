/-! emptiest -/
section Emptiest
variable {S T : St} {W : Vw} {n : Int} {hs : Int → Vw}
def ekP (W : Vw) (p : Int) : Int := (4 - lf W p) * 100 + p
def ecP (W : Vw) (c : Int) : Int := ctK (fun _ => true) (ekP W) 1 (pgs W).toNat c
theorem ek_lf (hG : Good W) {p : Int} (h1 : 1 ≤ p) (h2 : p ≤ pgs W) : 0 ≤ lf W p ∧ lf W p ≤ 4 := lf_bd hG.1 hG.2.1 h1 h2
theorem ek_inj (hG : Good W) {x y : Int} (hx : 1 ≤ x ∧ x ≤ pgs W) (hy : 1 ≤ y ∧ y ≤ pgs W) (e : ekP W x = ekP W y) : x = y := by
  have b := hG.1.pg
  unfold ekP at e
  omega
theorem ec_bd (hG : Good W) {c : Int} : 0 ≤ ecP W c ∧ ecP W c ≤ 64 := by
  have b := hG.1.pg
  have q := sumR_bd (w := fun y => if true = true ∧ ekP W y < c then 1 else 0) (l := 0) (h := 1) (n := (pgs W).toNat) (i := 1) (fun j _ _ => by
    show 0 ≤ (if true = true ∧ ekP W j < c then (1 : Int) else 0) ∧ (if true = true ∧ ekP W j < c then (1 : Int) else 0) ≤ 1
    split <;> omega)
  have e : ecP W c = sumR (fun y => if true = true ∧ ekP W y < c then 1 else 0) 1 (pgs W).toNat := rfl
  rw [e]
  omega
theorem ec_inj (hG : Good W) {x y : Int} (hx : 1 ≤ x ∧ x ≤ pgs W) (hy : 1 ≤ y ∧ y ≤ pgs W) (e : ecP W (ekP W x) = ecP W (ekP W y)) : x = y :=
  ctK_inj (p := fun _ => true) (k := ekP W) (l := 1) (N := (pgs W).toNat) (fun x y a1 a2 b1 b2 _ _ e => ek_inj hG ⟨a1, by omega⟩ ⟨b1, by omega⟩ e) ⟨hx.1, by omega⟩ ⟨hy.1, by omega⟩ rfl rfl e
theorem ec_one (hG : Good W) {x : Int} (hx : 1 ≤ x ∧ x ≤ pgs W) : ecP W (ekP W x + 1) = ecP W (ekP W x) + 1 :=
  ctK_one (p := fun _ => true) (k := ekP W) (l := 1) (N := (pgs W).toNat) (fun x y a1 a2 b1 b2 _ _ e => ek_inj hG ⟨a1, by omega⟩ ⟨b1, by omega⟩ e) ⟨hx.1, by omega⟩ rfl
theorem ec_gap (hG : Good W) {c d : Int} (h : ∀ y, 1 ≤ y → y ≤ pgs W → (ekP W y < c ↔ ekP W y < d)) : ecP W c = ecP W d := by
  have b := hG.1.pg
  exact ctK_gap (p := fun _ => true) (k := ekP W) (l := 1) (N := (pgs W).toNat) (fun y h1 h2 _ => h y h1 (by omega))
theorem em_in (h : PT S 5 W) (hG : Good W) {a v : Int} (hv : 0 ≤ v ∧ v ≤ 4) : ∀ (m n : Nat) (i c : Int), (pgs W + 1 - i).toNat = m → m < n → 1 ≤ i → i ≤ pgs W + 1 → c = ecP W ((4 - v) * 100 + i) →
    (∃ x, 1 ≤ x ∧ x ≤ pgs W ∧ ecP W (ekP W x) = a ∧ lp (fun go p0 => lb_FP_emptiest_11 0 a v S go p0.1 p0.2) n (c, i) = some (.inl x)) ∨ (lp (fun go p0 => lb_FP_emptiest_11 0 a v S go p0.1 p0.2) n (c, i) = some (.inr (ecP W ((4 - v) * 100 + pgs W + 1))) ∧ ∀ x, lf W x = v → i ≤ x → x ≤ pgs W → ecP W (ekP W x) ≠ a)
  | 0, n + 1, i, c, hm, _, h1, h2, hc => by
    have b := hG.1.pg
    have e1 : g S 5 1 = pgs W := h.pl.gp
    have ei : i = pgs W + 1 := by omega
    subst ei
    refine .inr ⟨?_, fun x _ _ _ => by omega⟩
    rw [lp_succ]
    show lb_FP_emptiest_11 0 a v S _ c (pgs W + 1) = _
    unfold lb_FP_emptiest_11
    rw [tg_0_3, e1, if_pos (by omega), hc, show (4 - v) * 100 + (pgs W + 1) = (4 - v) * 100 + pgs W + 1 by omega]
  | m + 1, n + 1, i, c, hm, hn, h1, h2, hc => by
    have b := hG.1.pg
    have e1 : g S 5 1 = pgs W := h.pl.gp
    have el : g S 30 i.toNat = lf W i := h.l h1 (by omega)
    have cb := ec_bd hG (c := (4 - v) * 100 + i)
    rw [lp_succ]
    have eb : ∀ go : Int × Int → Option (Int ⊕ Int), lb_FP_emptiest_11 0 a v S go c i = if lf W i = v then (if c = a then some (.inl i) else go (c + 1, i + 1)) else go (c, i + 1) := fun go => by
      unfold lb_FP_emptiest_11
      rw [tg_0_3, e1, if_neg (by omega : ¬ pgs W < i), if_pos (by omega : 0 ≤ i ∧ i < 65), tg_5_5, el, nm_x, nm_x, nm_x, wr_s (z := i + 1) (by omega) (by omega), wr_s (z := c + 1) (by omega) (by omega)]
    have eb2 : lb_FP_emptiest_11 0 a v S (lp (fun go p0 => lb_FP_emptiest_11 0 a v S go p0.1 p0.2) n) (c, i).1 (c, i).2 = _ := eb _
    rw [eb2]
    by_cases d : lf W i = v
    · have ek : (4 - v) * 100 + i = ekP W i := by unfold ekP; rw [d]
      by_cases f : c = a
      · rw [if_pos d, if_pos f]
        exact .inl ⟨i, h1, by omega, by rw [← ek, ← hc, f], rfl⟩
      · rw [if_pos d, if_neg f]
        have ec : c + 1 = ecP W ((4 - v) * 100 + (i + 1)) := by
          rw [show (4 - v) * 100 + (i + 1) = ekP W i + 1 by omega, ec_one hG ⟨h1, by omega⟩, ← ek, hc]
        rcases em_in h hG hv m n (i + 1) (c + 1) (by omega) (by omega) (by omega) (by omega) ec with q | ⟨q1, q2⟩
        · exact .inl q
        · refine .inr ⟨q1, fun x x1 x2 x3 => ?_⟩
          by_cases z : x = i
          · rw [z, ← ek, ← hc]; exact f
          · exact q2 x x1 (by omega) x3
    · rw [if_neg d]
      have ec : c = ecP W ((4 - v) * 100 + (i + 1)) := by
        rw [hc]
        refine ec_gap hG (fun y y1 y2 => ?_)
        have yb := ek_lf hG y1 y2
        by_cases z : y = i
        · subst z; unfold ekP; omega
        · unfold ekP; omega
      rcases em_in h hG hv m n (i + 1) c (by omega) (by omega) (by omega) (by omega) ec with q | ⟨q1, q2⟩
      · exact .inl q
      · refine .inr ⟨q1, fun x x1 x2 x3 => ?_⟩
        by_cases z : x = i
        · exact absurd (z ▸ x1) d
        · exact q2 x x1 (by omega) x3
theorem em_out (h : PT S 5 W) (hG : Good W) {a : Int} : ∀ (m n : Nat) (v c : Int), (v + 1).toNat = m → m < n → -1 ≤ v → v ≤ 4 → c = ecP W ((4 - v) * 100 + 1) →
    (∃ x, 1 ≤ x ∧ x ≤ pgs W ∧ ecP W (ekP W x) = a ∧ lp (fun go p0 => lb_FP_emptiest_4 0 a S go p0.1 p0.2) n (c, v) = some (.inl x)) ∨ (lp (fun go p0 => lb_FP_emptiest_4 0 a S go p0.1 p0.2) n (c, v) = some (.inr ()) ∧ ∀ x, 1 ≤ x → x ≤ pgs W → lf W x ≤ v → ecP W (ekP W x) ≠ a)
  | 0, n + 1, v, c, hm, _, h1, h2, hc => by
    refine .inr ⟨?_, fun x x1 x2 x3 => by have := ek_lf hG x1 x2; omega⟩
    rw [lp_succ]
    show lb_FP_emptiest_4 0 a S _ c v = _
    unfold lb_FP_emptiest_4
    rw [if_pos (by omega)]
  | m + 1, n + 1, v, c, hm, hn, h1, h2, hc => by
    have b := hG.1.pg
    rw [lp_succ]
    have eb : ∀ go : Int × Int → Option (Int ⊕ Unit), lb_FP_emptiest_4 0 a S go c v = bnS (lo_FP_emptiest_11 0 a v S FU (c, 1)) (fun p10 => some (.inl p10)) fun p8 => go (p8, v - 1) := fun go => by
      unfold lb_FP_emptiest_4
      rw [if_neg (by omega : ¬ v < 0)]
      simp only [nm_x, wr_s (z := v + (-1)) (by omega) (by omega)]
      rfl
    have eb2 : lb_FP_emptiest_4 0 a S (lp (fun go p0 => lb_FP_emptiest_4 0 a S go p0.1 p0.2) n) (c, v).1 (c, v).2 = _ := eb _
    rw [eb2]
    rcases em_in h hG (a := a) (v := v) ⟨by omega, h2⟩ (pgs W + 1 - 1).toNat FU 1 c rfl (FU_lt (by omega)) (Int.le_refl _) (by omega) hc with ⟨x, x1, x2, x3, x4⟩ | ⟨q1, q2⟩
    · have e : lo_FP_emptiest_11 0 a v S FU (c, 1) = some (.inl x) := x4
      rw [e, bnS_l]
      exact .inl ⟨x, x1, x2, x3, rfl⟩
    · have e : lo_FP_emptiest_11 0 a v S FU (c, 1) = some (.inr (ecP W ((4 - v) * 100 + pgs W + 1))) := q1
      rw [e, bnS_r]
      have ec : ecP W ((4 - v) * 100 + pgs W + 1) = ecP W ((4 - (v - 1)) * 100 + 1) := ec_gap hG (fun y y1 y2 => by
        have yb := ek_lf hG y1 y2
        unfold ekP; omega)
      rcases em_out h hG m n (v - 1) (ecP W ((4 - v) * 100 + pgs W + 1)) (by omega) (by omega) (by omega) (by omega) ec with q | ⟨r1, r2⟩
      · exact .inl q
      · refine .inr ⟨r1, fun x x1 x2 x3 => ?_⟩
        by_cases z : lf W x = v
        · exact q2 x z x1 x2
        · exact r2 x x1 x2 (by omega)
def emN (W : Vw) (a : Int) : Int := fstR (fun x => decide (ecP W (ekP W x) = a)) 1 (pgs W + 1 - 1).toNat
theorem em_class (h : PT S 5 W) (hG : Good W) {a : Int} : fn_FP_emptiest 0 a S = some (emN W a) := by
  have b := hG.1.pg
  have e0 : (0 : Int) = ecP W ((4 - 4) * 100 + 1) := by
    refine (sumR_0 (fun j j1 j2 => ?_)).symm
    show (if true = true ∧ ekP W j < (4 - 4) * 100 + 1 then (1 : Int) else 0) = 0
    have yb := ek_lf hG j1 (by omega)
    rw [if_neg (fun q => by have := q.2; unfold ekP at this; omega)]
  have sp := fstR_spec (p := fun x => decide (ecP W (ekP W x) = a)) (n := (pgs W + 1 - 1).toNat) (i := 1) (by decide)
  unfold fn_FP_emptiest
  rcases em_out h hG (a := a) ((4 : Int) + 1).toNat FU 4 0 rfl (FU_lt (by decide)) (by decide) (by decide) e0 with ⟨x, x1, x2, x3, x4⟩ | ⟨q1, q2⟩
  · have e : lo_FP_emptiest_4 0 a S FU (0, 4) = some (.inl x) := x4
    rw [e, bnS_l]
    congr 1
    unfold emN
    rcases sp with ⟨_, s2⟩ | ⟨s1, s2, s3, _⟩
    · have := s2 x x1 (by omega)
      exact absurd x3 (of_decide_eq_false this)
    · exact ec_inj hG ⟨x1, x2⟩ ⟨s1, by omega⟩ (by rw [x3, of_decide_eq_true s3])
  · have e : lo_FP_emptiest_4 0 a S FU (0, 4) = some (.inr ()) := q1
    rw [e, bnS_r]
    congr 1
    unfold emN
    rcases sp with ⟨s1, _⟩ | ⟨s1, s2, s3, _⟩
    · exact s1.symm
    · exact absurd (of_decide_eq_true s3) (q2 _ s1 (by omega) (ek_lf hG s1 (by omega)).2)
end Emptiest

