/-! closing of forms: which, and in what order -/
section Close4
variable {W V : Vw} {S T0 T : St} {a f p i z s y n c0 c : Int} {hs : Int → Vw}
theorem itR_fix {σ : Type} {F : Int → σ → σ} {s : σ} : ∀ {n : Nat} {i : Int}, (∀ j, i ≤ j → j < i + n → F j s = s) → itR F i n s = s
  | 0, i, _ => rfl
  | n + 1, i, h => by
    show itR F (i + 1) n (F i s) = s
    rw [h i (Int.le_refl _) (by omega)]
    exact itR_fix (fun j j1 j2 => h j (by omega) (by omega))
theorem nxt_spec : (nxt W = -1 ∧ ∀ f, 0 ≤ f → f < frm W → at_ W 15 f = 0 → at_ W 16 f = -1) ∨ ((0 ≤ nxt W ∧ nxt W < frm W) ∧ at_ W 15 (nxt W) = 0 ∧ at_ W 16 (nxt W) ≠ -1 ∧ ∀ f, 0 ≤ f → f < frm W → at_ W 15 f = 0 → at_ W 16 f ≠ -1 → at_ W 16 (nxt W) ≤ at_ W 16 f ∧ (f < nxt W → at_ W 16 (nxt W) < at_ W 16 f)) := by
  have q := itR_inv (f := nxS W) (n := (frm W).toNat) (i := 0) (s := -1) (I := fun j s => (s = -1 ∧ ∀ f, 0 ≤ f → f < j → at_ W 15 f = 0 → at_ W 16 f = -1) ∨ ((0 ≤ s ∧ s < j) ∧ at_ W 15 s = 0 ∧ at_ W 16 s ≠ -1 ∧ ∀ f, 0 ≤ f → f < j → at_ W 15 f = 0 → at_ W 16 f ≠ -1 → at_ W 16 s ≤ at_ W 16 f ∧ (f < s → at_ W 16 s < at_ W 16 f))) (fun j s j1 j2 h => by
    show (nxS W j s = -1 ∧ _) ∨ _
    by_cases c1 : at_ W 15 j = 0
    · by_cases c2 : at_ W 16 j = -1
      · have e : nxS W j s = s := by unfold nxS; rw [if_pos c1, if_pos c2]
        rw [e]
        rcases h with ⟨h1, h2⟩ | ⟨h1, h2, h3, h4⟩
        · refine .inl ⟨h1, fun f f1 f2 f3 => ?_⟩
          by_cases z : f = j
          · rw [z]; exact c2
          · exact h2 f f1 (by omega) f3
        · refine .inr ⟨by omega, h2, h3, fun f f1 f2 f3 f4 => ?_⟩
          by_cases z : f = j
          · rw [z] at f4; exact absurd c2 f4
          · exact h4 f f1 (by omega) f3 f4
      · by_cases c3 : s = -1
        · have e : nxS W j s = j := by unfold nxS; rw [if_pos c1, if_neg c2, if_pos c3]
          rw [e]
          rcases h with ⟨h1, h2⟩ | ⟨h1, -⟩
          · refine .inr ⟨by omega, c1, c2, fun f f1 f2 f3 f4 => ?_⟩
            by_cases z : f = j
            · rw [z]; exact ⟨Int.le_refl _, fun w => by omega⟩
            · exact absurd (h2 f f1 (by omega) f3) f4
          · omega
        · rcases h with ⟨h1, -⟩ | ⟨h1, h2, h3, h4⟩
          · exact absurd h1 c3
          · by_cases c4 : at_ W 16 s ≤ at_ W 16 j
            · have e : nxS W j s = s := by unfold nxS; rw [if_pos c1, if_neg c2, if_neg c3, if_pos c4]
              rw [e]
              refine .inr ⟨by omega, h2, h3, fun f f1 f2 f3 f4 => ?_⟩
              by_cases z : f = j
              · rw [z]; exact ⟨c4, fun w => by omega⟩
              · exact h4 f f1 (by omega) f3 f4
            · have e : nxS W j s = j := by unfold nxS; rw [if_pos c1, if_neg c2, if_neg c3, if_neg c4]
              rw [e]
              refine .inr ⟨by omega, c1, c2, fun f f1 f2 f3 f4 => ?_⟩
              by_cases z : f = j
              · rw [z]; exact ⟨Int.le_refl _, fun w => by omega⟩
              · have := h4 f f1 (by omega) f3 f4
                omega
    · have e : nxS W j s = s := by unfold nxS; rw [if_neg c1]
      rw [e]
      rcases h with ⟨h1, h2⟩ | ⟨h1, h2, h3, h4⟩
      · refine .inl ⟨h1, fun f f1 f2 f3 => ?_⟩
        by_cases z : f = j
        · rw [z] at f3; exact absurd f3 c1
        · exact h2 f f1 (by omega) f3
      · refine .inr ⟨by omega, h2, h3, fun f f1 f2 f3 f4 => ?_⟩
        by_cases z : f = j
        · rw [z] at f3; exact absurd f3 c1
        · exact h4 f f1 (by omega) f3 f4) (.inl ⟨rfl, fun f f1 f2 => by omega⟩)
  have e : (0 : Int) + ((frm W).toNat : Int) = 0 + ((frm W).toNat : Int) := rfl
  rcases q with ⟨h1, h2⟩ | ⟨h1, h2, h3, h4⟩
  · exact .inl ⟨h1, fun f f1 f2 f3 => h2 f f1 (by omega) f3⟩
  · refine .inr ⟨⟨h1.1, ?_⟩, h2, h3, fun f f1 f2 f3 f4 => h4 f f1 (by omega) f3 f4⟩
    have h12 : nxt W < 0 + ((frm W).toNat : Int) := h1.2
    have h11 : 0 ≤ nxt W := h1.1
    omega
def hrS (c0 f : Int) (s : Int × Vw) : Int × Vw := if at_ s.2 15 f = 0 ∧ at_ s.2 16 f = c0 then (s.1 + 1, clW f s.2) else s
theorem frm_clW : frm (clW f W) = frm W := by unfold frm; rw [clW_n.1.2.2.2.1]
theorem hr_inv (hG : G3 V) {m : Nat} (hm : (m : Int) ≤ frm V) : G3 (itR (hrS c0) 0 m (c, V)).2 ∧ N5 V (itR (hrS c0) 0 m (c, V)).2 ∧ tm (itR (hrS c0) 0 m (c, V)).2 = tm V ∧ (c ≤ (itR (hrS c0) 0 m (c, V)).1 ∧ (itR (hrS c0) 0 m (c, V)).1 ≤ c + m) ∧ ∀ f, 0 ≤ f → f < frm V → at_ (itR (hrS c0) 0 m (c, V)).2 15 f = 0 → at_ V 15 f = 0 ∧ at_ (itR (hrS c0) 0 m (c, V)).2 16 f = at_ V 16 f ∧ (f < m → at_ V 16 f ≠ c0) := by
  have q := itR_inv (f := hrS c0) (n := m) (i := 0) (s := (c, V)) (I := fun j s => G3 s.2 ∧ N5 V s.2 ∧ tm s.2 = tm V ∧ (c ≤ s.1 ∧ s.1 ≤ c + j) ∧ ∀ f, 0 ≤ f → f < frm V → at_ s.2 15 f = 0 → at_ V 15 f = 0 ∧ at_ s.2 16 f = at_ V 16 f ∧ (f < j → at_ V 16 f ≠ c0)) (fun j s j1 j2 h => by
    obtain ⟨h1, h2, h3, h4, h5⟩ := h
    have jf : j < frm s.2 := by unfold frm; rw [h2.2.2.2.1]; unfold frm at hm; omega
    by_cases d : at_ s.2 15 j = 0 ∧ at_ s.2 16 j = c0
    · have e : hrS c0 j s = (s.1 + 1, clW j s.2) := by unfold hrS; rw [if_pos d]
      rw [e]
      refine ⟨G3_clW h1 ⟨j1, jf⟩, h2.tr clW_n.1, clW_n.2.trans h3, ⟨by show c ≤ s.1 + 1; omega, by show s.1 + 1 ≤ c + (j + 1); omega⟩, fun f f1 f2 f3 => ?_⟩
      have f3' : at_ (clW j s.2) 15 f = 0 := f3
      rw [clW_15 j1 f1] at f3'
      have nf : f ≠ j := fun z => by rw [if_pos z] at f3'; omega
      rw [if_neg nf] at f3'
      obtain ⟨g1, g2, g3⟩ := h5 f f1 f2 f3'
      refine ⟨g1, ?_, fun w => g3 (by omega)⟩
      show at_ (clW j s.2) 16 f = _
      rw [clW_at (by decide) (by decide) (by decide) (by decide) (by decide)]
      exact g2
    · have e : hrS c0 j s = s := by unfold hrS; rw [if_neg d]
      rw [e]
      refine ⟨h1, h2, h3, by omega, fun f f1 f2 f3 => ?_⟩
      obtain ⟨g1, g2, g3⟩ := h5 f f1 f2 f3
      refine ⟨g1, g2, fun w => ?_⟩
      by_cases z : f = j
      · rw [z] at f3 g2 ⊢
        intro e'
        exact d ⟨f3, by rw [g2]; exact e'⟩
      · exact g3 (by omega)) ⟨hG, ⟨rfl, rfl, rfl, rfl, rfl⟩, rfl, ⟨Int.le_refl _, by omega⟩, fun f f1 f2 f3 => ⟨f3, rfl, fun w => by omega⟩⟩
  rw [Int.zero_add] at q
  exact q
theorem cd_loop : ∀ (m : Nat) (i c a2 : Int) (V : Vw) (S : St) (n : Nat), frm V - i ≤ m → 0 ≤ i → i ≤ frm V → 0 ≤ a2 → a2 ≤ i → 0 ≤ c → c ≤ i → m < n → PT S 5 V → G3 V → 1 ≤ c0 → c0 ≤ tm V → (∀ f, 0 ≤ f → f < frm V → at_ V 15 f = 0 → at_ V 16 f = -1 ∨ at_ V 16 f = c0 ∨ tm V < at_ V 16 f) → (∀ f, 0 ≤ f → f < i → at_ V 15 f = 0 → at_ V 16 f ≠ c0) →
    ∃ S', (lp (fun go p0 => lb_Plan_closeDueForms_4 5 go p0.1 p0.2.1 p0.2.2) n (c, a2, S) = some (.inl ((itR (hrS c0) i (frm V - i).toNat (c, V)).1, S')) ∨ lp (fun go p0 => lb_Plan_closeDueForms_4 5 go p0.1 p0.2.1 p0.2.2) n (c, a2, S) = some (.inr ((itR (hrS c0) i (frm V - i).toNat (c, V)).1, S'))) ∧ Off S S' 6 33 ∧ PT S' 5 (itR (hrS c0) i (frm V - i).toNat (c, V)).2
  | m, i, c, a2, V, S, n + 1, h1, h2, h3, h4, h5, h6, h7, h8, hP, hG, h9, h10, hD, hN => by
    have fb := frm_b hP.v
    have body : ∀ go, lb_Plan_closeDueForms_4 5 go c a2 S = if frm V ≤ a2 then some (.inr (c, S)) else if nxt V = -1 then some (.inl (c, S)) else lb_Plan_closeDueForms_4 5 go c a2 S := fun go => by
      by_cases z : frm V ≤ a2
      · rw [if_pos z]
        unfold lb_Plan_closeDueForms_4
        rw [hP.pl.gf, if_pos z]
      · rw [if_neg z]
        by_cases z2 : nxt V = -1
        · rw [if_pos z2]
          unfold lb_Plan_closeDueForms_4
          rw [hP.pl.gf, if_neg z, P_soonest hP.pl, bnO_s, if_pos z2]
        · rw [if_neg z2]
    -- nothing is due
    have none : (∀ f, i ≤ f → f < frm V → ¬ (at_ V 15 f = 0 ∧ at_ V 16 f = c0)) → itR (hrS c0) i (frm V - i).toNat (c, V) = (c, V) := fun hh => itR_fix (fun j j1 j2 => by
      unfold hrS
      rw [if_neg (hh j j1 (by omega))])
    rw [lp_succ]
    have e0 : lb_Plan_closeDueForms_4 5 (lp (fun go p0 => lb_Plan_closeDueForms_4 5 go p0.1 p0.2.1 p0.2.2) n) (c, a2, S).1 (c, a2, S).2.1 (c, a2, S).2.2 = lb_Plan_closeDueForms_4 5 (lp (fun go p0 => lb_Plan_closeDueForms_4 5 go p0.1 p0.2.1 p0.2.2) n) c a2 S := rfl
    rw [e0]
    by_cases cz : frm V ≤ a2
    · rw [none (fun f f1 f2 => by omega)]
      exact ⟨S, .inr (by rw [body, if_pos cz]), Off.refl, hP⟩
    rcases nxt_spec (W := V) with ⟨q1, q2⟩ | ⟨q1, q2, q3, q4⟩
    · rw [none (fun f f1 f2 z => by
        have := q2 f (by omega) f2 z.1
        omega)]
      exact ⟨S, .inl (by rw [body, if_neg cz, if_pos q1]), Off.refl, hP⟩
    · obtain ⟨f, hf⟩ : ∃ f, f = nxt V := ⟨_, rfl⟩
      rw [← hf] at q1 q2 q3 q4
      have cl := hP.pl.cl0 (a := f) q1
      have ec : g S 27 f.toNat = at_ V 16 f := by
        rcases cl with w | w
        · exact absurd w.2 q3
        · exact w.1
      have etm : g S 6 6 = tm V := hP.pl.mtm
      rcases hD f q1.1 q1.2 q2 with w | w | w
      · exact absurd w q3
      · -- f is due
        have fi : i ≤ f := by
          by_cases z : i ≤ f
          · exact z
          · exact absurd w (hN f q1.1 (by omega) q2)
        obtain ⟨S1, e1, o1, t1⟩ := P_close hP.pl hG q1
        have sk : itR (hrS c0) i (f - i).toNat (c, V) = (c, V) := itR_fix (fun j j1 j2 => by
          unfold hrS
          rw [if_neg (fun z => ?_)]
          have z1 : at_ V 15 j = 0 := z.1
          have z2 : at_ V 16 j = c0 := z.2
          have := (q4 j (by omega) (by omega) z1 (by omega)).2 (by omega)
          omega)
        have sp : itR (hrS c0) i (frm V - i).toNat (c, V) = itR (hrS c0) (f + 1) (frm (clW f V) - (f + 1)).toNat (c + 1, clW f V) := by
          rw [frm_clW, show (frm V - i).toNat = (f - i).toNat + ((frm V - (f + 1)).toNat + 1) by omega, itR_add, sk, show i + ((f - i).toNat : Int) = f by omega]
          show itR (hrS c0) (f + 1) _ (hrS c0 f (c, V)) = _
          have : hrS c0 f (c, V) = (c + 1, clW f V) := by unfold hrS; rw [if_pos ⟨q2, w⟩]
          rw [this]
        obtain ⟨m', rfl⟩ : ∃ m', m = m' + 1 := ⟨m - 1, by omega⟩
        obtain ⟨S', r, o, t⟩ := cd_loop m' (f + 1) (c + 1) (a2 + 1) (clW f V) S1 n (by rw [frm_clW]; omega) (by omega) (by rw [frm_clW]; omega) (by omega) (by omega) (by omega) (by omega) (by omega) t1 (G3_clW hG q1) h9 (by rw [clW_n.2]; exact h10)
          (fun x x1 x2 x3 => by
            rw [frm_clW] at x2
            rw [clW_15 q1.1 x1] at x3
            have nf : x ≠ f := fun z => by rw [if_pos z] at x3; omega
            rw [if_neg nf] at x3
            rw [clW_at (by decide) (by decide) (by decide) (by decide) (by decide), clW_n.2]
            exact hD x x1 x2 x3)
          (fun x x1 x2 x3 => by
            rw [clW_15 q1.1 x1] at x3
            have nf : x ≠ f := fun z => by rw [if_pos z] at x3; omega
            rw [if_neg nf] at x3
            rw [clW_at (by decide) (by decide) (by decide) (by decide) (by decide)]
            by_cases xi : x < i
            · exact hN x x1 xi x3
            · intro z
              have := (q4 x x1 (by omega) x3 (by omega)).2 (by omega)
              omega)
        rw [← sp] at r t
        refine ⟨S', ?_, o1.trans o, t⟩
        have bd : ∀ go, lb_Plan_closeDueForms_4 5 go c a2 S = go (c + 1, a2 + 1, S1) := fun go => by
          unfold lb_Plan_closeDueForms_4
          rw [hP.pl.gf, if_neg cz, P_soonest hP.pl, bnO_s, ← hf, if_neg (by omega : ¬ f = -1), if_pos (by omega : 0 ≤ f ∧ f < 8), tg_5_0, tg_6_3, tg_24_2, ec, etm, if_pos (by omega), e1, bnO_s, nm_x, nm_x, wr_s (z := c + 1) (by omega) (by omega), wr_s (z := a2 + 1) (by omega) (by omega)]
        rw [bd]
        exact r
      · rw [none (fun x x1 x2 z => by
          have := (q4 x (by omega) x2 z.1 (by have := z.2; omega)).1
          have z2 := z.2
          omega)]
        refine ⟨S, .inl ?_, Off.refl, hP⟩
        unfold lb_Plan_closeDueForms_4
        rw [hP.pl.gf, if_neg cz, P_soonest hP.pl, bnO_s, ← hf, if_neg (by omega : ¬ f = -1), if_pos (by omega : 0 ≤ f ∧ f < 8), tg_5_0, tg_6_3, tg_24_2, ec, etm, if_neg (by omega)]
theorem P_due (hP : PT S 5 V) (hG : G3 V) (h9 : 1 ≤ c0) (h10 : c0 ≤ tm V) (hD : ∀ f, 0 ≤ f → f < frm V → at_ V 15 f = 0 → at_ V 16 f = -1 ∨ at_ V 16 f = c0 ∨ tm V < at_ V 16 f) : ∃ S', fn_Plan_closeDueForms 5 S = some ((itR (hrS c0) 0 (frm V).toNat (0, V)).1, S') ∧ Off S S' 6 33 ∧ PT S' 5 (itR (hrS c0) 0 (frm V).toNat (0, V)).2 := by
  have fb := frm_b hP.v
  obtain ⟨S', r, o, t⟩ := cd_loop (c0 := c0) 100 0 0 0 V S FU (by omega) (Int.le_refl _) (by omega) (Int.le_refl _) (Int.le_refl _) (Int.le_refl _) (Int.le_refl _) (FU_lt (by omega)) hP hG h9 h10 hD (fun f f1 f2 => by omega)
  rw [Int.sub_zero] at r t
  refine ⟨S', ?_, o, t⟩
  unfold fn_Plan_closeDueForms
  rcases r with r | r
  · have r' : lo_Plan_closeDueForms_4 5 FU (0, 0, S) = _ := r
    rw [r', bnS_l]
  · have r' : lo_Plan_closeDueForms_4 5 FU (0, 0, S) = _ := r
    rw [r', bnS_r]
theorem P_notDue (hP : PT S 5 V) (hD : ∀ f, 0 ≤ f → f < frm V → at_ V 15 f = 0 → at_ V 16 f = -1 ∨ tm V < at_ V 16 f) : fn_Plan_closeDueForms 5 S = some (0, S) := by
  have fb := frm_b hP.v
  obtain ⟨m, hm⟩ : ∃ m, FU = m + 1 := ⟨FU - 1, by have := FU_lt (m := 1) (by omega); omega⟩
  have r : lo_Plan_closeDueForms_4 5 FU (0, 0, S) = some (.inl (0, S)) := by
    show lp (fun go p0 => lb_Plan_closeDueForms_4 5 go p0.1 p0.2.1 p0.2.2) FU (0, 0, S) = _
    rw [hm, lp_succ]
    show lb_Plan_closeDueForms_4 5 _ 0 0 S = _
    unfold lb_Plan_closeDueForms_4
    rw [hP.pl.gf, if_neg (by omega), P_soonest hP.pl, bnO_s]
    rcases nxt_spec (W := V) with ⟨q1, q2⟩ | ⟨q1, q2, q3, q4⟩
    · rw [if_pos q1]
    · obtain ⟨f, hf⟩ : ∃ f, f = nxt V := ⟨_, rfl⟩
      rw [← hf] at q1 q2 q3 q4 ⊢
      have ec : g S 27 f.toNat = at_ V 16 f := by
        rcases hP.pl.cl0 (a := f) q1 with w | w
        · exact absurd w.2 q3
        · exact w.1
      have etm : g S 6 6 = tm V := hP.pl.mtm
      have w := (hD f q1.1 q1.2 q2).resolve_left q3
      rw [if_neg (by omega : ¬ f = -1), if_pos (by omega : 0 ≤ f ∧ f < 8), tg_5_0, tg_6_3, tg_24_2, ec, etm, if_neg (by omega)]
  unfold fn_Plan_closeDueForms
  rw [r, bnS_l]
end Close4

