/-! OTHER CHANGES: stories laid -/
section Oth2
variable {S : St} {L : List PC} {P : PA} {W : Vw} {n : Int} {hs : Int → Vw}
theorem fstR_c {p : Int → Bool} {q : Int} {m : Nat} : fstR p q (m + 1) = if p q = true then q else fstR p (q + 1) m := rfl
theorem fstR_ge {p : Int → Bool} : ∀ {m : Nat} {q : Int}, fstR p q m = -1 ∨ q ≤ fstR p q m
  | 0, _ => .inl rfl
  | m + 1, q => by
    rw [fstR_c]
    split
    · exact .inr (Int.le_refl _)
    · rcases fstR_ge (p := p) (m := m) (q := q + 1) with e | e
      · exact .inl e
      · exact .inr (by omega)
theorem up_sm2 {W : Vw} {k : Nat} {s z : Int} (h : at_ W k s = z) : up W k s.toNat z = W := by
  funext k' j
  unfold up
  by_cases d : k' = k ∧ j = s.toNat
  · rw [if_pos d, d.1, d.2]
    exact h.symm
  · rw [if_neg d]
/-- the first page for a story -/
theorem l_o465 {a8 a9 s : Int} {c10 x : Nat} (hs : 0 ≤ s) : ∀ (m N : Nat) (p : Int) (U : Vw) (K : List PC), HP K P U → Val U → s < nS U → (xS P)[s.toNat]? = some x → p + m = pgs U + 1 → 1 ≤ p → m < N → at_ U 11 s = 0 →
    ∃ K', lp (fun go q => lb2_Law_others_465 (pT P) a8 a9 c10 x go q.1 q.2.1 q.2.2) N (p, (S, K)) = some ((S, K'), 0, 0) ∧ HP K' P (if fstR (fun q => decide (layR U s q = 0)) p m = -1 then U else up U 11 s.toNat (fstR (fun q => decide (layR U s q = 0)) p m)) ∧ Sf (fpP P) K K' ∧ K'.length = K.length
  | 0, N + 1, p, U, K, h, hV, hsn, hx, hp, h1, _, h0 => by
    refine ⟨K, ?_, h, Sf.refl, rfl⟩
    rw [lp_succ]
    show lb2_Law_others_465 (pT P) a8 a9 c10 x _ p S K = _
    unfold lb2_Law_others_465
    rw [if_pos h.k, l_pages h hV, bnO_s, if_pos (by omega)]
  | m + 1, N + 1, p, U, K, h, hV, hsn, hx, hp, h1, hN, h0 => by
    have bp := hV.pg
    have sf := st_f hV ⟨hs, hsn⟩ (h.1.2.2.2.1 _ _ hx)
    have hip : inR p := by unfold inR; omega
    have i1 : wr (p + 1) = p + 1 := wr_s (by omega) (by omega)
    have er := l_storyReason (S := S) h hV ⟨hs, hsn⟩ hx hip
    by_cases c : layR U s p = 0
    · obtain ⟨K1, e1, w1⟩ := pf_s (h.1.2.2.2.1 _ _ hx) (f := 5) (Nat.le_of_ble_eq_true rfl) (V p)
      have h2 := h.updS hx w1
      have hun : ∀ gg : Int × LZ → Option ((LZ) × Nat × Nat), lb2_Law_others_465 (pT P) a8 a9 c10 x gg p S K = adC 0 0 (gg (p + 1, (S, K1))) := fun gg => by
        unfold lb2_Law_others_465
        rw [if_pos h.k, l_pages h hV, bnO_s, if_neg (by omega), sf.2.2.2.2.2.2.1, bnO_s, if_pos h0, if_pos h.k, er, bnO_s]
        dsimp only
        rw [if_pos c, e1, bnO_s, nm_x, i1]
      have ef : fstR (fun q => decide (layR U s q = 0)) p (m + 1) = p := by rw [fstR_c, if_pos (decide_eq_true c)]
      rw [ef, if_neg (by omega : ¬ p = -1)]
      refine ⟨K1, ?_, h2, Sf.refl.w w1 (.inl (fp_S hx)), w1.1⟩
      rw [lp_succ]
      show lb2_Law_others_465 (pT P) a8 a9 c10 x _ p S K = _
      rw [hun]
      obtain ⟨N', rfl⟩ : ∃ N', N = N' + 1 := ⟨N - 1, by omega⟩
      rw [lp_succ]
      show adC 0 0 (lb2_Law_others_465 (pT P) a8 a9 c10 x _ (p + 1) S K1) = _
      have q5 : gfI K1 x 11 5 = some p := gfI_s w1.at (f := 5) rfl hip
      have pg2 : gn_LP_pages (pT P) S K1 = some (pgs U) := by
        unfold gn_LP_pages
        rw [h2.1.1 |> fun q => gfI_s q (f := 0) rfl (by rw [sg_up (by decide)]; exact (val_in hV).1.1), bnO_s, h2.1.1 |> fun q => gfI_s q (f := 1) rfl (by rw [pe_up (by decide)]; exact (val_in hV).1.2.1), bnO_s, nm_x, sg_up (by decide), pe_up (by decide)]
        exact congrArg some (wr_s (by unfold pgs at bp; omega) (by unfold pgs at bp; omega))
      unfold lb2_Law_others_465
      rw [if_pos h2.k, pg2, bnO_s]
      by_cases d : pgs U < p + 1
      · rw [if_pos d]; rfl
      · rw [if_neg d, q5, bnO_s, if_neg (by omega : ¬ p = 0)]; rfl
    · obtain ⟨K1, e1, w1⟩ := pf_s (h.1.2.2.2.1 _ _ hx) (f := 5) (Nat.le_of_ble_eq_true rfl) (V 0)
      have h2 := h.updS hx w1
      rw [up_sm2 h0] at h2
      have hun : ∀ gg : Int × LZ → Option ((LZ) × Nat × Nat), lb2_Law_others_465 (pT P) a8 a9 c10 x gg p S K = adC 0 0 (gg (p + 1, (S, K1))) := fun gg => by
        unfold lb2_Law_others_465
        rw [if_pos h.k, l_pages h hV, bnO_s, if_neg (by omega), sf.2.2.2.2.2.2.1, bnO_s, if_pos h0, if_pos h.k, er, bnO_s]
        dsimp only
        rw [if_neg c, e1, bnO_s, nm_x, i1]
      obtain ⟨K', e2, h3, s3, l3⟩ := l_o465 (a8 := a8) (a9 := a9) (c10 := c10) hs m N (p + 1) U K1 h2 hV hsn hx (by omega) (by omega) (by omega) h0
      have ef : fstR (fun q => decide (layR U s q = 0)) p (m + 1) = fstR (fun q => decide (layR U s q = 0)) (p + 1) m := by rw [fstR_c, if_neg (by rw [decide_eq_true_eq]; exact c)]
      rw [ef]
      refine ⟨K', ?_, h3, (Sf.refl.w w1 (.inl (fp_S hx))).trans s3, by rw [l3, w1.1]⟩
      rw [lp_succ]
      show lb2_Law_others_465 (pT P) a8 a9 c10 x _ p S K = _
      rw [hun, e2]
      rfl
theorem lsI_n {y : Int} {m i : Nat} {x : Int × Vw} : itR (lsS y) (i : Int) (m + 1) x = itR (lsS y) ((i + 1 : Nat) : Int) m (lsS y (i : Int) x) := by
  rw [show ((i + 1 : Nat) : Int) = (i : Int) + 1 by omega]
  rfl
/-- the stories of a size, one after another -/
theorem l_o419 {y : Int} {it : Nat} : ∀ (m N i : Nat) (z : Int × Vw) (K : List PC), HP K P z.2 → Good z.2 → (i : Int) + m = nS z.2 → m < N → ItH K it (pS P).1 (pS P).2.2.1 i → Sf (fpP P) L K → nCell + L.length ≤ it → (∀ b, fpP P b → b < XB → b < nCell + L.length) → 0 ≤ z.1 ∧ z.1 ≤ 10000 - m →
    ∃ K', lp (fun go q => lb2_Law_others_419 (pT P) y it go q.1 q.2.1 q.2.2) N (z.1, (S, K)) = some (((itR (lsS y) i m z).1, (S, K')), 0, 0) ∧ HP K' P (itR (lsS y) i m z).2 ∧ Sf (fpP P) L K' ∧ K'.length = K.length
  | 0, N + 1, i, z, K, h, hG, hi, _, hit, hs, b1, b2, hz => by
    have e : ((xS P).length : Int) = nS z.2 := h.2.1.2.1
    have q := k_hasNext (S := S) h.lS hit ⟨by omega, by show (i : Int) ≤ (xS P).length; omega⟩
    rw [decide_eq_false (by show ¬ (i : Int) < (xS P).length; omega)] at q
    refine ⟨K, ?_, h, hs, rfl⟩
    rw [lp_succ]
    show lb2_Law_others_419 (pT P) y it _ z.1 S K = _
    unfold lb2_Law_others_419
    rw [if_pos hit.k, q, bnO_s, if_neg Bool.false_ne_true]
    rfl
  | m + 1, N + 1, i, z, K, h, hG, hi, hN, hit, hs, b1, b2, hz => by
    have hV := hG.1
    have bz := hV.z
    have bp := hV.pg
    have e : ((xS P).length : Int) = nS z.2 := h.2.1.2.1
    have hi2 : 0 ≤ (i : Int) ∧ (i : Int) < nS z.2 := by omega
    obtain ⟨x, hx, hg, hxc⟩ := h.st hi2
    have q := k_hasNext (S := S) h.lS hit ⟨by omega, by show (i : Int) ≤ (xS P).length; omega⟩
    rw [decide_eq_true (by show (i : Int) < (xS P).length; omega)] at q
    obtain ⟨K1, e1, w1⟩ := k_next (S := S) h.lS hit (by omega) hx
    obtain ⟨l0, hl0, hlc⟩ := hit.hp_
    have itX := (hp_bd hl0).2.1
    have s1 : Sf (fpP P) L K1 := hs.w w1 (.inr b1)
    have h1 : HP K1 P z.2 := h.sf (F := fun b => b = it) (Sf.refl.w w1 (.inl rfl)) (fun b hb e => by have e : b = it := e; have := b2 b hb (by omega); omega)
    have sf := st_f hV hi2 (h1.1.2.2.2.1 _ _ hx)
    have v := hV.2.2.1 i hi2.1 hi2.2
    -- the step
    have st : ∃ K2, HP K2 P (lsS y i z).2 ∧ Sf (fpP P) K1 K2 ∧ K2.length = K1.length ∧ ∀ gg : Int × LZ → Option ((Int × LZ) × Nat × Nat), lb2_Law_others_419 (pT P) y it gg z.1 S K = adC 0 0 (gg ((lsS y i z).1, (S, K2))) := by
      have d0 : ∀ o : Option ((Int × LZ) × Nat × Nat), adC 0 0 o = o := fun o => by
        cases o with
        | none => rfl
        | some w => rfl
      unfold lsS
      by_cases c1 : at_ z.2 7 i = y
      · by_cases c2 : at_ z.2 11 i = 0
        · obtain ⟨K2, e2, h2, s2, l2⟩ := l_o465 (S := S) (a8 := z.1) (a9 := y) (c10 := it) (x := x) hi2.1 (pgs z.2).toNat FU 1 z.2 K1 h1 hV hi2.2 hx (by omega) (Int.le_refl _) (FU_big (by omega)) c2
          have h2 : HP K2 P (if fsL z.2 i = -1 then z.2 else up z.2 11 (i : Int).toNat (fsL z.2 i)) := h2
          have e2 : lo2_Law_others_465 (pT P) z.1 y it x FU (1, (S, K1)) = some ((S, K2), 0, 0) := e2
          have fs := fsL_spec (W := z.2) (s := i) hV
          by_cases c3 : fsL z.2 i = -1
          · rw [if_pos c3] at h2
            rw [if_neg (fun w => w.2.2 c3)]
            refine ⟨K2, h2, s2, l2, fun gg => ?_⟩
            have f5 := (st_f hV hi2 (h2.1.2.2.2.1 _ _ hx)).2.2.2.2.2.2.1
            unfold lb2_Law_others_419
            rw [if_pos hit.k, q, bnO_s, if_pos rfl, if_pos hit.k, e1, bnO_s]
            dsimp only
            rw [rfB_r, if_pos sf.1, sf.2.1, bnO_s, if_pos c1, sf.2.2.2.2.2.2.1, bnO_s, if_pos (by omega), e2, bnO_s]
            dsimp only
            rw [f5, bnO_s, if_pos (by omega), nm_x, Int.add_zero, wr_s (z := z.1) (by omega) (by omega), d0, d0]
          · have hb : 1 ≤ fsL z.2 i ∧ fsL z.2 i ≤ pgs z.2 := by rcases fs with w | w <;> omega
            rw [if_neg c3] at h2
            rw [if_pos ⟨c1, c2, c3⟩]
            refine ⟨K2, h2, s2, l2, fun gg => ?_⟩
            have f5 : gfI K2 x 11 5 = some (fsL z.2 i) := by
              refine gfI_s (h2.1.2.2.2.1 _ _ hx) (f := 5) ?_ (by unfold inR; omega)
              show some (V (up z.2 11 (i : Int).toNat (fsL z.2 i) 11 (i : Int).toNat)) = _
              unfold up
              rw [if_pos ⟨rfl, rfl⟩]
            unfold lb2_Law_others_419
            rw [if_pos hit.k, q, bnO_s, if_pos rfl, if_pos hit.k, e1, bnO_s]
            dsimp only
            rw [rfB_r, if_pos sf.1, sf.2.1, bnO_s, if_pos c1, sf.2.2.2.2.2.2.1, bnO_s, if_pos (by omega), e2, bnO_s]
            dsimp only
            rw [f5, bnO_s, if_neg (by omega), nm_x, wr_s (z := z.1 + 1) (by omega) (by omega), d0, d0]
        · rw [if_neg (fun w => c2 w.2.1)]
          refine ⟨K1, h1, Sf.refl, rfl, fun gg => ?_⟩
          unfold lb2_Law_others_419
          rw [if_pos hit.k, q, bnO_s, if_pos rfl, if_pos hit.k, e1, bnO_s]
          dsimp only
          rw [rfB_r, if_pos sf.1, sf.2.1, bnO_s, if_pos c1, sf.2.2.2.2.2.2.1, bnO_s, if_neg (by omega)]
      · rw [if_neg (fun w => c1 w.1)]
        refine ⟨K1, h1, Sf.refl, rfl, fun gg => ?_⟩
        unfold lb2_Law_others_419
        rw [if_pos hit.k, q, bnO_s, if_pos rfl, if_pos hit.k, e1, bnO_s]
        dsimp only
        rw [rfB_r, if_pos sf.1, sf.2.1, bnO_s, if_neg c1]
    obtain ⟨K2, h2, s2, l2, hun⟩ := st
    have ii := lsS_i (y := y) (s := i) (x := z) hG hi2
    have i2 : ItH K2 it (pS P).1 (pS P).2.2.1 ((i + 1 : Nat) : Int) := by
      refine ⟨V (i : Int), ?_⟩
      rw [s2.2 it (by have := hp_lt w1.at; omega) (fun w => by have := b2 it w itX; omega), w1.at]
      rfl
    obtain ⟨K', e3, h3, s3, l3⟩ := l_o419 (y := y) m N (i + 1) (lsS y i z) K2 h2 ii.1 (by rw [ii.2.1.2.1]; omega) (by omega) i2 (s1.trans s2) b1 b2 (by omega)
    refine ⟨K', ?_, by rw [lsI_n]; exact h3, s3, by rw [l3, l2, w1.1]⟩
    rw [lp_succ, lsI_n]
    show lb2_Law_others_419 (pT P) y it _ z.1 S K = _
    rw [hun, e3]
    rfl
end Oth2
