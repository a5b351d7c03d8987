/-! THE READER ALONE: statements that add an item -/
section RdSz
variable {B : Int → Int} {L p s q x y e z : Int} {S S' S0 : St} {V V' W : Vw} {M : Prop} {R : St → Prop}
theorem RdZ.size {k : Bool × St → Option (Bool × St)} (hq : RdQ B L q) (h : RdS B L q S0 p S) (hM : M → tkK B L (tkS B L p) = 2 ∧ (vl B L (tkS B L p) = 1 ∨ vl B L (tkS B L p) = 2 ∨ vl B L (tkS B L p) = 4)) (k0 : ∀ S', k (false, S') = some (false, S')) (hs : ∀ S' v, RdN B L q S0 p S 0 1 4 S' v → (v = 1 ∨ v = 2 ∨ v = 4) → RdZ M S0 q R (bnO (some (true, S')) k)) : RdZ M S0 q R (bnO (rSz S) k) := by
  have qb := hq.1
  have L6 := h.1.1.1.1
  unfold rSz
  rw [bnO_as]
  refine RdZ.num (i := 0) hq (by decide) h (fun m => ?_) (fun S' => ?_) (fun S' v hN => ?_)
  · obtain ⟨a1, a2⟩ := hM m
    exact ⟨a1, by omega, by omega⟩
  · show bnO (if false = true then _ else some (false, S')) k = _
    rw [if_neg Bool.false_ne_true, bnO_s]; exact k0 S'
  · rw [bnO_s]
    show RdZ M S0 q R (bnO (if true = true then bnO (fn_FP_isSize (g S' (tgt 61 2) 0) S') _ else _) k)
    rw [if_pos rfl, tg_61_2, hN.cv, F_isSize, bnO_s]
    by_cases c : v = 1 ∨ v = 2 ∨ v = 4
    · rw [if_pos (decide_eq_true c)]
      exact hs S' v hN c
    · rw [if_neg (by rw [decide_eq_true_eq]; exact c), bnO_as]
      have mp := hN.mp
      refine RdZ.fail hN.st.1.2 hN.c5 mp (by omega) (by omega) (fun m => c ?_) (fun S' => ?_)
      · rw [hN.vv]; exact (hM m).2
      · show bnO (if false = true then _ else some (false, S')) k = _
        rw [if_neg Bool.false_ne_true, bnO_s]; exact k0 S'
theorem Rd_standby (hq : RdQ B L q) (h : RdC B L q S0 s S) (hk : tkK B L s = 1) (hd : RdD V S) (hM : M → RdT B L (tkE B L s) [x] e ∧ nB V < 8 ∧ (x = 1 ∨ x = 2 ∨ x = 4)) : RdZ M S0 q (RdF B L q S0 s (fun V' p' => M → V' = nwB V (fSb x) ∧ p' = e)) (fn_Reader_readStandby 61 S) := by
  obtain ⟨st0, le⟩ := h.adv hq (by rw [hk]; decide)
  have b := hd.1.pl.b
  have L6 := h.1.1.1.1
  have qb := hq.1
  have gn : g S 49 2 = nB V := hd.1.pl.mB
  unfold fn_Reader_readStandby
  rw [tg_61_1, tg_33_0, tg_34_2, gn]
  by_cases full : nB V = 8
  · rw [if_neg (by omega)]
    exact RdZ.fail h.1.2 h.2.2.1.1 h.2.1 (by omega) (by omega) (fun m => by have := (hM m).2.1; omega) (fun _ => rfl)
  rw [if_pos (by omega)]
  obtain ⟨N, hN⟩ : ∃ N : Nat, nB V = (N : Int) := ⟨(nB V).toNat, by omega⟩
  rw [rSz_eq]
  rotate_left
  · exact fun _ => rfl
  refine RdZ.size hq st0 (fun m => ?_) (fun _ => rfl) (fun S1 v0 hN0 hsz => ?_)
  · obtain ⟨⟨⟨a1, a2⟩, -⟩, -, a3⟩ := hM m
    exact ⟨a1, by rw [a2]; exact a3⟩
  have d1 : PT S1 33 V := hd.1.off hN0.cf (by omega)
  have hr0 := hN0.rg
  have vb0 := hN0.vb
  have lt0 := hN0.lt
  rw [bnO_s, if_pos rfl]
  have c0 : g S1 62 0 = v0 := by rw [hN0.cv]
  obtain ⟨F, hF⟩ : ∃ F : Nat → Int, F = fSb v0 := ⟨_, rfl⟩
  have f12 : F 12 = v0 := by rw [hF]; rfl
  have f13 : F 13 = 0 := by rw [hF]; rfl
  have en : g S1 49 2 = nB V := d1.pl.mB
  obtain ⟨A1, hA1⟩ : ∃ A1, A1 = u S1 50 (nB V).toNat v0 := ⟨_, rfl⟩
  obtain ⟨A2, hA2⟩ : ∃ A2, A2 = u A1 51 (nB V).toNat 0 := ⟨_, rfl⟩
  obtain ⟨A3, hA3⟩ : ∃ A3, A3 = u A2 49 2 (nB V + 1) := ⟨_, rfl⟩
  have o1 : Off S1 A1 50 52 := by rw [hA1]; exact Off.wt (by omega) (by omega)
  have o2 : Off S1 A2 50 52 := by rw [hA2]; exact o1.tu (by omega) (by omega)
  have o3 : Off S1 A3 49 52 := by rw [hA3]; exact (o2.mono (by omega) (by omega)).tu (by omega) (by omega)
  have eadd : fn_Standbys_add 49 v0 S1 = some A3 := by
    have g1 : g A1 49 2 = nB V := by rw [o1.rd (by omega)]; exact en
    have g2 : g A2 49 2 = nB V := by rw [o2.rd (by omega)]; exact en
    have cc : 0 ≤ nB V ∧ nB V < 8 := by omega
    unfold fn_Standbys_add
    rw [en, if_neg (by omega), if_pos cc, tg_49_0, tg_49_1, nm_x, ← hA1, g1, if_pos cc, nm_x, ← hA2, g2, nm_x, ← hA3]
  have cnt : g A3 49 2 = nB V + 1 := by rw [hA3, g_eq, wr_s (by omega) (by omega)]
  have old : ∀ c f, ¬ (f = N ∧ 50 ≤ c ∧ c < 52) → ¬ (c = 49 ∧ f = 2) → g A3 c f = g S1 c f := fun c f q1 q2 => by
    rw [hA3, g_ne (by omega), hA2, g_ne (by omega), hA1, g_ne (by omega)]
  have NN : (nB V).toNat = N := by omega
  have vv : vC A3 34 = nwB V F := by
    have q := vC_nwB (S := S1) (S' := A3) (s := 34) (N := N) (F := F) (by show g S1 49 2 = _; rw [en, hN]) (by show g A3 49 2 = _; rw [cnt, hN]) (fun k k1 k2 => by
      have kc : k = 12 ∨ k = 13 := by omega
      rcases kc with rfl | rfl
      · show g A3 50 N = _
        rw [hA3, g_ne (by omega), hA2, g_ne (by omega), hA1, NN, g_eq, f12, wr_s (by omega) (by omega)]
      · show g A3 51 N = _
        rw [hA3, g_ne (by omega), hA2, NN, g_eq, f13, wr_0]) (fun k i k1 k2 ki => old _ _ (by omega) (by omega)) (fun c f hc => old c f (by omega) (by omega))
    have v6 : vC S1 34 = V := d1.pl.1.2.1
    rw [v6] at q
    unfold nwB
    rw [hN]
    exact q
  have hG' := Good_nwB (F := F) hd.2.1 (by omega) (by rw [f12]; exact hsz) f13
  obtain ⟨n1, n2, n3, n4, n5, n6⟩ := nwB_n (V := V) (F := F)
  have pt : PT A3 33 (nwB V F) := PT_same d1 vv hG'.1 hG'.2.1 (o3.mono (by omega) (by omega)) n4 n5 (fun q q1 _ => rawR_nwB d1.v f13 q1) (fun q => stOn_nwB d1.v) (fun y s => grp_nwB d1.v)
  have c0' : g ((true, S1) : Bool × St).2 62 0 = v0 := c0
  have eadd' : fn_Standbys_add 49 v0 ((true, S1) : Bool × St).2 = some A3 := eadd
  rw [tg_61_2, c0', eadd', bnO_s, bnO_eta]
  refine RdZ.fin hq (hN0.st.cw (o3.mono (by omega) (by omega))) ⟨pt, hG', by rw [n6]; exact hd.2.2⟩ (by omega) (fun m => (hM m).1.2.1) (fun m => ?_)
  obtain ⟨⟨⟨a1, a2⟩, a3, a4⟩, a5⟩ := hM m
  exact ⟨by rw [hF, hN0.vv, a2], a4⟩
theorem Rd_story {x0 x1 x2 x3 : Int} (hq : RdQ B L q) (h : RdC B L q S0 s S) (hk : tkK B L s = 1) (hd : RdD V S) (hM : M → RdT B L (tkE B L s) [x0, x1, x2, x3] e ∧ nS V < 10 ∧ (1 ≤ x0 ∧ x0 ≤ 8) ∧ (0 ≤ x1 ∧ x1 ≤ 1) ∧ (0 ≤ x2 ∧ x2 ≤ 2) ∧ (0 ≤ x3 ∧ x3 ≤ 9999)) : RdZ M S0 q (RdF B L q S0 s (fun V' p' => M → V' = nwS V (fSt x0 x1 x2 x3) ∧ p' = e)) (fn_Reader_readStory 61 S) := by
  obtain ⟨st0, le⟩ := h.adv hq (by rw [hk]; decide)
  have b := hd.1.pl.b
  have L6 := h.1.1.1.1
  have qb := hq.1
  have gn : g S 43 5 = nS V := hd.1.pl.mS
  unfold fn_Reader_readStory
  rw [tg_61_1, tg_33_0, tg_34_1, gn]
  by_cases full : nS V = 10
  · rw [if_neg (by omega)]
    exact RdZ.fail h.1.2 h.2.2.1.1 h.2.1 (by omega) (by omega) (fun m => by have := (hM m).2.1; omega) (fun _ => rfl)
  rw [if_pos (by omega)]
  obtain ⟨N, hN⟩ : ∃ N : Nat, nS V = (N : Int) := ⟨(nS V).toNat, by omega⟩
  refine RdZ.num (i := 0) hq (by decide) st0 (fun m => ?_) (fun _ => rfl) (fun S1 v0 hN0 => ?_)
  · obtain ⟨⟨⟨a1, a2⟩, -⟩, -, a3, -⟩ := hM m
    exact ⟨a1, by rw [a2]; omega, by rw [a2]; omega⟩
  have d1 : PT S1 33 V := hd.1.off hN0.cf (by omega)
  have hr0 := hN0.rg
  have vb0 := hN0.vb
  have lt0 := hN0.lt
  rw [bnO_s, if_pos rfl]
  refine RdZ.num (i := 1) hq (by decide) hN0.st (fun m => ?_) (fun _ => rfl) (fun S2 v1 hN1 => ?_)
  · obtain ⟨⟨-, ⟨a1, a2⟩, -⟩, -, -, a3, -⟩ := hM m
    exact ⟨a1, by rw [a2]; omega, by rw [a2]; omega⟩
  have d2 : PT S2 33 V := d1.off hN1.cf (by omega)
  have hr1 := hN1.rg
  have vb1 := hN1.vb
  have lt1 := hN1.lt
  rw [bnO_s, if_pos rfl]
  refine RdZ.num (i := 2) hq (by decide) hN1.st (fun m => ?_) (fun _ => rfl) (fun S3 v2 hN2 => ?_)
  · obtain ⟨⟨-, -, ⟨a1, a2⟩, -⟩, -, -, -, a3, -⟩ := hM m
    exact ⟨a1, by rw [a2]; omega, by rw [a2]; omega⟩
  have d3 : PT S3 33 V := d2.off hN2.cf (by omega)
  have hr2 := hN2.rg
  have vb2 := hN2.vb
  have lt2 := hN2.lt
  rw [bnO_s, if_pos rfl]
  refine RdZ.num (i := 3) hq (by decide) hN2.st (fun m => ?_) (fun _ => rfl) (fun S4 v3 hN3 => ?_)
  · obtain ⟨⟨-, -, -, ⟨a1, a2⟩, -⟩, -, -, -, -, a3⟩ := hM m
    exact ⟨a1, by rw [a2]; omega, by rw [a2]; omega⟩
  have d4 : PT S4 33 V := d3.off hN3.cf (by omega)
  have hr3 := hN3.rg
  have vb3 := hN3.vb
  have lt3 := hN3.lt
  rw [bnO_s, if_pos rfl]
  have c0 : g S4 62 0 = v0 := by rw [hN3.co 0 (by decide), hN2.co 0 (by decide), hN1.co 0 (by decide), hN0.cv]
  have c1 : g S4 62 1 = v1 := by rw [hN3.co 1 (by decide), hN2.co 1 (by decide), hN1.cv]
  have c2 : g S4 62 2 = v2 := by rw [hN3.co 2 (by decide), hN2.cv]
  have c3 : g S4 62 3 = v3 := by rw [hN3.cv]
  obtain ⟨F, hF⟩ : ∃ F : Nat → Int, F = fSt v0 v1 v2 v3 := ⟨_, rfl⟩
  have f7 : F 7 = v0 := by rw [hF]; rfl
  have f8 : F 8 = v1 := by rw [hF]; rfl
  have f9 : F 9 = v2 := by rw [hF]; rfl
  have f10 : F 10 = v3 := by rw [hF]; rfl
  have f11 : F 11 = 0 := by rw [hF]; rfl
  have en : g S4 43 5 = nS V := d4.pl.mS
  obtain ⟨A1, hA1⟩ : ∃ A1, A1 = u S4 44 (nS V).toNat v0 := ⟨_, rfl⟩
  obtain ⟨A2, hA2⟩ : ∃ A2, A2 = u A1 45 (nS V).toNat v1 := ⟨_, rfl⟩
  obtain ⟨A3, hA3⟩ : ∃ A3, A3 = u A2 46 (nS V).toNat v2 := ⟨_, rfl⟩
  obtain ⟨A4, hA4⟩ : ∃ A4, A4 = u A3 47 (nS V).toNat v3 := ⟨_, rfl⟩
  obtain ⟨A5, hA5⟩ : ∃ A5, A5 = u A4 48 (nS V).toNat 0 := ⟨_, rfl⟩
  obtain ⟨A6, hA6⟩ : ∃ A6, A6 = u A5 43 5 (nS V + 1) := ⟨_, rfl⟩
  have o1 : Off S4 A1 44 49 := by rw [hA1]; exact Off.wt (by omega) (by omega)
  have o2 : Off S4 A2 44 49 := by rw [hA2]; exact o1.tu (by omega) (by omega)
  have o3 : Off S4 A3 44 49 := by rw [hA3]; exact o2.tu (by omega) (by omega)
  have o4 : Off S4 A4 44 49 := by rw [hA4]; exact o3.tu (by omega) (by omega)
  have o5 : Off S4 A5 44 49 := by rw [hA5]; exact o4.tu (by omega) (by omega)
  have o6 : Off S4 A6 43 49 := by rw [hA6]; exact (o5.mono (by omega) (by omega)).tu (by omega) (by omega)
  have eadd : fn_Stories_add 43 v0 v1 v2 v3 S4 = some A6 := by
    have g1 : g A1 43 5 = nS V := by rw [o1.rd (by omega)]; exact en
    have g2 : g A2 43 5 = nS V := by rw [o2.rd (by omega)]; exact en
    have g3 : g A3 43 5 = nS V := by rw [o3.rd (by omega)]; exact en
    have g4 : g A4 43 5 = nS V := by rw [o4.rd (by omega)]; exact en
    have g5 : g A5 43 5 = nS V := by rw [o5.rd (by omega)]; exact en
    have cc : 0 ≤ nS V ∧ nS V < 10 := by omega
    unfold fn_Stories_add
    rw [en, if_neg (by omega), if_pos cc, tg_43_0, tg_43_1, tg_43_2, tg_43_3, tg_43_4, nm_x, ← hA1, g1, if_pos cc, nm_x, ← hA2, g2, if_pos cc, nm_x, ← hA3, g3, if_pos cc, nm_x, ← hA4, g4, if_pos cc, nm_x, ← hA5, g5, nm_x, ← hA6]
  have cnt : g A6 43 5 = nS V + 1 := by rw [hA6, g_eq, wr_s (by omega) (by omega)]
  have old : ∀ c f, ¬ (f = N ∧ 44 ≤ c ∧ c < 49) → ¬ (c = 43 ∧ f = 5) → g A6 c f = g S4 c f := fun c f q1 q2 => by
    rw [hA6, g_ne (by omega), hA5, g_ne (by omega), hA4, g_ne (by omega), hA3, g_ne (by omega), hA2, g_ne (by omega), hA1, g_ne (by omega)]
  have NN : (nS V).toNat = N := by omega
  have vv : vC A6 34 = nwS V F := by
    have q := vC_nwS (S := S4) (S' := A6) (s := 34) (N := N) (F := F) (by show g S4 43 5 = _; rw [en, hN]) (by show g A6 43 5 = _; rw [cnt, hN]) (fun k k1 k2 => by
      have kc : k = 7 ∨ k = 8 ∨ k = 9 ∨ k = 10 ∨ k = 11 := by omega
      rcases kc with rfl | rfl | rfl | rfl | rfl
      · show g A6 44 N = _
        rw [hA6, g_ne (by omega), hA5, g_ne (by omega), hA4, g_ne (by omega), hA3, g_ne (by omega), hA2, g_ne (by omega), hA1, NN, g_eq, f7, wr_s (by omega) (by omega)]
      · show g A6 45 N = _
        rw [hA6, g_ne (by omega), hA5, g_ne (by omega), hA4, g_ne (by omega), hA3, g_ne (by omega), hA2, NN, g_eq, f8, wr_s (by omega) (by omega)]
      · show g A6 46 N = _
        rw [hA6, g_ne (by omega), hA5, g_ne (by omega), hA4, g_ne (by omega), hA3, NN, g_eq, f9, wr_s (by omega) (by omega)]
      · show g A6 47 N = _
        rw [hA6, g_ne (by omega), hA5, g_ne (by omega), hA4, NN, g_eq, f10, wr_s (by omega) (by omega)]
      · show g A6 48 N = _
        rw [hA6, g_ne (by omega), hA5, NN, g_eq, f11, wr_0]) (fun k i k1 k2 ki => old _ _ (by omega) (by omega)) (fun c f hc => old c f (by omega) (by omega))
    have v6 : vC S4 34 = V := d4.pl.1.2.1
    rw [v6] at q
    unfold nwS
    rw [hN]
    exact q
  have hG' := Good_nwS (F := F) hd.2.1 (by omega) (by rw [f7]; exact hr0) (by rw [f8]; omega) (by rw [f9]; exact hr2) (by rw [f10]; exact hr3) f11
  obtain ⟨n1, n2, n3, n4, n5, n6⟩ := nwS_n (V := V) (F := F)
  have pt : PT A6 33 (nwS V F) := PT_same d4 vv hG'.1 hG'.2.1 (o6.mono (by omega) (by omega)) n4 n5 (fun q q1 _ => rawR_nwS d4.v) (fun q => stOn_nwS d4.v f11) (fun y s => grp_nwS d4.v)
  have c0' : g ((true, S4) : Bool × St).2 62 0 = v0 := c0
  have c1' : g ((true, S4) : Bool × St).2 62 1 = v1 := c1
  have c2' : g ((true, S4) : Bool × St).2 62 2 = v2 := c2
  have c3' : g ((true, S4) : Bool × St).2 62 3 = v3 := c3
  have eadd' : fn_Stories_add 43 v0 v1 v2 v3 ((true, S4) : Bool × St).2 = some A6 := eadd
  rw [tg_61_2, c0', c1', c2', c3', eadd', bnO_s, bnO_eta]
  refine RdZ.fin hq (hN3.st.cw (o6.mono (by omega) (by omega))) ⟨pt, hG', by rw [n6]; exact hd.2.2⟩ (by omega) (fun m => (hM m).1.2.2.2.2.1) (fun m => ?_)
  obtain ⟨⟨⟨-, a0⟩, ⟨-, a1⟩, ⟨-, a2⟩, ⟨-, a3⟩, a4, a5⟩, -⟩ := hM m
  exact ⟨by rw [hF, hN0.vv, hN1.vv, hN2.vv, hN3.vv, a0, a1, a2, a3], a5⟩
end RdSz
