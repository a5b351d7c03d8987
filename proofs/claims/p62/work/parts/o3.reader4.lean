/-! THE READER ALONE: an ad more -/
section RdAd
variable {B : Int → Int} {L p s q e : Int} {S S' S0 : St} {V V' W : Vw} {M : Prop}
theorem Rd_ad {x0 x1 x2 x3 x4 x5 : Int} (hq : RdQ B L q) (h : RdC B L q S0 s S) (hk : tkK B L s = 1) (hd : RdD V S) (hM : M → RdT B L (tkE B L s) [x0, x1, x2, x3, x4, x5] e ∧ nA V < 40 ∧ (x0 = 1 ∨ x0 = 2 ∨ x0 = 4) ∧ (0 ≤ x1 ∧ x1 ≤ 9) ∧ (0 ≤ x2 ∧ x2 ≤ 1) ∧ (0 ≤ x3 ∧ x3 ≤ 2) ∧ (1 ≤ x4 ∧ x4 ≤ 999) ∧ (0 ≤ x5 ∧ x5 ≤ 9999)) : RdZ M S0 q (RdF B L q S0 s (fun V' p' => M → V' = nwA V (fAd x0 x1 x2 x3 x4 x5) ∧ p' = e)) (fn_Reader_readAd 61 S) := by
  obtain ⟨st0, le⟩ := h.adv hq (by rw [hk]; decide)
  have b := hd.1.pl.b
  have L6 := h.1.1.1.1
  have qb := hq.1
  have gn : g S 35 7 = nA V := hd.1.pl.mA
  unfold fn_Reader_readAd
  rw [tg_61_1, tg_33_0, tg_34_0, gn]
  by_cases full : nA V = 40
  · rw [if_neg (by omega)]
    exact RdZ.fail h.1.2 h.2.2.1.1 h.2.1 (by omega) (by omega) (fun m => by have := (hM m).2.1; omega) (fun _ => rfl)
  rw [if_pos (by omega)]
  obtain ⟨N, hN⟩ : ∃ N : Nat, nA V = (N : Int) := ⟨(nA V).toNat, by omega⟩
  rw [rSz_eq]
  rotate_left
  · exact fun _ => rfl
  refine RdZ.size hq st0 (fun m => ?_) (fun _ => rfl) (fun S1 v0 hN0 hsz => ?_)
  · obtain ⟨⟨⟨a1, a2⟩, -⟩, -, a3, -⟩ := hM m
    exact ⟨a1, by rw [a2]; exact a3⟩
  have d1 : PT S1 33 V := hd.1.off hN0.cf (by omega)
  have hr0 := hN0.rg
  have vb0 := hN0.vb
  have lt0 := hN0.lt
  rw [bnO_s, if_pos rfl]
  refine RdZ.num (i := 1) hq (by decide) hN0.st (fun m => ?_) (fun _ => rfl) (fun S2 v1 hN1 => ?_)
  · obtain ⟨⟨-, ⟨a1, a2⟩, -⟩, -, -, a3, -⟩ := hM m
    exact ⟨a1, by rw [a2]; omega, by rw [a2]; omega⟩
  have d2 : PT S2 33 V := d1.off hN1.cf (by omega)
  have hr1 := hN1.rg
  have vb1 := hN1.vb
  have lt1 := hN1.lt
  rw [bnO_s, if_pos rfl]
  refine RdZ.num (i := 2) hq (by decide) hN1.st (fun m => ?_) (fun _ => rfl) (fun S3 v2 hN2 => ?_)
  · obtain ⟨⟨-, -, ⟨a1, a2⟩, -⟩, -, -, -, a3, -⟩ := hM m
    exact ⟨a1, by rw [a2]; omega, by rw [a2]; omega⟩
  have d3 : PT S3 33 V := d2.off hN2.cf (by omega)
  have hr2 := hN2.rg
  have vb2 := hN2.vb
  have lt2 := hN2.lt
  rw [bnO_s, if_pos rfl]
  refine RdZ.num (i := 3) hq (by decide) hN2.st (fun m => ?_) (fun _ => rfl) (fun S4 v3 hN3 => ?_)
  · obtain ⟨⟨-, -, -, ⟨a1, a2⟩, -⟩, -, -, -, -, a3, -⟩ := hM m
    exact ⟨a1, by rw [a2]; omega, by rw [a2]; omega⟩
  have d4 : PT S4 33 V := d3.off hN3.cf (by omega)
  have hr3 := hN3.rg
  have vb3 := hN3.vb
  have lt3 := hN3.lt
  rw [bnO_s, if_pos rfl]
  refine RdZ.num (i := 4) hq (by decide) hN3.st (fun m => ?_) (fun _ => rfl) (fun S5 v4 hN4 => ?_)
  · obtain ⟨⟨-, -, -, -, ⟨a1, a2⟩, -⟩, -, -, -, -, -, a3, -⟩ := hM m
    exact ⟨a1, by rw [a2]; omega, by rw [a2]; omega⟩
  have d5 : PT S5 33 V := d4.off hN4.cf (by omega)
  have hr4 := hN4.rg
  have vb4 := hN4.vb
  have lt4 := hN4.lt
  rw [bnO_s, if_pos rfl]
  refine RdZ.num (i := 5) hq (by decide) hN4.st (fun m => ?_) (fun _ => rfl) (fun S6 v5 hN5 => ?_)
  · obtain ⟨⟨-, -, -, -, -, ⟨a1, a2⟩, -⟩, -, -, -, -, -, -, a3⟩ := hM m
    exact ⟨a1, by rw [a2]; omega, by rw [a2]; omega⟩
  have d6 : PT S6 33 V := d5.off hN5.cf (by omega)
  have hr5 := hN5.rg
  have vb5 := hN5.vb
  have lt5 := hN5.lt
  rw [bnO_s, if_pos rfl]
  have c0 : g S6 62 0 = v0 := by rw [hN5.co 0 (by decide), hN4.co 0 (by decide), hN3.co 0 (by decide), hN2.co 0 (by decide), hN1.co 0 (by decide), hN0.cv]
  have c1 : g S6 62 1 = v1 := by rw [hN5.co 1 (by decide), hN4.co 1 (by decide), hN3.co 1 (by decide), hN2.co 1 (by decide), hN1.cv]
  have c2 : g S6 62 2 = v2 := by rw [hN5.co 2 (by decide), hN4.co 2 (by decide), hN3.co 2 (by decide), hN2.cv]
  have c3 : g S6 62 3 = v3 := by rw [hN5.co 3 (by decide), hN4.co 3 (by decide), hN3.cv]
  have c4 : g S6 62 4 = v4 := by rw [hN5.co 4 (by decide), hN4.cv]
  have c5 : g S6 62 5 = v5 := by rw [hN5.cv]
  obtain ⟨F, hF⟩ : ∃ F : Nat → Int, F = fAd v0 v1 v2 v3 v4 v5 := ⟨_, rfl⟩
  have f0 : F 0 = v0 := by rw [hF]; rfl
  have f1 : F 1 = v1 := by rw [hF]; rfl
  have f2 : F 2 = v2 := by rw [hF]; rfl
  have f3 : F 3 = v3 := by rw [hF]; rfl
  have f4 : F 4 = v4 := by rw [hF]; rfl
  have f5 : F 5 = v5 := by rw [hF]; rfl
  have f6 : F 6 = 0 := by rw [hF]; rfl
  have en : g S6 35 7 = nA V := d6.pl.mA
  obtain ⟨A1, hA1⟩ : ∃ A1, A1 = u S6 36 (nA V).toNat v0 := ⟨_, rfl⟩
  obtain ⟨A2, hA2⟩ : ∃ A2, A2 = u A1 37 (nA V).toNat v1 := ⟨_, rfl⟩
  obtain ⟨A3, hA3⟩ : ∃ A3, A3 = u A2 38 (nA V).toNat 0 := ⟨_, rfl⟩
  obtain ⟨A4, hA4⟩ : ∃ A4, A4 = u A3 39 (nA V).toNat 0 := ⟨_, rfl⟩
  obtain ⟨A5, hA5⟩ : ∃ A5, A5 = u A4 40 (nA V).toNat v4 := ⟨_, rfl⟩
  obtain ⟨A6, hA6⟩ : ∃ A6, A6 = u A5 41 (nA V).toNat v5 := ⟨_, rfl⟩
  obtain ⟨A7, hA7⟩ : ∃ A7, A7 = u A6 42 (nA V).toNat 0 := ⟨_, rfl⟩
  obtain ⟨A8, hA8⟩ : ∃ A8, A8 = u A7 35 7 (nA V + 1) := ⟨_, rfl⟩
  obtain ⟨A9, hA9⟩ : ∃ A9, A9 = u A8 38 (nA V).toNat v2 := ⟨_, rfl⟩
  obtain ⟨A10, hA10⟩ : ∃ A10, A10 = u A9 39 (nA V).toNat v3 := ⟨_, rfl⟩
  have o7 : Off S6 A7 36 43 := by
    rw [hA7, hA6, hA5, hA4, hA3, hA2, hA1]
    refine Off.tu (Off.tu (Off.tu (Off.tu (Off.tu (Off.tu (Off.wt ?_ ?_) ?_ ?_) ?_ ?_) ?_ ?_) ?_ ?_) ?_ ?_) ?_ ?_ <;> omega
  have o8 : Off S6 A8 35 43 := by rw [hA8]; exact (o7.mono (by omega) (by omega)).tu (by omega) (by omega)
  have o10 : Off S6 A10 35 43 := by rw [hA10, hA9]; exact (o8.tu (by omega) (by omega)).tu (by omega) (by omega)
  have eadd : fn_Ads_add 35 v0 v1 v4 v5 S6 = some (nA V, A8) := by
    have g7 : g A7 35 7 = nA V := by rw [o7.rd (by omega)]; exact en
    unfold fn_Ads_add
    rw [en, if_pos (by omega), if_pos (by omega), tg_35_0, tg_35_1, tg_35_2, tg_35_3, tg_35_4, tg_35_5, tg_35_6]
    simp only [nm_x]
    rw [← hA1, ← hA2, ← hA3, ← hA4, ← hA5, ← hA6, ← hA7, g7, ← hA8]
  have w2 : g A8 62 2 = v2 := by rw [o8.rd (by omega)]; exact c2
  have w3 : g A9 62 3 = v3 := by rw [hA9, g_ne (by omega), o8.rd (by omega)]; exact c3
  have cnt : g A10 35 7 = nA V + 1 := by rw [hA10, g_ne (by omega), hA9, g_ne (by omega), hA8, g_eq, wr_s (by omega) (by omega)]
  have old : ∀ c f, ¬ (f = N ∧ 36 ≤ c ∧ c < 43) → ¬ (c = 35 ∧ f = 7) → g A10 c f = g S6 c f := fun c f q1 q2 => by
    rw [hA10, g_ne (by omega), hA9, g_ne (by omega), hA8, g_ne (by omega), hA7, g_ne (by omega), hA6, g_ne (by omega), hA5, g_ne (by omega), hA4, g_ne (by omega), hA3, g_ne (by omega), hA2, g_ne (by omega), hA1, g_ne (by omega)]
  have NN : (nA V).toNat = N := by omega
  have vv : vC A10 34 = nwA V F := by
    have q := vC_nwA (S := S6) (S' := A10) (s := 34) (N := N) (F := F) (by show g S6 35 7 = _; rw [en, hN]) (by show g A10 35 7 = _; rw [cnt, hN]) (fun k k1 k2 => by
      have kc : k = 0 ∨ k = 1 ∨ k = 2 ∨ k = 3 ∨ k = 4 ∨ k = 5 ∨ k = 6 := by omega
      rcases kc with rfl | rfl | rfl | rfl | rfl | rfl | rfl
      · show g A10 36 N = _
        rw [hA10, g_ne (by omega), hA9, g_ne (by omega), hA8, g_ne (by omega), hA7, g_ne (by omega), hA6, g_ne (by omega), hA5, g_ne (by omega), hA4, g_ne (by omega), hA3, g_ne (by omega), hA2, g_ne (by omega), hA1, NN, g_eq, f0, wr_s (by omega) (by omega)]
      · show g A10 37 N = _
        rw [hA10, g_ne (by omega), hA9, g_ne (by omega), hA8, g_ne (by omega), hA7, g_ne (by omega), hA6, g_ne (by omega), hA5, g_ne (by omega), hA4, g_ne (by omega), hA3, g_ne (by omega), hA2, NN, g_eq, f1, wr_s (by omega) (by omega)]
      · show g A10 38 N = _
        rw [hA10, g_ne (by omega), hA9, NN, g_eq, f2, wr_s (by omega) (by omega)]
      · show g A10 39 N = _
        rw [hA10, NN, g_eq, f3, wr_s (by omega) (by omega)]
      · show g A10 40 N = _
        rw [hA10, g_ne (by omega), hA9, g_ne (by omega), hA8, g_ne (by omega), hA7, g_ne (by omega), hA6, g_ne (by omega), hA5, NN, g_eq, f4, wr_s (by omega) (by omega)]
      · show g A10 41 N = _
        rw [hA10, g_ne (by omega), hA9, g_ne (by omega), hA8, g_ne (by omega), hA7, g_ne (by omega), hA6, NN, g_eq, f5, wr_s (by omega) (by omega)]
      · show g A10 42 N = _
        rw [hA10, g_ne (by omega), hA9, g_ne (by omega), hA8, g_ne (by omega), hA7, NN, g_eq, f6, wr_0]) (fun k i k1 k2 ki => old _ _ (by omega) (by omega)) (fun c f hc => old c f (by omega) (by omega))
    have v6 : vC S6 34 = V := d6.pl.1.2.1
    rw [v6] at q
    unfold nwA
    rw [hN]
    exact q
  have hG' := Good_nwA (F := F) hd.2.1 (by omega) (by rw [f0]; exact hsz) (by rw [f1]; exact hr1) (by rw [f2]; omega) (by rw [f3]; exact hr3) (by rw [f4]; exact hr4) (by rw [f5]; exact hr5) f6
  obtain ⟨n1, n2, n3, n4, n5, n6⟩ := nwA_n (V := V) (F := F)
  have pt : PT A10 33 (nwA V F) := PT_same d6 vv hG'.1 hG'.2.1 (o10.mono (by omega) (by omega)) n4 n5 (fun q q1 _ => rawR_nwA d6.v f6 q1) (fun q => stOn_nwA d6.v) (fun y s => grp_nwA d6.v f6)
  have ecl : ∀ (k : Bool × St → Option (Bool × St)), (bnO (fn_Ads_add 35 (g ((true, S6) : Bool × St).2 (tgt 61 2) 0) (g ((true, S6) : Bool × St).2 (tgt 61 2) 1) (g ((true, S6) : Bool × St).2 (tgt 61 2) 4) (g ((true, S6) : Bool × St).2 (tgt 61 2) 5) ((true, S6) : Bool × St).2) fun p13 => if p13.1 < 0 then (bnO (fn_Reader_readSemicolon 61 p13.2) k) else (if 0 ≤ p13.1 ∧ p13.1 < 40 then (nm (u p13.2 (tgt 35 2) ((p13.1).toNat) (g p13.2 (tgt 61 2) 2)) fun S16 => nm (u S16 (tgt 35 3) ((p13.1).toNat) (g S16 (tgt 61 2) 3)) fun S17 => bnO (fn_Reader_readSemicolon 61 S17) k) else none)) = bnO (fn_Reader_readSemicolon 61 A10) k := fun k => by
    show (bnO (fn_Ads_add 35 (g S6 (tgt 61 2) 0) (g S6 (tgt 61 2) 1) (g S6 (tgt 61 2) 4) (g S6 (tgt 61 2) 5) S6) _) = _
    rw [tg_61_2, c0, c1, c4, c5, eadd, bnO_s]
    show (if nA V < 0 then _ else _) = _
    rw [if_neg (by omega : ¬ nA V < 0), if_pos (by omega : 0 ≤ nA V ∧ nA V < 40), nm_x, tg_35_2]
    show (nm (u (u A8 38 (nA V).toNat (g A8 62 2)) (tgt 35 3) (nA V).toNat (g (u A8 38 (nA V).toNat (g A8 62 2)) 62 3)) fun S17 => bnO (fn_Reader_readSemicolon 61 S17) k) = _
    rw [w2, ← hA9, w3, tg_35_3, ← hA10, nm_x]
  have el := ecl (fun p18 => some (p18.1, p18.2))
  rw [el, bnO_eta]
  refine RdZ.fin hq (hN5.st.cw (o10.mono (by omega) (by omega))) ⟨pt, hG', by rw [n6]; exact hd.2.2⟩ (by omega) (fun m => (hM m).1.2.2.2.2.2.2.1) (fun m => ?_)
  obtain ⟨⟨⟨-, a0⟩, ⟨-, a1⟩, ⟨-, a2⟩, ⟨-, a3⟩, ⟨-, a4⟩, ⟨-, a5⟩, -, a6⟩, -⟩ := hM m
  exact ⟨by rw [hF, hN0.vv, hN1.vv, hN2.vv, hN3.vv, hN4.vv, hN5.vv, a0, a1, a2, a3, a4, a5], a6⟩
end RdAd
