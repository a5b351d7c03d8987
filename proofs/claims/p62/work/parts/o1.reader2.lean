/-! THE READER ALONE: statements that change an item -/
section RdB
variable {B : Int → Int} {L s q x y e : Int} {S S' S0 : St} {V V' W : Vw} {M : Prop}
theorem Rd_color (hq : RdQ B L q) (h : RdC B L q S0 s S) (hk : tkK B L s = 1) (hd : RdD V S) (hM : M → RdT B L (tkE B L s) [x] e ∧ (0 ≤ x ∧ x < frm V)) : RdZ M S0 q (RdF B L q S0 s (fun V' p' => M → V' = up V 14 x.toNat 1 ∧ p' = e)) (fn_Reader_readColor 61 S) := by
  obtain ⟨st, le⟩ := h.adv hq (by rw [hk]; decide)
  have fb := frm_b hd.1.v
  have gf : g S 33 2 = frm V := hd.1.pl.gf
  unfold fn_Reader_readColor
  rw [tg_61_1, gf, nm_x, wr_s (z := frm V - 1) (by omega) (by omega)]
  refine RdZ.num (i := 0) hq (by decide) st (fun m => ?_) (fun _ => rfl) (fun S' v hN => ?_)
  · obtain ⟨⟨⟨a1, a2⟩, -⟩, a3⟩ := hM m
    exact ⟨a1, by rw [a2]; omega, by rw [a2]; omega⟩
  have hr := hN.rg
  have d2 := hd.off hN.cf
  have hf : 0 ≤ v ∧ v < frm V := by omega
  have hG' := Good_color (z := 1) d2.2.1 hf (.inl rfl)
  obtain ⟨S2, hS2⟩ : ∃ S2, S2 = u S' 53 v.toNat 1 := ⟨_, rfl⟩
  have o2 : Off S' S2 35 56 := by rw [hS2]; exact Off.wt (by omega) (by omega)
  have vv : vC S2 34 = up V 14 v.toNat 1 := by rw [hS2]; exact D_vF (k := 14) (by decide) d2.1.pl.1.2.1 hf in1 (fun z => by omega)
  have pt := d2.1.upd (k := 14) (by decide) vv ⟨hG'.1, hG'.2.1⟩ o2
  rw [bnO_s, if_pos rfl, tg_61_2, hN.cv, if_pos (by omega : 0 ≤ v ∧ v < 8), nm_x, tg_33_0, tg_34_3, tg_52_0, ← hS2, bnO_eta]
  refine RdZ.fin hq (hN.st.cw (o2.mono (by omega) (by omega))) ⟨pt, hG', by rw [tm_up (by decide)]; exact hd.2.2⟩ (by have := hN.lt; omega) (fun m => (hM m).1.2.1) (fun m => ?_)
  obtain ⟨⟨⟨a1, a2⟩, a3, a4⟩, a5⟩ := hM m
  exact ⟨by rw [hN.vv, a2], a4⟩
theorem Rd_close (hq : RdQ B L q) (h : RdC B L q S0 s S) (hk : tkK B L s = 1) (hd : RdD V S) (hM : M → RdT B L (tkE B L s) [x, y] e ∧ (0 ≤ x ∧ x < frm V) ∧ (1 ≤ y ∧ y ≤ 9999)) : RdZ M S0 q (RdF B L q S0 s (fun V' p' => M → V' = up V 16 x.toNat y ∧ p' = e)) (fn_Reader_readClose 61 S) := by
  obtain ⟨st, le⟩ := h.adv hq (by rw [hk]; decide)
  have fb := frm_b hd.1.v
  have gf : g S 33 2 = frm V := hd.1.pl.gf
  unfold fn_Reader_readClose
  rw [tg_61_1, gf, nm_x, wr_s (z := frm V - 1) (by omega) (by omega)]
  refine RdZ.num (i := 0) hq (by decide) st (fun m => ?_) (fun _ => rfl) (fun S' v hN => ?_)
  · obtain ⟨⟨⟨a1, a2⟩, -⟩, a3, -⟩ := hM m
    exact ⟨a1, by rw [a2]; omega, by rw [a2]; omega⟩
  have hr := hN.rg
  have d2 := hd.off hN.cf
  have hf : 0 ≤ v ∧ v < frm V := by omega
  rw [bnO_s, if_pos rfl]
  refine RdZ.num (i := 1) hq (by decide) hN.st (fun m => ?_) (fun _ => rfl) (fun S3 w hN3 => ?_)
  · obtain ⟨⟨-, ⟨a1, a2⟩, -⟩, -, a3⟩ := hM m
    exact ⟨a1, by rw [a2]; omega, by rw [a2]; omega⟩
  have hr3 := hN3.rg
  have d3 := d2.off hN3.cf
  have hG' := Good_other (k := 16) (i := v) (z := w) d2.2.1 hf.1 (.inr (.inr (.inr (.inr ⟨rfl, hr3, by rw [hd.2.2]; omega⟩))))
  obtain ⟨S2, hS2⟩ : ∃ S2, S2 = u S3 55 v.toNat w := ⟨_, rfl⟩
  have o2 : Off S3 S2 35 56 := by rw [hS2]; exact Off.wt (by omega) (by omega)
  have wi : inR w := ⟨by omega, by omega⟩
  have vv : vC S2 34 = up V 16 v.toNat w := by rw [hS2]; exact D_vF (k := 16) (by decide) d3.1.pl.1.2.1 hf wi (fun _ => hr3.1)
  have pt := d3.1.upd (k := 16) (by decide) vv ⟨hG'.1, hG'.2.1⟩ o2
  have e0 : g S3 62 0 = v := by rw [hN3.co 0 (by decide)]; exact hN.cv
  rw [bnO_s, if_pos rfl, tg_61_2, e0, if_pos (by omega : 0 ≤ v ∧ v < 8), nm_x, tg_33_0, tg_34_3, tg_52_2, hN3.cv, ← hS2, bnO_eta]
  refine RdZ.fin hq (hN3.st.cw (o2.mono (by omega) (by omega))) ⟨pt, hG', by rw [tm_up (by decide)]; exact hd.2.2⟩ (by have := hN.lt; have := hN3.lt; omega) (fun m => (hM m).1.2.2.1) (fun m => ?_)
  obtain ⟨⟨⟨a1, a2⟩, ⟨a3, a4⟩, a5, a6⟩, a7⟩ := hM m
  exact ⟨by rw [hN.vv, a2, hN3.vv, a4], a6⟩
theorem Rd_put (hq : RdQ B L q) (h : RdC B L q S0 s S) (hk : tkK B L s = 1) (hd : RdD V S) (hM : M → RdT B L (tkE B L s) [x, y] e ∧ (0 ≤ x ∧ x < nA V) ∧ (1 ≤ y ∧ y ≤ pgs V) ∧ at_ V 6 x = 0 ∧ reas V x y = 0) : RdZ M S0 q (RdF B L q S0 s (fun V' p' => M → V' = up V 6 x.toNat y ∧ p' = e)) (fn_Reader_readPut 61 S) := by
  obtain ⟨st, le⟩ := h.adv hq (by rw [hk]; decide)
  have b := hd.1.pl.b
  have L6 := h.1.1.1.1
  have qb := hq.1
  have pb := hd.1.v.pg
  have gn : g S 35 7 = nA V := hd.1.pl.mA
  unfold fn_Reader_readPut
  rw [tg_61_1, tg_33_0, tg_34_0, gn, nm_x, wr_s (z := nA V - 1) (by omega) (by omega)]
  refine RdZ.num (i := 0) hq (by decide) st (fun m => ?_) (fun _ => rfl) (fun S' v hN => ?_)
  · obtain ⟨⟨⟨a1, a2⟩, -⟩, a3, -⟩ := hM m
    exact ⟨a1, by rw [a2]; omega, by rw [a2]; omega⟩
  have hr := hN.rg
  have d2 := hd.off hN.cf
  have ha : 0 ≤ v ∧ v < nA V := by omega
  have gp : g ((true, S') : Bool × St).2 33 1 = pgs V := d2.1.pl.gp
  rw [bnO_s, if_pos rfl, gp]
  refine RdZ.num (i := 1) hq (by decide) hN.st (fun m => ?_) (fun _ => rfl) (fun S3 w hN3 => ?_)
  · obtain ⟨⟨-, ⟨a1, a2⟩, -⟩, -, a3, -⟩ := hM m
    exact ⟨a1, by rw [a2]; omega, by rw [a2]; omega⟩
  have hr3 := hN3.rg
  have d3 := d2.off hN3.cf
  have e0 : g S3 62 0 = v := by rw [hN3.co 0 (by decide)]; exact hN.cv
  have eC : g S3 42 v.toNat = at_ V 6 v := d3.1.pl.a6 ha
  have va := d3.1.v.2.1 v ha.1 ha.2
  have st3 := hN3.st
  have z0 := hN3.mp
  have mv : M → v = x ∧ w = y := fun m => by
    obtain ⟨⟨⟨a1, a2⟩, ⟨a3, a4⟩, a5, a6⟩, a7⟩ := hM m
    exact ⟨by rw [hN.vv, a2], by rw [hN3.vv, a4]⟩
  rw [bnO_s, if_pos rfl, tg_61_2, e0, hN3.cv, if_pos (by omega : 0 ≤ v ∧ v < 40), tg_35_6, eC]
  by_cases c1 : at_ V 6 v = 0
  · rw [if_pos c1, P_adReason d3.1 ha, bnO_s]
    by_cases c2 : reas V v w = 0
    · have hG' := Good_put d3.2.1 ha c2
      have wi : inR w := ⟨by omega, by omega⟩
      obtain ⟨S4, hS4⟩ : ∃ S4, S4 = u S3 42 v.toNat w := ⟨_, rfl⟩
      have o4 : Off S3 S4 35 56 := by rw [hS4]; exact Off.wt (by omega) (by omega)
      have vv : vC S4 34 = up V 6 v.toNat w := by rw [hS4]; exact D_vA (k := 6) (by decide) d3.1.pl.1.2.1 ha wi
      obtain ⟨S5, e5, o5, p5⟩ := P_recount (d3.1.pl.upd (k := 6) (by decide) vv hG'.1 o4) hG'.2.1
      rw [if_pos c2, nm_x, ← hS4, e5, bnO_s, bnO_eta]
      refine RdZ.fin hq (st3.cw ((o4.mono (by omega) (by omega)).trans (o5.mono (by omega) (by omega)))) ⟨p5, hG', by rw [tm_up (by decide)]; exact hd.2.2⟩ (by have := hN.lt; have := hN3.lt; omega) (fun m => (hM m).1.2.2.1) (fun m => ?_)
      obtain ⟨m1, m2⟩ := mv m
      exact ⟨by rw [m1, m2], (hM m).1.2.2.2⟩
    · rw [if_neg c2]
      refine RdZ.fail st3.1.2 hN3.c5 z0 (by omega) (by omega) (fun m => ?_) (fun _ => rfl)
      obtain ⟨m1, m2⟩ := mv m
      exact c2 (by rw [m1, m2]; exact (hM m).2.2.2.2)
  · rw [if_neg c1]
    refine RdZ.fail st3.1.2 hN3.c5 z0 (by omega) (by omega) (fun m => ?_) (fun _ => rfl)
    obtain ⟨m1, m2⟩ := mv m
    exact c1 (by rw [m1]; exact (hM m).2.2.2.1)
theorem Rd_lay (hq : RdQ B L q) (h : RdC B L q S0 s S) (hk : tkK B L s = 1) (hd : RdD V S) (hM : ¬ M) : RdZ M S0 q (RdF B L q S0 s (fun _ _ => True)) (fn_Reader_readLay 61 S) := by
  obtain ⟨st, le⟩ := h.adv hq (by rw [hk]; decide)
  have b := hd.1.pl.b
  have L6 := h.1.1.1.1
  have qb := hq.1
  have pb := hd.1.v.pg
  have gn : g S 43 5 = nS V := hd.1.pl.mS
  unfold fn_Reader_readLay
  rw [tg_61_1, tg_33_0, tg_34_1, gn, nm_x, wr_s (z := nS V - 1) (by omega) (by omega)]
  refine RdZ.num (i := 0) hq (by decide) st (fun m => absurd m hM) (fun _ => rfl) (fun S' v hN => ?_)
  have hr := hN.rg
  have d2 := hd.off hN.cf
  have ha : 0 ≤ v ∧ v < nS V := by omega
  have gp : g ((true, S') : Bool × St).2 33 1 = pgs V := d2.1.pl.gp
  rw [bnO_s, if_pos rfl, gp]
  refine RdZ.num (i := 1) hq (by decide) hN.st (fun m => absurd m hM) (fun _ => rfl) (fun S3 w hN3 => ?_)
  have hr3 := hN3.rg
  have d3 := d2.off hN3.cf
  have e0 : g S3 62 0 = v := by rw [hN3.co 0 (by decide)]; exact hN.cv
  have eC : g S3 48 v.toNat = at_ V 11 v := d3.1.pl.s4 ha
  have st3 := hN3.st
  have z0 := hN3.mp
  have wi : inR w := ⟨by omega, by omega⟩
  rw [bnO_s, if_pos rfl, tg_61_2, e0, hN3.cv, if_pos (by omega : 0 ≤ v ∧ v < 10), tg_43_4, eC]
  by_cases c1 : at_ V 11 v = 0
  · rw [if_pos c1, P_layReason d3.1 ha wi, bnO_s]
    by_cases c2 : layR V v w = 0
    · have hG' := Good_setS d3.2.1 ha (.inr c2)
      obtain ⟨S4, hS4⟩ : ∃ S4, S4 = u S3 48 v.toNat w := ⟨_, rfl⟩
      have o4 : Off S3 S4 35 56 := by rw [hS4]; exact Off.wt (by omega) (by omega)
      have vv : vC S4 34 = up V 11 v.toNat w := by rw [hS4]; exact D_vS (k := 11) (by decide) d3.1.pl.1.2.1 ha wi
      obtain ⟨S5, e5, o5, p5⟩ := P_recount (d3.1.pl.upd (k := 11) (by decide) vv hG'.1 o4) hG'.2.1
      rw [if_pos c2, nm_x, ← hS4, e5, bnO_s, bnO_eta]
      exact RdZ.fin hq (st3.cw ((o4.mono (by omega) (by omega)).trans (o5.mono (by omega) (by omega)))) ⟨p5, hG', by rw [tm_up (by decide)]; exact hd.2.2⟩ (by have := hN.lt; have := hN3.lt; omega) (fun m => absurd m hM) trivial
    · rw [if_neg c2]
      exact RdZ.fail st3.1.2 hN3.c5 z0 (by omega) (by omega) hM (fun _ => rfl)
  · rw [if_neg c1]
    exact RdZ.fail st3.1.2 hN3.c5 z0 (by omega) (by omega) hM (fun _ => rfl)
end RdB
