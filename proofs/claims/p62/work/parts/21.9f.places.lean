/-! load: put and lay -/
section Places
variable {B : Int → Int} {L p s n v z q : Int} {S S' S0 T T' T0 : St} {V V' W : Vw} {k : Nat} {a : Int}
theorem reas_0 : 0 ≤ reas W a q ∧ reas W a q ≤ 6 := by
  unfold reas
  repeat' split
  all_goals decide
theorem layR_0 : 0 ≤ layR W s q ∧ layR W s q ≤ 5 := by
  have m := mnR_v (W := W) (s := s) (q := q) (n := (at_ W 7 s).toNat)
  unfold layR
  split
  · split
    · omega
    · split <;> decide
  · decide
/-- both say 4 at the page's number -/
theorem ST_fail4 {R : St → St → Prop} (hC : FlC S0 S) (hM : FlM T0 T) (h5 : g S 61 5 = z) (hz : 0 ≤ z ∧ z ≤ 1600) : RES S0 T0 R (fn_Reader_fail 61 4 S) (fn_Mo_fail 514 4 (u T 514 19 z)) := by
  have e : g (u T 514 19 z) 514 19 = z := by rw [g_eq, wr_s (by omega) (by omega)]
  exact RES_fail hC (hM.trans (FlM.w4 (by omega))) (by rw [e]; exact h5) (by rw [e]; exact hz) (by omega)
theorem ST_put (h : Cu2 B L S0 T0 s S T) (hd : Dft V S T) : RES S0 T0 (Done B L S0 T0 s) (fn_Reader_readPut 61 S) (fn_Mo_readPlace 514 1 T) := by
  obtain ⟨T1, e1, st, d1, r1⟩ := ADV h hd
  have b := hd.1.pl.b
  have gn : g S 35 7 = nA V := hd.1.pl.mA
  have tb := tkE_b h.1.1.1 h.2.2.1
  unfold fn_Reader_readPut fn_Mo_readPlace
  rw [tg_61_1, tg_33_0, tg_34_0, gn, nm_x, e1, bnO_s, if_neg (by decide : ¬ (1 : Int) = 0), tg_514_0, d1.2.2.2.1.mA, nm_x, wr_s (z := nA V - 1) (by omega) (by omega)]
  refine NUM (i := 0) (by decide) st (fun _ => rfl) (fun _ => rfl) (fun S' T' v hN => ?_)
  have hr := hN.rg
  have d2 := d1.tok hN.cf hN.mf hN.mg
  have ha : 0 ≤ v ∧ v < nA V := by omega
  have gp : g S' 33 1 = pgs V := d2.1.pl.gp
  rw [bnO_s, bnO_s, if_pos rfl, if_pos rfl, Mo_pageMany d2.2.2.2.1, bnO_s]
  have gp' : g ((true, S') : Bool × St).2 33 1 = pgs V := gp
  rw [gp']
  refine NUM (i := 1) (by decide) hN.st (fun _ => rfl) (fun _ => rfl) (fun S3 T3 w hN3 => ?_)
  have hr3 := hN3.rg
  have d3 := d2.tok hN3.cf hN3.mf hN3.mg
  have e0 : g S3 62 0 = v := by rw [hN3.co 0 (by decide)]; exact hN.c
  have e9 : g T' 514 19 = tkS B L (tkE B L (tkS B L (tkE B L s))) := hN.st.2.2.2.2.1.1
  have eM : g T3 515 (29 + 7 * v + 6).toNat = at_ V 6 v := d3.2.2.2.1.ad (k := 6) (by omega) ha
  have eC : g S3 42 v.toNat = at_ V 6 v := d3.1.pl.a6 ha
  have va := d3.1.v.2.1 v ha.1 ha.2
  have st3 := hN3.st
  have z0 := hN3.mp
  rw [bnO_s, bnO_s, if_pos rfl, if_pos rfl, if_neg (by decide : ¬ (1 : Int) = 0), tg_61_2, e0, hN3.c, hN.m, nm_x, nm_x, wr_s (z := 29 + 7 * v + 6) (by omega) (by omega), if_pos (by omega : 0 ≤ v ∧ v < 40), tg_35_6, eC, e9]
  unfold jf_Mo_readPlace_85
  rw [if_pos (by omega : 0 ≤ 29 + 7 * v + 6 ∧ 29 + 7 * v + 6 < 8740), tg_514_0, eM]
  by_cases c1 : at_ V 6 v = 0
  · rw [if_pos c1, if_neg (by omega), if_neg (by decide : ¬ (1 : Int) = 0), P_adReason d3.1 ha, bnO_s, hN3.m, Mo_reasonOf d3.2.2.2.1 ha, bnO_s]
    have rv := reas_0 (W := V) (a := v) (q := w)
    by_cases c2 : reas V v w = 0
    · have hG' := Good_put d3.2.1 ha c2
      have wi : inR w := ⟨by omega, by omega⟩
      obtain ⟨S4, hS4⟩ : ∃ S4, S4 = u S3 42 v.toNat w := ⟨_, rfl⟩
      obtain ⟨T4, hT4⟩ : ∃ T4, T4 = u T3 515 (29 + 7 * v + 6).toNat w := ⟨_, rfl⟩
      have o4 : Off S3 S4 35 56 := by rw [hS4]; exact Off.wt (by omega) (by omega)
      have vv : vC S4 34 = up V 6 v.toNat w := by rw [hS4]; exact D_vA (k := 6) (by decide) d3.1.pl.1.2.1 ha wi
      obtain ⟨S5, e5, o5, p5⟩ := P_recount (d3.1.pl.upd (k := 6) (by decide) vv hG'.1 o4) hG'.2.1
      have mv : MV T4 (up V 6 v.toNat w) := by rw [hT4]; exact MV_ad (k := 6) d3.2.2.2.1 (by decide) ha wi hG'.1
      have bz : BZ (up V 6 v.toNat w) T4 := by rw [hT4]; exact d3.2.2.2.2.put d3.1.v (N5_up (by decide)) (.inr (.inl ⟨v, 6, ha, by omega, by omega, by omega⟩))
      have st4 : St2 B L S0 T0 (tkE B L (tkS B L (tkE B L (tkS B L (tkE B L s))))) S5 T4 := by rw [hT4]; exact (st3.c ((o4.mono (by omega) (by omega)).trans (o5.mono (by omega) (by omega)))).m (by omega)
      rw [if_pos c2, if_pos (by omega : reas V v w ≤ 0), nm_x, ← hS4, ← hT4, e5, bnO_s, bnO_eta, bnO_eta]
      exact FIN st4 ⟨p5, hG', by rw [tm_up (by decide)]; exact d3.2.2.1, mv, bz⟩ (by have := hN.lt; have := hN3.lt; omega)
    · rw [if_neg c2, if_neg (by omega : ¬ reas V v w ≤ 0), nm_x, bnO_eta, bnO_eta]
      exact ST_fail4 st3.1.2 st3.2.1.2 hN3.c5 z0
  · rw [if_neg c1, if_pos (by omega), nm_x, bnO_eta, bnO_eta]
    exact ST_fail4 st3.1.2 st3.2.1.2 hN3.c5 z0
theorem ST_lay (h : Cu2 B L S0 T0 s S T) (hd : Dft V S T) : RES S0 T0 (Done B L S0 T0 s) (fn_Reader_readLay 61 S) (fn_Mo_readPlace 514 0 T) := by
  obtain ⟨T1, e1, st, d1, r1⟩ := ADV h hd
  have b := hd.1.pl.b
  have gn : g S 43 5 = nS V := hd.1.pl.mS
  have tb := tkE_b h.1.1.1 h.2.2.1
  unfold fn_Reader_readLay fn_Mo_readPlace
  rw [tg_61_1, tg_33_0, tg_34_1, gn, nm_x, e1, bnO_s, if_pos rfl, tg_514_0, d1.2.2.2.1.mS, nm_x, wr_s (z := nS V - 1) (by omega) (by omega)]
  refine NUM (i := 0) (by decide) st (fun _ => rfl) (fun _ => rfl) (fun S' T' v hN => ?_)
  have hr := hN.rg
  have d2 := d1.tok hN.cf hN.mf hN.mg
  have ha : 0 ≤ v ∧ v < nS V := by omega
  have gp : g S' 33 1 = pgs V := d2.1.pl.gp
  rw [bnO_s, bnO_s, if_pos rfl, if_pos rfl, Mo_pageMany d2.2.2.2.1, bnO_s]
  have gp' : g ((true, S') : Bool × St).2 33 1 = pgs V := gp
  rw [gp']
  refine NUM (i := 1) (by decide) hN.st (fun _ => rfl) (fun _ => rfl) (fun S3 T3 w hN3 => ?_)
  have hr3 := hN3.rg
  have d3 := d2.tok hN3.cf hN3.mf hN3.mg
  have e0 : g S3 62 0 = v := by rw [hN3.co 0 (by decide)]; exact hN.c
  have e9 : g T' 514 19 = tkS B L (tkE B L (tkS B L (tkE B L s))) := hN.st.2.2.2.2.1.1
  have eM : g T3 515 (309 + 5 * v + 4).toNat = at_ V 11 v := d3.2.2.2.1.st (k := 4) (by omega) ha
  have eC : g S3 48 v.toNat = at_ V 11 v := d3.1.pl.s4 ha
  have va := d3.1.v.2.2.1 v ha.1 ha.2
  have st3 := hN3.st
  have z0 := hN3.mp
  have wi : inR w := ⟨by omega, by omega⟩
  rw [bnO_s, bnO_s, if_pos rfl, if_pos rfl, if_pos rfl, tg_61_2, e0, hN3.c, hN.m, nm_x, nm_x, wr_s (z := 309 + 5 * v + 4) (by omega) (by omega), if_pos (by omega : 0 ≤ v ∧ v < 10), tg_43_4, eC, e9]
  unfold jf_Mo_readPlace_85
  rw [if_pos (by omega : 0 ≤ 309 + 5 * v + 4 ∧ 309 + 5 * v + 4 < 8740), tg_514_0, eM]
  by_cases c1 : at_ V 11 v = 0
  · rw [if_pos c1, if_neg (by omega), if_pos rfl, P_layReason d3.1 ha wi, bnO_s, hN3.m, Mo_storyReasonOf d3.2.2.2.1 d3.2.1 ha wi, bnO_s]
    have rv := layR_0 (W := V) (s := v) (q := w)
    by_cases c2 : layR V v w = 0
    · have hG' := Good_setS d3.2.1 ha (.inr c2)
      obtain ⟨S4, hS4⟩ : ∃ S4, S4 = u S3 48 v.toNat w := ⟨_, rfl⟩
      obtain ⟨T4, hT4⟩ : ∃ T4, T4 = u T3 515 (309 + 5 * v + 4).toNat w := ⟨_, rfl⟩
      have o4 : Off S3 S4 35 56 := by rw [hS4]; exact Off.wt (by omega) (by omega)
      have vv : vC S4 34 = up V 11 v.toNat w := by rw [hS4]; exact D_vS (k := 11) (by decide) d3.1.pl.1.2.1 ha wi
      obtain ⟨S5, e5, o5, p5⟩ := P_recount (d3.1.pl.upd (k := 11) (by decide) vv hG'.1 o4) hG'.2.1
      have mv : MV T4 (up V 11 v.toNat w) := by rw [hT4]; exact MV_st (k := 11) d3.2.2.2.1 (by decide) ha wi hG'.1
      have bz : BZ (up V 11 v.toNat w) T4 := by rw [hT4]; exact d3.2.2.2.2.put d3.1.v (N5_up (by decide)) (.inr (.inr ⟨v, 4, ha, by omega, by omega, by omega⟩))
      have st4 : St2 B L S0 T0 (tkE B L (tkS B L (tkE B L (tkS B L (tkE B L s))))) S5 T4 := by rw [hT4]; exact (st3.c ((o4.mono (by omega) (by omega)).trans (o5.mono (by omega) (by omega)))).m (by omega)
      rw [if_pos c2, if_pos (by omega : layR V v w ≤ 0), nm_x, ← hS4, ← hT4, e5, bnO_s, bnO_eta, bnO_eta]
      exact FIN st4 ⟨p5, hG', by rw [tm_up (by decide)]; exact d3.2.2.1, mv, bz⟩ (by have := hN.lt; have := hN3.lt; omega)
    · rw [if_neg c2, if_neg (by omega : ¬ layR V v w ≤ 0), nm_x, bnO_eta, bnO_eta]
      exact ST_fail4 st3.1.2 st3.2.1.2 hN3.c5 z0
  · rw [if_neg c1, if_pos (by omega), nm_x, bnO_eta, bnO_eta]
    exact ST_fail4 st3.1.2 st3.2.1.2 hN3.c5 z0
end Places
