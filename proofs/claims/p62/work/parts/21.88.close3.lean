/-! closing of forms: the reference -/
section Close3
variable {W V : Vw} {S T0 T : St} {a f p i z s y n : Int} {hs : Int → Vw} {L : Nat → Int}
theorem u_wr {a f : Nat} : u S a f (wr z) = u S a f z := by unfold u wr; rw [Int32.ofInt_toInt]
theorem RM_up (h : RM T0 T V n hs) {j : Nat} (hj : j = 0 ∨ j = 4) (ht : j = 0 → 0 ≤ wr z ∧ wr z ≤ 9999) : RM T0 (u T 515 j z) (up V 17 (if j = 0 then 5 else 6) (wr z)) n hs := by
  rw [← u_wr]
  have e := vM_uT (S := T) (z := wr z) h.2.2.1.mb hj
  rw [wr_wr, h.2.2.1.1] at e
  have hn : N5 V (up V 17 (if j = 0 then 5 else 6) (wr z)) := N5_up17 (by split <;> decide)
  refine h.put (by omega) e (h.2.2.1.2.eqv up17 hn ?_)
  rcases hj with rfl | rfl
  · rw [if_pos rfl, tm_tm]; exact ht rfl
  · rw [if_neg (by decide), tm_lo]; exact h.2.2.1.2.1.2.2.2.2.2
theorem RM_lost (h : RM T0 T V n hs) : RM T0 (u T 515 4 z) (up V 17 6 (wr z)) n hs := RM_up h (.inr rfl) (fun e => by omega)
theorem RM_time (h : RM T0 T V n hs) (hz : 0 ≤ z ∧ z ≤ 9999) : RM T0 (u T 515 0 z) (up V 17 5 z) n hs := by
  have e : wr z = z := wr_s (by omega) (by omega)
  have q := RM_up (z := z) h (.inl rfl) (fun _ => by rw [e]; exact hz)
  rw [e] at q
  exact q
/-- and all but the first block is L -/
def RL (T0 : St) (L : Nat → Int) (T : St) (W : Vw) (n : Int) (hs : Int → Vw) : Prop := RM T0 T W n hs ∧ ∀ f, 380 ≤ f → g T 515 f = L f
theorem RL.b (h : RL T0 L T W n hs) : (0 ≤ nA W ∧ nA W ≤ 40) ∧ (0 ≤ nS W ∧ nS W ≤ 10) ∧ (0 ≤ nB W ∧ nB W ≤ 8) ∧ (1 ≤ sg W ∧ sg W ≤ 4) ∧ (4 ≤ pe W ∧ pe W ≤ 16) ∧ (0 ≤ tm W ∧ tm W ≤ 9999) ∧ (4 ≤ pgs W ∧ pgs W ≤ 64) := h.1.2.2.1.b
theorem RL_of (h : RM T0 T W n hs) : RL T0 (g T 515) T W n hs := ⟨h, fun _ _ => rfl⟩
theorem RL_lost (h : RL T0 L T V n hs) : RL T0 L (u T 515 4 z) (up V 17 6 (wr z)) n hs := ⟨RM_lost h.1, fun f hf => by rw [g_ne (by omega)]; exact h.2 f hf⟩
theorem RL_time (h : RL T0 L T V n hs) (hz : 0 ≤ z ∧ z ≤ 9999) : RL T0 L (u T 515 0 z) (up V 17 5 z) n hs := ⟨RM_time h.1 hz, fun f hf => by rw [g_ne (by omega)]; exact h.2 f hf⟩
theorem RL_ad (h : RL T0 L T W n hs) {k : Nat} (hk : k < 7) (ha : 0 ≤ a ∧ a < nA W) (hz : inR z) (hV : Val (up W k a.toNat z)) : ∃ T'', fn_Mo_setOfAd 514 a (k : Int) z T = some T'' ∧ RL T0 L T'' (up W k a.toNat z) n hs := by
  have b := h.b
  obtain ⟨T'', e, r⟩ := h.1.ad hk ha hz hV
  refine ⟨T'', e, r, fun f hf => ?_⟩
  unfold fn_Mo_setOfAd at e
  rw [if_pos (by omega), tg_514_0] at e
  have e' : u T 515 (29 + 7 * a + (k : Int)).toNat z = T'' := Option.some.inj e
  rw [← e', g_ne (by omega)]
  exact h.2 f hf
theorem RL_story (h : RL T0 L T W n hs) {k : Nat} (hk : 7 ≤ k ∧ k < 12) (ha : 0 ≤ a ∧ a < nS W) (hz : inR z) (hV : Val (up W k a.toNat z)) : RL T0 L (u T 515 (309 + 5 * a + ((k : Int) - 7)).toNat z) (up W k a.toNat z) n hs := by
  have b := h.b
  exact ⟨h.1.story hk ha hz hV, fun f hf => by rw [g_ne (by omega)]; exact h.2 f hf⟩
theorem RL_stb (h : RL T0 L T W n hs) (ha : 0 ≤ a ∧ a < nB W) (hz : inR z) (hV : Val (up W 13 a.toNat z)) : ∃ T'', fn_Mo_setStandby 514 a z T = some T'' ∧ RL T0 L T'' (up W 13 a.toNat z) n hs := by
  have b := h.b
  obtain ⟨T'', e, r⟩ := h.1.stb ha hz hV
  refine ⟨T'', e, r, fun f hf => ?_⟩
  unfold fn_Mo_setStandby at e
  rw [if_pos (by omega), tg_514_0] at e
  have e' : u T 515 (359 + 2 * a + 1).toNat z = T'' := Option.some.inj e
  rw [← e', g_ne (by omega)]
  exact h.2 f hf
theorem RL_form (h : RL T0 L T W n hs) {k : Nat} (hk : 14 ≤ k ∧ k < 17) (ha : 0 ≤ a ∧ a < frm W) (hz : inR z) (hV : Val (up W k a.toNat z)) : ∃ T'', fn_Mo_setForm 514 a ((k : Int) - 14) z T = some T'' ∧ RL T0 L T'' (up W k a.toNat z) n hs := by
  have b := h.b
  have fb := frm_b h.1.2.2.1.2
  obtain ⟨T'', e, r⟩ := h.1.form hk ha hz hV
  refine ⟨T'', e, r, fun f hf => ?_⟩
  unfold fn_Mo_setForm at e
  rw [if_pos (by omega), tg_514_0] at e
  have e' : u T 515 (5 + 3 * a + ((k : Int) - 14)).toNat z = T'' := Option.some.inj e
  rw [← e', g_ne (by omega)]
  exact h.2 f hf
theorem M_unused (hM : MV S W) : fn_Mo_freeStandby 514 y S = some (fsB W y) := by
  have b := hM.b
  have q := lp_fst (body := fun go p0 => lb_Mo_freeStandby_2 514 y S go p0) (fun b => decide (at_ W 13 b = 0 ∧ at_ W 12 b = y)) (fun i => i) 0 (nB W)
    (fun go i h => by
      show lb_Mo_freeStandby_2 514 y S go i = _
      unfold lb_Mo_freeStandby_2
      rw [tg_514_0, hM.mB, if_pos h])
    (fun go i h1 h2 => by
      have e0 : fn_Mo_ofStandby 514 i 0 S = some (at_ W 12 i) := Mo_ofStandby hM (k := 0) (by omega) ⟨h1, h2⟩
      have e1 : fn_Mo_ofStandby 514 i 1 S = some (at_ W 13 i) := Mo_ofStandby hM (k := 1) (by omega) ⟨h1, h2⟩
      show lb_Mo_freeStandby_2 514 y S go i = _
      unfold lb_Mo_freeStandby_2
      rw [tg_514_0, hM.mB, if_neg (by omega), e1, bnO_s, e0, nm_x, wr_s (by omega) (by omega)]
      by_cases c : at_ W 13 i = 0
      · by_cases d : at_ W 12 i = y
        · rw [if_pos c, bnO_s, if_pos d, if_pos (decide_eq_true ⟨c, d⟩)]
        · rw [if_pos c, bnO_s, if_neg d, if_neg (by rw [decide_eq_true_eq]; exact fun z => d z.2)]
      · rw [if_neg c, if_neg (by rw [decide_eq_true_eq]; exact fun z => c z.1)]) (n := FU) (Int.le_refl _) (FU_lt (by omega))
  unfold fn_Mo_freeStandby fsB
  have q2 : lo_Mo_freeStandby_2 514 y S FU 0 = _ := q
  rw [q2, Int.sub_zero]
  split
  · rename_i c; rw [c]; rfl
  · rfl
theorem M_stClose (h : RL T0 L T W n hs) (hG : G3 W) : ∃ T', lo_Mo_close_2 514 f FU (0, T) = some T' ∧ RL T0 L T' (stN W f (nS W)) n hs := by
  have b := h.b
  obtain ⟨S1, e, hI⟩ := lp_inv (body := fun go p0 => lb_Mo_close_2 514 f go p0.1 p0.2) (fun i (s : St) => (i, s)) (fun s => s)
    (fun i s => 0 ≤ i ∧ RL T0 L s (stN W f i) n hs) (nS W)
    (fun go i s hI hi => by
      have e7 := hI.2.1.2.2.1.mS
      rw [stN_sm.1.2.1] at e7
      show lb_Mo_close_2 514 f go i s = _
      unfold lb_Mo_close_2
      rw [tg_514_0, e7, if_pos hi])
    (fun go i s hI hi => by
      have hV := G3_stN hG (f := f) (i := i) ⟨hI.1, by omega⟩
      have sm := stN_sm (W := W) (f := f) (i := i)
      have sp := stN_s (W := W) (f := f) hI.1
      obtain ⟨V, eV⟩ : ∃ V, V = stN W f i := ⟨_, rfl⟩
      have hR := hI.2
      rw [← eV] at hV sm hR sp
      rw [sp]
      have hL := hR.1.2.2.1
      have ha : 0 ≤ i ∧ i < nS V := ⟨hI.1, by rw [sm.1.2.1]; exact hi⟩
      have e7 : g s 515 2 = nS W := by rw [← sm.1.2.1]; exact hL.mS
      have gS := G3_stS hV (f := f) ha
      by_cases c1 : laS V i = true
      · by_cases c2 : hasPg V i f = true
        · have es : stS f i V = up V 11 i.toNat 0 := by unfold stS; rw [c1, c2]; rfl
          rw [es] at gS ⊢
          have r8 := RL_story hR (k := 11) (by decide) ha (z := 0) in0 gS.1
          have r8' : RL T0 L (u s 515 (309 + 5 * i + 4).toNat 0) (up V 11 i.toNat 0) n hs := r8
          refine ⟨u s 515 (309 + 5 * i + 4).toNat 0, ?_, by omega, r8'⟩
          show lb_Mo_close_2 514 f go i s = go (i + 1, u s 515 (309 + 5 * i + 4).toNat 0)
          unfold lb_Mo_close_2
          rw [tg_514_0, e7, if_neg (by omega), Mo_isStoryLate hL ha, bnO_s, if_pos c1, Mo_hasPageOn hL ha, bnO_s, if_pos c2, if_pos (by omega : 0 ≤ 309 + 5 * i + 4 ∧ 309 + 5 * i + 4 < 8740), nm_x, nm_x, wr_s (z := i + 1) (by omega) (by omega)]
        · have es : stS f i V = V := by unfold stS; rw [Bool.eq_false_iff.mpr c2, Bool.and_false, if_neg Bool.false_ne_true]
          rw [es]
          refine ⟨s, ?_, by omega, hR⟩
          show lb_Mo_close_2 514 f go i s = go (i + 1, s)
          unfold lb_Mo_close_2
          rw [tg_514_0, e7, if_neg (by omega), Mo_isStoryLate hL ha, bnO_s, if_pos c1, Mo_hasPageOn hL ha, bnO_s, if_neg c2, nm_x, wr_s (z := i + 1) (by omega) (by omega)]
      · have es : stS f i V = V := by unfold stS; rw [Bool.eq_false_iff.mpr c1, Bool.false_and, if_neg Bool.false_ne_true]
        rw [es]
        refine ⟨s, ?_, by omega, hR⟩
        show lb_Mo_close_2 514 f go i s = go (i + 1, s)
        unfold lb_Mo_close_2
        rw [tg_514_0, e7, if_neg (by omega), Mo_isStoryLate hL ha, bnO_s, if_neg c1, nm_x, wr_s (z := i + 1) (by omega) (by omega)])
    (nS W - 0).toNat FU 0 T ⟨Int.le_refl _, h⟩ b.2.1.1 rfl (FU_lt (by omega))
  exact ⟨S1, e, hI.2⟩
theorem M_adClose (h : RL T0 L T W n hs) (hG : G3 W) (hp : 1 ≤ p ∧ p ≤ pgs W) (hf : fOf W p = f) : ∃ T', lo_Mo_close_62 514 f p FU (0, T) = some T' ∧ RL T0 L T' (adN W p (nA W)) n hs := by
  have b := h.b
  obtain ⟨S1, e, hI⟩ := lp_inv (body := fun go p0 => lb_Mo_close_62 514 f p go p0.1 p0.2) (fun i (s : St) => (i, s)) (fun s => s)
    (fun i s => 0 ≤ i ∧ RL T0 L s (adN W p i) n hs) (nA W)
    (fun go i s hI hi => by
      have e7 := hI.2.1.2.2.1.mA
      rw [adN_sm.1.1] at e7
      show lb_Mo_close_62 514 f p go i s = _
      unfold lb_Mo_close_62
      rw [tg_514_0, e7, if_pos hi])
    (fun go i s hI hi => by
      have hV := G3_adN hG hp (i := i) ⟨hI.1, by omega⟩
      have sm := adN_sm (W := W) (p := p) (i := i)
      have sp := adN_s (W := W) (p := p) hI.1
      obtain ⟨V, eV⟩ : ∃ V, V = adN W p i := ⟨_, rfl⟩
      have hR := hI.2
      rw [← eV] at hV sm hR sp
      rw [sp]
      have hL := hR.1.2.2.1
      have ha : 0 ≤ i ∧ i < nA V := ⟨hI.1, by rw [sm.1.1]; exact hi⟩
      have e7 : g s 515 1 = nA W := by rw [← sm.1.1]; exact hL.mA
      have ef : fn_Mo_formOf 514 p s = some f := by rw [Mo_formOf hL hp.1 (by omega), Sm_fOf sm, hf]
      have e6 : fn_Mo_ofAd 514 i 6 s = some (at_ V 6 i) := Mo_ofAd hL (k := 6) (by omega) ha
      have gA := G3_adS hV ha (by rw [Sm_pgs sm]; exact hp)
      by_cases c1 : at_ V 6 i = p
      · by_cases c2 : laA V i = true
        · have hu := G3_adU hV ha
          have hv6 : G3 (up V 6 i.toNat 0) := hV.step (by decide) (fun hG => Good_take hG (by rw [(N5_up17 (W := V) (z := 0) (by decide : 5 ≤ 5)).1]; exact ha))
          obtain ⟨S6, t6, r6⟩ := RL_ad hR (k := 6) (by decide) ha (z := 0) in0 hv6.1
          have t6' : fn_Mo_setOfAd 514 i 6 0 s = some S6 := t6
          have l6 : g S6 515 4 = lo_ V := by rw [← lo_up (W := V) (k := 6) (i := i.toNat) (z := 0) (by decide)]; exact r6.1.2.2.1.mlo
          have p6 : fn_Mo_ofAd 514 i 4 S6 = some (at_ V 4 i) := by
            rw [← at_upn (W := V) (k := 6) (k' := 4) (i := i.toNat) (z := 0) (a := i) (by decide)]
            exact Mo_ofAd r6.1.2.2.1 (k := 4) (by omega) (by rw [nA_up (by decide)]; exact ha)
          obtain ⟨S7, hS7⟩ : ∃ S7, S7 = u S6 515 4 (lo_ V + at_ V 4 i) := ⟨_, rfl⟩
          have r7 : RL T0 L S7 (adU V i) n hs := by rw [hS7]; exact RL_lost r6
          have z7 : fn_Mo_ofAd 514 i 0 S7 = some (at_ V 0 i) := by
            have := Mo_ofAd r7.1.2.2.1 (a := i) (k := 0) (by omega) (by rw [adU_sm.1.1]; exact ha)
            rw [show (0 : Int).toNat = 0 from rfl, Sm_at adU_sm (by decide) (by decide) (by decide) (by decide)] at this
            exact this
          by_cases c3 : fsB (adU V i) (at_ V 0 i) = -1
          · have es : adS p i V = adU V i := by unfold adS; rw [if_pos ⟨c1, c2⟩, if_pos c3]
            rw [es]
            refine ⟨S7, ?_, by omega, r7⟩
            show lb_Mo_close_62 514 f p go i s = go (i + 1, S7)
            unfold lb_Mo_close_62
            rw [tg_514_0, e7, if_neg (by omega), ef, bnO_s, if_pos rfl, e6, bnO_s, if_pos c1, Mo_isAdLate hL ha, bnO_s, if_pos c2, t6', bnO_s, p6, bnO_s, nm_x, l6, ← hS7, z7, bnO_s, M_unused r7.1.2.2.1, bnO_s, if_pos c3, nm_x, wr_s (z := i + 1) (by omega) (by omega)]
          · obtain ⟨x, hx⟩ : ∃ x, x = fsB (adU V i) (at_ V 0 i) := ⟨_, rfl⟩
            have es : adS p i V = up (adU V i) 13 x.toNat p := by unfold adS; rw [if_pos ⟨c1, c2⟩, if_neg c3, hx]
            have q := (fsB_spec hu.1 (y := at_ V 0 i)).resolve_left c3
            rw [← hx] at q c3
            rw [es] at gA ⊢
            obtain ⟨S8, t8, r8⟩ := RL_stb r7 q.1 (z := p) ⟨by omega, by omega⟩ gA.1
            refine ⟨S8, ?_, by omega, r8⟩
            show lb_Mo_close_62 514 f p go i s = go (i + 1, S8)
            unfold lb_Mo_close_62
            rw [tg_514_0, e7, if_neg (by omega), ef, bnO_s, if_pos rfl, e6, bnO_s, if_pos c1, Mo_isAdLate hL ha, bnO_s, if_pos c2, t6', bnO_s, p6, bnO_s, nm_x, l6, ← hS7, z7, bnO_s, M_unused r7.1.2.2.1, bnO_s, ← hx, if_neg c3, t8, bnO_s, nm_x, wr_s (z := i + 1) (by omega) (by omega)]
        · have es : adS p i V = V := by unfold adS; rw [if_neg (fun z => c2 z.2)]
          rw [es]
          refine ⟨s, ?_, by omega, hR⟩
          show lb_Mo_close_62 514 f p go i s = go (i + 1, s)
          unfold lb_Mo_close_62
          rw [tg_514_0, e7, if_neg (by omega), ef, bnO_s, if_pos rfl, e6, bnO_s, if_pos c1, Mo_isAdLate hL ha, bnO_s, if_neg c2, nm_x, wr_s (z := i + 1) (by omega) (by omega)]
      · have es : adS p i V = V := by unfold adS; rw [if_neg (fun z => c1 z.1)]
        rw [es]
        refine ⟨s, ?_, by omega, hR⟩
        show lb_Mo_close_62 514 f p go i s = go (i + 1, s)
        unfold lb_Mo_close_62
        rw [tg_514_0, e7, if_neg (by omega), ef, bnO_s, if_pos rfl, e6, bnO_s, if_neg c1, nm_x, wr_s (z := i + 1) (by omega) (by omega)])
    (nA W - 0).toNat FU 0 T ⟨Int.le_refl _, h⟩ b.1.1 rfl (FU_lt (by omega))
  exact ⟨S1, e, hI.2⟩
theorem M_adNone (hM : MV T W) (hp : 1 ≤ p ∧ p ≤ pgs W) (hf : ¬ fOf W p = f) : lo_Mo_close_62 514 f p FU (0, T) = some T := by
  have b := hM.b
  obtain ⟨m, hm⟩ : ∃ m, FU = m + 1 := ⟨FU - 1, by have := FU_lt (m := 1) (by omega); omega⟩
  show lp (fun go p0 => lb_Mo_close_62 514 f p go p0.1 p0.2) FU (0, T) = some T
  rw [hm, lp_succ]
  show lb_Mo_close_62 514 f p _ 0 T = some T
  unfold lb_Mo_close_62
  rw [tg_514_0, Mo_formOf hM hp.1 (by omega), bnO_s, if_neg hf]
  split <;> rfl
theorem M_pgClose (h : RL T0 L T W n hs) (hG : G3 W) : ∃ T', lo_Mo_close_52 514 f FU (1, T) = some T' ∧ RL T0 L T' (pgN W f (pgs W + 1)) n hs := by
  have b := h.b
  obtain ⟨S1, e, hI⟩ := lp_inv (body := fun go p0 => lb_Mo_close_52 514 f go p0.1 p0.2) (fun i (s : St) => (i, s)) (fun s => s)
    (fun i s => 1 ≤ i ∧ RL T0 L s (pgN W f i) n hs) (pgs W + 1)
    (fun go i s hI hi => by
      show lb_Mo_close_52 514 f go i s = _
      unfold lb_Mo_close_52
      rw [Mo_pageMany hI.2.1.2.2.1, bnO_s, Sm_pgs pgN_sm, if_pos (by omega)])
    (fun go i s hI hi => by
      have hV := G3_pgN hG (f := f) (i := i) ⟨hI.1, by omega⟩
      have sm := pgN_sm (W := W) (f := f) (i := i)
      have sp := pgN_s (W := W) (f := f) hI.1
      obtain ⟨V, eV⟩ : ∃ V, V = pgN W f i := ⟨_, rfl⟩
      have hR := hI.2
      rw [← eV] at hV sm hR sp
      rw [sp]
      have hp : 1 ≤ i ∧ i ≤ pgs V := ⟨hI.1, by rw [Sm_pgs sm]; omega⟩
      by_cases c : fOf V i = f
      · have es : pgS f i V = adN V i (nA V) := by unfold pgS; rw [if_pos c]
        obtain ⟨S2, e2, r2⟩ := M_adClose hR hV hp c
        rw [es]
        refine ⟨S2, ?_, by omega, r2⟩
        show lb_Mo_close_52 514 f go i s = go (i + 1, S2)
        unfold lb_Mo_close_52
        rw [Mo_pageMany hR.1.2.2.1, bnO_s, if_neg (by omega), e2, bnO_s, nm_x, wr_s (z := i + 1) (by omega) (by omega)]
      · have es : pgS f i V = V := by unfold pgS; rw [if_neg c]
        rw [es]
        refine ⟨s, ?_, by omega, hR⟩
        show lb_Mo_close_52 514 f go i s = go (i + 1, s)
        unfold lb_Mo_close_52
        rw [Mo_pageMany hR.1.2.2.1, bnO_s, if_neg (by omega), M_adNone hR.1.2.2.1 hp c, bnO_s, nm_x, wr_s (z := i + 1) (by omega) (by omega)])
    (pgs W + 1 - 1).toNat FU 1 T ⟨Int.le_refl _, by
      have e0 : pgN W f 1 = W := rfl
      rw [e0]; exact h⟩ (by omega) rfl (FU_lt (by omega))
  exact ⟨S1, e, hI.2⟩
theorem M_closeL (h : RL T0 L T W n hs) (hG : G3 W) (hf : 0 ≤ f ∧ f < frm W) : ∃ T', fn_Mo_close 514 f T = some T' ∧ RL T0 L T' (clW f W) n hs := by
  have b := h.b
  obtain ⟨S1, e1, l1⟩ := M_stClose (f := f) h hG
  have g1 := G3_stN hG (f := f) (i := nS W) ⟨b.2.1.1, Int.le_refl _⟩
  have s1 := stN_sm (W := W) (f := f) (i := nS W)
  obtain ⟨S2, e2, l2⟩ := M_pgClose (f := f) l1 g1
  rw [Sm_pgs s1] at l2
  have g3 := G3_clW hG hf
  obtain ⟨V, eV⟩ : ∃ V, V = pgN (stN W f (nS W)) f (pgs W + 1) := ⟨_, rfl⟩
  have sV : Sm W V := by rw [eV]; exact s1.tr pgN_sm
  rw [← eV] at l2
  have ec : clW f W = up V 15 f.toNat 1 := by unfold clW; rw [eV]
  rw [ec] at g3 ⊢
  have hfV : 0 ≤ f ∧ f < frm V := ⟨hf.1, by unfold frm; rw [sV.1.2.2.2.1]; exact hf.2⟩
  obtain ⟨S3, e3, r3⟩ := RL_form l2 (k := 15) (by decide) hfV (z := 1) in1 g3.1
  have e3' : fn_Mo_setForm 514 f 1 1 S2 = some S3 := e3
  refine ⟨S3, ?_, r3⟩
  unfold fn_Mo_close
  rw [e1, bnO_s, e2, bnO_s, e3', bnO_s]
theorem M_close (h : RM T0 T W n hs) (hG : G3 W) (hf : 0 ≤ f ∧ f < frm W) : ∃ T', fn_Mo_close 514 f T = some T' ∧ RM T0 T' (clW f W) n hs := by
  obtain ⟨T', e, r⟩ := M_closeL (RL_of h) hG hf
  exact ⟨T', e, r.1⟩
end Close3
