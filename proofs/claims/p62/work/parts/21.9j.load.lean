/-! load: the two answers -/
section Load
variable {B : Int → Int} {L p s n v z c : Int} {S S' S0 T T' T0 U : St} {V V' W : Vw} {a : Int} {hs : Int → Vw}
/-- what the reference's reading leaves: the old block lies in the second -/
def LdM (T T' : St) : Prop := Off T T' 514 516 ∧ (g T' 514 3 = g T 514 3 ∧ g T' 514 12 = g T 514 12) ∧ g T' 514 4 = 0 ∧ (∀ f, 760 ≤ f → g T' 515 f = g T 515 f) ∧ ∀ x, x < 380 → g T' 515 (380 + x) = g T 515 x
def LdF (W : Vw) (T T' T2 : St) : Prop := Off T T2 514 516 ∧ (g T2 514 1 = g T 514 1 ∧ g T2 514 2 = g T 514 2 ∧ g T2 514 3 = g T 514 3 ∧ g T2 514 12 = g T 514 12) ∧ g T2 514 4 = 0 ∧ g T2 514 14 = 0 ∧ (∀ f, 760 ≤ f → g T2 515 f = g T 515 f) ∧ MV T2 W ∧ (g T2 514 16 = g T' 514 16 ∧ g T2 514 17 = g T' 514 17)
def TL (U : St) (p : Int × Int × St) : Option (Int × St) := nm (u p.2.2 514 14 0) fun S34 => if p.1 = 0 then (bnO (fn_Mo_copyBlock 514 1 0 S34) fun p35 => nm (u p35 514 1 (g U 514 1)) fun S36 => nm (u S36 514 2 (g U 514 2)) fun S37 => some (-3, S37)) else (nm (u S34 514 3 0) fun S38 => some (p.2.1, S38))
theorem TL_ok : TL U (1, c, T') = some (c, u (u T' 514 14 0) 514 3 0) := by
  unfold TL
  rw [nm_x, if_neg (by show ¬ (1 : Int) = 0; decide), nm_x]
theorem TL_err (hW : MV T W) (h : LdM T T') (h1 : g U 514 1 = g T 514 1) (h2 : g U 514 2 = g T 514 2) : ∃ T2, TL U (0, c, T') = some (-3, T2) ∧ LdF W T T' T2 := by
  have b := hW.b
  have e1 := hW.msg
  have e2 := hW.mpe
  obtain ⟨o, ⟨f3, f12⟩, f4, hi, lo⟩ := h
  obtain ⟨T3, e3, o3, c3, d3⟩ := M_copy (S := u T' 514 14 0) (b1 := 1) (b2 := 0) (by decide) (by decide)
  have e3' : fn_Mo_copyBlock 514 1 0 (u T' 514 14 0) = some T3 := e3
  have g4 : ∀ f, g T3 514 f = g (u T' 514 14 0) 514 f := fun f => o3.rd (by omega)
  obtain ⟨T4, hT4⟩ : ∃ T4, T4 = u (u T3 514 1 (g U 514 1)) 514 2 (g U 514 2) := ⟨_, rfl⟩
  have k1 : g T4 514 1 = g T 514 1 := by rw [hT4, g_ne (by omega), g_eq, h1, wr_s (by omega) (by omega)]
  have k2 : g T4 514 2 = g T 514 2 := by rw [hT4, g_eq, h2, wr_s (by omega) (by omega)]
  have kf : ∀ f, f ≠ 1 → f ≠ 2 → f ≠ 14 → g T4 514 f = g T' 514 f := fun f q1 q2 q3 => by rw [hT4, g_ne (by omega), g_ne (by omega), g4, g_ne (by omega)]
  have k5 : ∀ f, g T4 515 f = g T3 515 f := fun f => by rw [hT4, g_ne (by omega), g_ne (by omega)]
  refine ⟨T4, ?_, ?_, ⟨k1, k2, by rw [kf 3 (by decide) (by decide) (by decide)]; exact f3, by rw [kf 12 (by decide) (by decide) (by decide)]; exact f12⟩, by rw [kf 4 (by decide) (by decide) (by decide)]; exact f4, ?_, fun f hf => ?_, ⟨?_, hW.2⟩, kf 16 (by decide) (by decide) (by decide), kf 17 (by decide) (by decide) (by decide)⟩
  · unfold TL
    rw [nm_x, if_pos rfl, e3', bnO_s, nm_x, nm_x, ← hT4]
  · rw [hT4]
    exact (((o.trans (Off.wt (by omega) (by omega))).trans (o3.mono (by omega) (by omega))).tu (by omega) (by omega)).tu (by omega) (by omega)
  · rw [hT4, g_ne (by omega), g_ne (by omega), g4, g_eq, wr_0]
  · rw [k5, d3 f (by omega), g_ne (by omega)]; exact hi f hf
  · rw [← hW.1]
    refine vM_eqv (by rw [hW.1]; exact hW.2) k1 k2 (fun x hx => ?_)
    rw [k5, c3 x hx, g_ne (by omega)]
    rw [show 380 * 1 + x = 380 + x by omega, lo x hx, show 380 * 0 + x = x by omega]
theorem LDX (hC : TxC B L S) (hM : TxM B L T) (hW : MV T W) : (∃ S' T' V c, fn_Reader_readText 61 S = some (c, S') ∧ fn_Mo_load 514 T = some (c, u (u T' 514 14 0) 514 3 0) ∧ (0 ≤ c ∧ c ≤ 1600) ∧ FlC S S' ∧ LdM T T' ∧ Dft V S' T' ∧ E0 S' T') ∨ ∃ S' T' T2, fn_Reader_readText 61 S = some (-1, S') ∧ fn_Mo_load 514 T = some (-3, T2) ∧ FlC S S' ∧ LdF W T T' T2 ∧ E0 S' T' := by
  have L6 := hC.1.1
  -- the class begins
  obtain ⟨S3, hS3⟩ : ∃ S3, S3 = u (u (u S 61 6 0) 61 7 (-1)) 61 3 0 := ⟨_, rfl⟩
  have oS3 : Off S S3 61 62 := by rw [hS3]; exact ((Off.wt (by omega) (by omega)).tu (by omega) (by omega)).tu (by omega) (by omega)
  obtain ⟨S4, e4, o4, p4⟩ := P_begin (S := S3) (q := 33) (s := 1) (e := 16) (.inr rfl) (by decide) (.inr (.inr rfl))
  have oS4 : Off S S4 33 62 := (oS3.mono (by omega) (by omega)).trans (o4.mono (by omega) (by omega))
  have tC4 : TxC B L S4 := hC.off oS4 (by omega)
  have s43 : g S4 61 3 = 0 := by rw [o4.rd (by omega), hS3, g_eq, wr_0]
  have s46 : g S4 61 6 = 0 := by rw [o4.rd (by omega), hS3, g_ne (by omega), g_ne (by omega), g_eq, wr_0]
  have s47 : g S4 61 7 = -1 := by rw [o4.rd (by omega), hS3, g_ne (by omega), g_eq]; exact wr_s (by decide) (by decide)
  obtain ⟨S5, e5, r5, a5, a3, a4⟩ := R_next tC4 s43 (by omega)
  -- the reference begins
  obtain ⟨U1, hU1⟩ : ∃ U1, U1 = u T 514 4 0 := ⟨_, rfl⟩
  obtain ⟨U2, f2, o2, c2, d2⟩ := M_copy (S := U1) (b1 := 0) (b2 := 1) (by decide) (by decide)
  have f2' : fn_Mo_copyBlock 514 0 1 U1 = some U2 := f2
  obtain ⟨U3, f3, o3, cb3, d3⟩ := M_clearB (T := U2)
  obtain ⟨U8, hU8⟩ : ∃ U8, U8 = u (u (u (u (u U3 514 1 1) 514 2 16) 514 16 0) 514 17 (-1)) 514 15 0 := ⟨_, rfl⟩
  have fl8 : FlM U3 U8 := by rw [hU8]; exact ((((FlM.w4 (by omega)).trans (FlM.w4 (by omega))).trans (FlM.w4 (by omega))).trans (FlM.w4 (by omega))).trans (FlM.w4 (by omega))
  have g3 : ∀ f, g U3 514 f = g U1 514 f := fun f => by rw [o3.rd (by omega), o2.rd (by omega)]
  have tM3 : TxM B L U3 := ⟨hM.1, by rw [g3, hU1, g_ne (by omega)]; exact hM.2.1, fun j j1 j2 => by rw [o3.rd (by omega), o2.rd (by omega), hU1, g_ne (by omega)]; exact hM.2.2 j j1 j2⟩
  have tM8 : TxM B L U8 := tM3.fl fl8
  obtain ⟨U9, f9, r9, k9⟩ := M_next (p := 0) tM8 (by rw [hU8, g_eq, wr_0]) (by omega)
  have sb := tkS_b (B := B) (L := L) (p := 0) (by omega)
  have fl9 : FlM U3 U9 := fl8.trans r9.fl
  have g9 : ∀ f, f ≠ 15 → f ≠ 18 → f ≠ 19 → g U9 514 f = g U8 514 f := r9.2
  have cu : Cu2 B L S U3 (tkS B L 0) S5 U9 := ⟨⟨tC4.off r5.1 (by omega), (oS4.mono (by omega) (by omega)).trans (r5.1.mono (by omega) (by omega))⟩, ⟨tM8.ra r9, fl9⟩, by omega, ⟨a5, a3, a4⟩, k9, by
    rw [r5.2 6 (by decide) (by decide) (by decide), s46, g9 16 (by decide) (by decide) (by decide), hU8, g_ne (by omega), g_ne (by omega), g_eq, wr_0], by
    rw [r5.2 7 (by decide) (by decide) (by decide), s47, g9 17 (by decide) (by decide) (by decide), hU8, g_ne (by omega), g_eq]
    exact (wr_s (by decide) (by decide)).symm⟩
  have e59 : ∀ f, g U9 515 f = g U3 515 f := fun f => by rw [r9.1.rd (by omega), hU8, g_ne (by omega), g_ne (by omega), g_ne (by omega), g_ne (by omega), g_ne (by omega)]
  have cb9 : CB U9 := fun x hx => by rw [e59]; exact cb3 x hx
  have hd9 : Dft (emV 1 16) S5 U9 := Dft_em (p4.off r5.1 (by omega)) cb9 (by rw [g9 1 (by decide) (by decide) (by decide), hU8, g_ne (by omega), g_ne (by omega), g_ne (by omega), g_ne (by omega), g_eq]; exact wr_s (by decide) (by decide)) (by rw [g9 2 (by decide) (by decide) (by decide), hU8, g_ne (by omega), g_ne (by omega), g_ne (by omega), g_eq]; exact wr_s (by decide) (by decide)) (by decide) (.inr (.inr rfl))
  have ldm : ∀ T', FlM U3 T' → LdM T T' := fun T' fl => by
    have q3 := fl.2.1 3 (by decide) (by decide) (by decide) (by decide) (by decide) (by decide) (by decide) (by decide)
    have q12 := fl.2.1 12 (by decide) (by decide) (by decide) (by decide) (by decide) (by decide) (by decide) (by decide)
    have q4 := fl.2.1 4 (by decide) (by decide) (by decide) (by decide) (by decide) (by decide) (by decide) (by decide)
    refine ⟨?_, ⟨by rw [q3, g3, hU1, g_ne (by omega)], by rw [q12, g3, hU1, g_ne (by omega)]⟩, by rw [q4, g3, hU1, g_eq, wr_0], fun f hf => ?_, fun x hx => ?_⟩
    · have o1 : Off T U1 514 516 := by rw [hU1]; exact Off.wt (by omega) (by omega)
      exact ((o1.trans (o2.mono (by omega) (by omega))).trans (o3.mono (by omega) (by omega))).trans fl.1
    · rw [fl.2.2 f (by omega), d3 f (by omega), d2 f (by omega), hU1, g_ne (by omega)]
    · have q := c2 x hx
      rw [show 380 * 1 + x = 380 + x by omega, show 380 * 0 + x = x by omega] at q
      rw [fl.2.2 (380 + x) (by omega), d3 (380 + x) (by omega), q, hU1, g_ne (by omega)]
  have u1 : g U1 514 1 = g T 514 1 := by rw [hU1, g_ne (by omega)]
  have u2 : g U1 514 2 = g T 514 2 := by rw [hU1, g_ne (by omega)]
  obtain ⟨b, w0, m0, -⟩ := WRD (w := 0) (K := kw0) (by decide) rfl cu.1.1 cu.2.2.1 cu.2.2.2.1 cu.2.2.2.2.1
  have hload : fn_Mo_load 514 T = (if b = true then bnO (fn_Mo_readPlan 514 U9) (fun p24 => if p24.1 = true then bnO (lo_Mo_load_91 514 (g U1 514 1) (g U1 514 2) FU (1, 0, p24.2)) (TL U1) else bnO (lo_Mo_load_91 514 (g U1 514 1) (g U1 514 2) FU (0, 0, p24.2)) (TL U1)) else bnO (lo_Mo_load_91 514 (g U1 514 1) (g U1 514 2) FU (1, 0, U9)) (TL U1)) := by
    unfold fn_Mo_load
    rw [nm_x, ← hU1, f2', bnO_s, f3, bnO_s, nm_x, nm_x, nm_x, nm_x, nm_x, ← hU8, f9, bnO_s, pk0, bnO_s, m0, bnO_s]
    rfl
  have htext : fn_Reader_readText 61 S = (if b = true then bnO (fn_Reader_readPlan 61 S5) (fun p17 => if p17.1 = true then bnO (fn_Reader_nextToken 61 p17.2) (fun p19 => bnS (lo_Reader_readText_55 61 FU (0, 0, p19)) (fun p21 => some (p21.1, p21.2)) fun p20 => some (p20.1, p20.2)) else some (-1, p17.2)) else bnS (lo_Reader_readText_55 61 FU (0, 0, S5)) (fun p16 => some (p16.1, p16.2)) fun p15 => some (p15.1, p15.2)) := by
    unfold fn_Reader_readText
    rw [nm_x, nm_x, nm_x, ← hS3, tg_61_1, e4, bnO_s, e5, bnO_s, w0, bnO_s]
  -- the statements
  have loop : ∀ (s : Int) (X Y : St) (V : Vw), Cu2 B L S U3 s X Y → Dft V X Y → (∃ S' T' V' c', lo_Reader_readText_55 61 FU (0, 0, X) = some (.inr (c', S')) ∧ lo_Mo_load_91 514 (g U1 514 1) (g U1 514 2) FU (1, 0, Y) = some (1, c', T') ∧ (0 ≤ c' ∧ c' ≤ 1600) ∧ FlC S S' ∧ FlM U3 T' ∧ Dft V' S' T' ∧ E0 S' T') ∨ ∃ S' T' c', lo_Reader_readText_55 61 FU (0, 0, X) = some (.inl (-1, S')) ∧ lo_Mo_load_91 514 (g U1 514 1) (g U1 514 2) FU (1, 0, Y) = some (0, c', T') ∧ Err S U3 S' T' := fun s X Y V h hd => LOOP 1600 s 0 X Y V FU h hd (by have := h.2.2.1; omega) (Int.le_refl _) h.2.2.1.1 (FU_lt (by omega))
  have done : ∀ (X : St) (S' T' : St) (V' : Vw) (c' : Int), fn_Reader_readText 61 S = some (c', S') → fn_Mo_load 514 T = TL U1 (1, c', T') → (0 ≤ c' ∧ c' ≤ 1600) ∧ FlC S S' ∧ FlM U3 T' ∧ Dft V' S' T' ∧ E0 S' T' → (∃ S' T' V c, fn_Reader_readText 61 S = some (c, S') ∧ fn_Mo_load 514 T = some (c, u (u T' 514 14 0) 514 3 0) ∧ (0 ≤ c ∧ c ≤ 1600) ∧ FlC S S' ∧ LdM T T' ∧ Dft V S' T' ∧ E0 S' T') := fun X S' T' V' c' h1 h2 h3 => ⟨S', T', V', c', h1, h2.trans TL_ok, h3.1, h3.2.1, ldm T' h3.2.2.1, h3.2.2.2⟩
  have fail : ∀ (S' T' : St) (c' : Int), fn_Reader_readText 61 S = some (-1, S') → fn_Mo_load 514 T = TL U1 (0, c', T') → Err S U3 S' T' → (∃ S' T' T2, fn_Reader_readText 61 S = some (-1, S') ∧ fn_Mo_load 514 T = some (-3, T2) ∧ FlC S S' ∧ LdF W T T' T2 ∧ E0 S' T') := fun S' T' c' h1 h2 h3 => by
    obtain ⟨T2, t1, t2⟩ := TL_err (U := U1) (c := c') hW (ldm T' h3.2.1) u1 u2
    exact ⟨S', T', T2, h1, h2.trans t1, h3.1, t2, h3.2.2⟩
  cases b with
  | false =>
    rw [if_neg Bool.false_ne_true] at hload htext
    rcases loop _ S5 U9 _ cu hd9 with ⟨S', T', V', c', l1, l2, l3⟩ | ⟨S', T', c', l1, l2, l3⟩
    · rw [l1, bnS_r] at htext
      rw [l2, bnO_s] at hload
      exact .inl (done S5 S' T' V' c' htext hload l3)
    · rw [l1, bnS_l] at htext
      rw [l2, bnO_s] at hload
      exact .inr (fail S' T' c' htext hload l3)
  | true =>
    rw [if_pos rfl] at hload htext
    rcases PLAN cu cb9 with ⟨S6, T6, q1, q2, V6, p6, lt6, st6, hd6⟩ | ⟨S6, T6, q1, q2, q3⟩
    · obtain ⟨S7, e7, cu7, o7⟩ := NXT st6
      rw [q1, bnO_s, if_pos rfl] at htext
      rw [q2, bnO_s, if_pos rfl] at hload
      have e7' : fn_Reader_nextToken 61 ((true, S6) : Bool × St).2 = some S7 := e7
      rw [e7', bnO_s] at htext
      rcases loop _ S7 T6 _ cu7 (hd6.keep o7 (fun _ => rfl) rfl rfl) with ⟨S', T', V', c', l1, l2, l3⟩ | ⟨S', T', c', l1, l2, l3⟩
      · rw [l1, bnS_r] at htext
        have l2' : lo_Mo_load_91 514 (g U1 514 1) (g U1 514 2) FU (1, 0, ((true, T6) : Bool × St).2) = _ := l2
        rw [l2', bnO_s] at hload
        exact .inl (done S5 S' T' V' c' htext hload l3)
      · rw [l1, bnS_l] at htext
        have l2' : lo_Mo_load_91 514 (g U1 514 1) (g U1 514 2) FU (1, 0, ((true, T6) : Bool × St).2) = _ := l2
        rw [l2', bnO_s] at hload
        exact .inr (fail S' T' c' htext hload l3)
    · rw [q1, bnO_s, if_neg Bool.false_ne_true] at htext
      rw [q2, bnO_s, if_neg Bool.false_ne_true] at hload
      have l0 : lo_Mo_load_91 514 (g U1 514 1) (g U1 514 2) FU (0, 0, ((false, T6) : Bool × St).2) = some (0, 0, T6) := by
        obtain ⟨m, hm⟩ : ∃ m, FU = m + 1 := ⟨FU - 1, by have := FU_lt (m := 1) (by omega); omega⟩
        show lp (fun go p0 => lb_Mo_load_91 514 (g U1 514 1) (g U1 514 2) go p0.1 p0.2.1 p0.2.2) FU (0, 0, T6) = _
        rw [hm, lp_succ]
        show lb_Mo_load_91 514 (g U1 514 1) (g U1 514 2) _ 0 0 T6 = _
        unfold lb_Mo_load_91
        rw [if_pos rfl]
      rw [l0, bnO_s] at hload
      exact .inr (fail S6 T6 0 htext hload q3)
theorem ok_load (hI : Inv S) : ∃ r S1 S2, fn_FP_load 0 S = some (r, S1) ∧ fn_Mo_load 514 S1 = some (r, S2) ∧ Inv S2 := by
  obtain ⟨W, n, hs, hG, hH, hP⟩ := hI
  have hi := hP.2.2.1
  obtain ⟨B, hB⟩ : ∃ B : Int → Int, B = fun j => if 0 ≤ j ∧ j < g S 1 1 then g S 2 j.toNat else -1 := ⟨_, rfl⟩
  have tx : Txt B (g S 1 1) := by
    refine ⟨hi.1, fun j hj => ?_, fun j j1 j2 => ?_⟩
    · rw [hB]; show (if 0 ≤ j ∧ j < g S 1 1 then _ else _) = _; rw [if_neg (by omega)]
    · have e : B j = g S 2 j.toNat := by rw [hB]; show (if 0 ≤ j ∧ j < g S 1 1 then _ else _) = _; rw [if_pos ⟨j1, j2⟩]
      rw [e, hi.2.2 j j1 j2]; exact and255
  have txj : ∀ j, 0 ≤ j → j < g S 1 1 → g S 2 j.toNat = B j := fun j j1 j2 => by rw [hB]; show _ = (if 0 ≤ j ∧ j < g S 1 1 then _ else _); rw [if_pos ⟨j1, j2⟩]
  have tC : TxC B (g S 1 1) S := ⟨tx, rfl, txj⟩
  have tM : ∀ T, g T 514 14 = g S 514 14 → (∀ f, g T 523 f = g S 523 f) → TxM B (g S 1 1) T := fun T t1 t2 => ⟨tx, by rw [t1]; exact hi.2.1, fun j j1 j2 => by rw [t2, ← hi.2.2 j j1 j2]; exact txj j j1 j2⟩
  have hMS := hP.1.2
  rcases LDX tC (tM S rfl (fun _ => rfl)) hMS with ⟨X, Y0, V, c, x1, y0, cb, x2, ld0, dX, er0⟩ | ⟨X, Y0, Z0, x1, y0, x2, ld0, er0⟩
  · -- the class loads
    obtain ⟨X2, hX2⟩ : ∃ X2, X2 = u X 1 1 0 := ⟨_, rfl⟩
    have oX2 : Off X X2 1 2 := by rw [hX2]; exact Off.wt (by omega) (by omega)
    have vX2 : vC X2 34 = V := by
      have q := vC_off (s := 34) oX2 (by omega)
      rw [q]; exact dX.1.pl.1.2.1
    obtain ⟨X3, e3, o3, p3⟩ := P_become (S := X2) (p := 5) (s1 := 34) (.inl rfl) (.inr (.inl rfl)) (by omega) (by rw [vX2]; exact dX.2.1.1) (by rw [vX2]; exact dX.2.1.2.1)
    rw [vX2] at p3
    obtain ⟨X4, hX4⟩ : ∃ X4, X4 = u X3 63 2 0 := ⟨_, rfl⟩
    have eF : fn_FP_load 0 S = some (c, X4) := by
      unfold fn_FP_load
      rw [tg_0_0, x1, bnO_s, nm_x, tg_0_1, ← hX2, if_neg (by show ¬ c = -1; omega), tg_0_3, tg_61_1, tg_33_0, e3, bnO_s, tg_0_4]
      unfold fn_History_forget
      rw [nm_x, ← hX4, bnO_s]
    have oX : Off S X4 1 514 := by
      have q1 : Off S X 1 514 := x2.mono (by omega) (by omega)
      have q2 := q1.trans (oX2.mono (by omega) (by omega))
      have q3 := q2.trans (o3.mono (by omega) (by omega))
      rw [hX4]; exact q3.tu (by omega) (by omega)
    have mX : MV X4 W := by
      refine ⟨?_, hMS.2⟩
      rw [← hMS.1]
      exact vM_off oX (by omega)
    have tC' := tC
    rcases LDX tC (tM X4 (oX.rd (by omega)) (fun f => oX.rd (by omega))) mX with ⟨X', T', V', c', y1, y2, cb', x2', ld, dY, er⟩ | ⟨X', Y1, Z1, y1, y2, x2', ld1, er1⟩
    · rw [x1] at y1
      have yy := Option.some.inj y1
      have yc : c = c' := congrArg Prod.fst yy
      have yX : X = X' := congrArg Prod.snd yy
      rw [← yc] at y2
      rw [← yX] at dY er
      have eV : V' = V := by rw [← dY.1.pl.1.2.1]; exact dX.1.pl.1.2.1
      rw [eV] at dY
      obtain ⟨T2, hT2⟩ : ∃ T2, T2 = u (u T' 514 14 0) 514 3 0 := ⟨_, rfl⟩
      rw [← hT2] at y2
      have oT : Off X4 T2 514 516 := by rw [hT2]; exact (ld.1.tu (by omega) (by omega)).tu (by omega) (by omega)
      have k4 : ∀ f, f ≠ 3 → f ≠ 14 → g T2 514 f = g T' 514 f := fun f q1 q2 => by rw [hT2, g_ne (by omega), g_ne (by omega)]
      refine ⟨c, X4, T2, eF, y2, V, 0, hs, dX.2.1, fun j j0 j1 => by omega, ⟨?_, ?_⟩, ⟨⟨⟨by decide, by decide⟩, ?_, ?_, fun j j0 j1 => by omega⟩, ?_, fun j j0 j1 => by omega⟩, ⟨?_, ?_, fun j j0 j1 => ?_⟩, ⟨?_, ?_⟩, ⟨?_, ?_, fun j j0 j1 => ?_⟩⟩
      · have q : PT X4 5 V := by rw [hX4]; exact p3.off (Off.wt (lo := 63) (hi := 64) (by omega) (by omega)) (by omega)
        exact q.off oT (by omega)
      · exact dY.2.2.2.1.k514 (fun f => by rw [hT2, g_ne (by omega), g_ne (by omega)]) (k4 1 (by decide) (by decide)) (k4 2 (by decide) (by decide))
      · rw [oT.rd (by omega), hX4, g_eq, wr_0]
      · have q : g T2 63 1 = g S 63 1 := by rw [oT.rd (by omega), hX4, g_ne (by omega), o3.rd (by omega), oX2.rd (by omega), x2.rd (by omega)]
        rw [q]; exact hP.2.1.1.2.2.1
      · rw [hT2, g_eq, wr_0]
      · have q : g T2 1 1 = 0 := by rw [oT.rd (by omega), hX4, g_ne (by omega), o3.rd (by omega), hX2, g_eq, wr_0]
        rw [q]; decide
      · have q : g T2 1 1 = 0 := by rw [oT.rd (by omega), hX4, g_ne (by omega), o3.rd (by omega), hX2, g_eq, wr_0]
        rw [q, hT2, g_ne (by omega), g_eq, wr_0]
      · have q : g T2 1 1 = 0 := by rw [oT.rd (by omega), hX4, g_ne (by omega), o3.rd (by omega), hX2, g_eq, wr_0]
        rw [q] at j1
        omega
      · rw [k4 16 (by decide) (by decide), ← er.1, oT.rd (by omega), hX4, g_ne (by omega), o3.rd (by omega), oX2.rd (by omega)]
      · rw [k4 17 (by decide) (by decide), ← er.2, oT.rd (by omega), hX4, g_ne (by omega), o3.rd (by omega), oX2.rd (by omega)]
      · have q : g T2 3 1 = g S 3 1 := by rw [oT.rd (by omega), hX4, g_ne (by omega), o3.rd (by omega), oX2.rd (by omega), x2.rd (by omega)]
        rw [q]; exact hP.2.2.2.2.1
      · have q : g T2 3 1 = g S 3 1 := by rw [oT.rd (by omega), hX4, g_ne (by omega), o3.rd (by omega), oX2.rd (by omega), x2.rd (by omega)]
        rw [q, k4 12 (by decide) (by decide), ld.2.1.2, oX.rd (by omega)]
        exact hP.2.2.2.2.2.1
      · have q : g T2 3 1 = g S 3 1 := by rw [oT.rd (by omega), hX4, g_ne (by omega), o3.rd (by omega), oX2.rd (by omega), x2.rd (by omega)]
        rw [q] at j1
        rw [oT.rd (by omega), hX4, g_ne (by omega), o3.rd (by omega), oX2.rd (by omega), x2.rd (by omega), oT.rd (a := 522) (by omega), oX.rd (a := 522) (by omega)]
        exact hP.2.2.2.2.2.2 j j0 j1
    · rw [x1] at y1
      have yy := Option.some.inj y1
      have yc : c = -1 := congrArg Prod.fst yy
      omega
  · -- the class says no
    obtain ⟨X2, hX2⟩ : ∃ X2, X2 = u X 1 1 0 := ⟨_, rfl⟩
    have oX2 : Off X X2 1 2 := by rw [hX2]; exact Off.wt (by omega) (by omega)
    have eF : fn_FP_load 0 S = some (-3, X2) := by
      unfold fn_FP_load
      rw [tg_0_0, x1, bnO_s, nm_x, tg_0_1, ← hX2, if_pos rfl]
    have oX : Off S X2 1 63 := (x2.mono (by omega) (by omega)).trans (oX2.mono (by omega) (by omega))
    have mX : MV X2 W := by
      refine ⟨?_, hMS.2⟩
      rw [← hMS.1]
      exact vM_off oX (by omega)
    rcases LDX tC (tM X2 (oX.rd (by omega)) (fun f => oX.rd (by omega))) mX with ⟨X', T', V', c', y1, y2, cb', x2', ld1, dY, er1⟩ | ⟨X', T', T2, y1, y2, x2', ld, er⟩
    · rw [x1] at y1
      have yy := Option.some.inj y1
      have yc : -1 = c' := congrArg Prod.fst yy
      omega
    · rw [x1] at y1
      have yX : X = X' := congrArg Prod.snd (Option.some.inj y1)
      rw [← yX] at er
      obtain ⟨oT, ⟨t1, t2, t3, t12⟩, t4, t14, th, tmv, t16, t17⟩ := ld
      refine ⟨-3, X2, T2, eF, y2, W, n, hs, hG, hH, ⟨?_, tmv⟩, ⟨?_, ?_⟩, ⟨?_, ?_, fun j j0 j1 => ?_⟩, ⟨?_, ?_⟩, ⟨?_, ?_, fun j j0 j1 => ?_⟩⟩
      · have q1 : PT X 5 W := hP.1.1.off x2 (by omega)
        exact (q1.off oX2 (by omega)).off oT (by omega)
      · exact ((hP.2.1.1.off (x2 : Off S X 33 63) (by omega)).off oX2 (by omega)).off oT (by omega)
      · have hb := hP.2.1.1.1.2
        have q := HMo_keep (T := S) (T' := T2) hP.2.1.2 hH hb (by rw [t1, oX.rd (by omega)]) (by rw [t2, oX.rd (by omega)]) (by rw [t3, oX.rd (by omega)]) (fun f hf => by rw [th f (by omega), oX.rd (by omega)])
        exact q
      · have q : g T2 1 1 = 0 := by rw [oT.rd (by omega), hX2, g_eq, wr_0]
        rw [q]; decide
      · rw [t14, oT.rd (by omega), hX2, g_eq, wr_0]
      · have q : g T2 1 1 = 0 := by rw [oT.rd (by omega), hX2, g_eq, wr_0]
        rw [q] at j1
        omega
      · rw [t16, ← er.1, oT.rd (by omega), oX2.rd (by omega)]
      · rw [t17, ← er.2, oT.rd (by omega), oX2.rd (by omega)]
      · have q : g T2 3 1 = g S 3 1 := by rw [oT.rd (by omega), oX2.rd (by omega), x2.rd (by omega)]
        rw [q]; exact hP.2.2.2.2.1
      · have q : g T2 3 1 = g S 3 1 := by rw [oT.rd (by omega), oX2.rd (by omega), x2.rd (by omega)]
        rw [q, t12, oX.rd (by omega)]
        exact hP.2.2.2.2.2.1
      · have q : g T2 3 1 = g S 3 1 := by rw [oT.rd (by omega), oX2.rd (by omega), x2.rd (by omega)]
        rw [q] at j1
        rw [oT.rd (by omega), oX2.rd (by omega), x2.rd (by omega), oT.rd (a := 522) (by omega), oX.rd (a := 522) (by omega)]
        exact hP.2.2.2.2.2.2 j j0 j1
end Load
