/-! load: the plan's statement, and the whole text -/
section Plan9
variable {B : Int → Int} {L p s n v z c : Int} {S S' S0 T T' T0 : St} {V V' W : Vw} {a : Int}
/-- the first block is empty -/
def CB (T : St) : Prop := ∀ x : Nat, x < 380 → g T 515 x = if 5 ≤ x ∧ x < 29 ∧ (x - 5) % 3 = 2 then -1 else 0
theorem M_clearB : ∃ T', fn_Mo_clearBlock 514 0 T = some T' ∧ Off T T' 515 516 ∧ CB T' ∧ ∀ f, 380 ≤ f → g T' 515 f = g T 515 f := by
  obtain ⟨T1, e1, hI⟩ := lp_inv (body := fun go p0 => lb_Mo_clearBlock_2 514 0 go p0.1 p0.2) (fun i (s : St) => (i, s)) (fun s => s)
    (fun i s => 0 ≤ i ∧ Off T s 515 516 ∧ (∀ x : Nat, (x : Int) < i → g s 515 x = 0) ∧ ∀ f, 380 ≤ f → g s 515 f = g T 515 f) 380
    (fun go i s hI hi => by
      show lb_Mo_clearBlock_2 514 0 go i s = _
      unfold lb_Mo_clearBlock_2
      rw [if_pos hi])
    (fun go i s hI hi => by
      obtain ⟨h0, h1, h2, h3⟩ := hI
      refine ⟨u s 515 i.toNat 0, ?_, by omega, h1.tu (by omega) (by omega), fun x hx => ?_, fun f hf => ?_⟩
      · show lb_Mo_clearBlock_2 514 0 go i s = _
        unfold lb_Mo_clearBlock_2
        rw [if_neg (by omega), show (380 : Int) * 0 + i = i by omega, if_pos (by omega), nm_x, nm_x, tg_514_0, wr_s (z := i + 1) (by omega) (by omega)]
      · by_cases c : x = i.toNat
        · rw [c, g_eq, wr_0]
        · rw [g_ne (by omega)]; exact h2 x (by omega)
      · rw [g_ne (by omega)]; exact h3 f hf)
    ((380 : Int) - 0).toNat FU 0 T ⟨Int.le_refl _, Off.refl, fun x hx => by omega, fun _ _ => rfl⟩ (by decide) rfl (FU_lt (by omega))
  obtain ⟨T2, e2, hJ⟩ := lp_inv (body := fun go p0 => lb_Mo_clearBlock_30 514 0 go p0.1 p0.2) (fun i (s : St) => (i, s)) (fun s => s)
    (fun i s => 0 ≤ i ∧ Off T1 s 515 516 ∧ (∀ x : Nat, x < 380 → g s 515 x = if 5 ≤ x ∧ (x : Int) < 5 + 3 * i ∧ (x - 5) % 3 = 2 then -1 else 0) ∧ ∀ f, 380 ≤ f → g s 515 f = g T1 515 f) 8
    (fun go i s hI hi => by
      show lb_Mo_clearBlock_30 514 0 go i s = _
      unfold lb_Mo_clearBlock_30
      rw [if_pos hi])
    (fun go i s hI hi => by
      obtain ⟨h0, h1, h2, h3⟩ := hI
      refine ⟨u s 515 (5 + 3 * i + 2).toNat (-1), ?_, by omega, h1.tu (by omega) (by omega), fun x hx => ?_, fun f hf => ?_⟩
      · show lb_Mo_clearBlock_30 514 0 go i s = _
        unfold lb_Mo_clearBlock_30
        rw [if_neg (by omega), show (380 : Int) * 0 + 5 + 3 * i + 2 = 5 + 3 * i + 2 by omega, if_pos (by omega), nm_x, nm_x, tg_514_0, wr_s (z := i + 1) (by omega) (by omega)]
      · by_cases c : x = (5 + 3 * i + 2).toNat
        · rw [c, g_eq, if_pos (by omega)]
          exact wr_s (by decide) (by decide)
        · rw [g_ne (by omega), h2 x hx]
          by_cases d : 5 ≤ x ∧ (x : Int) < 5 + 3 * i ∧ (x - 5) % 3 = 2
          · rw [if_pos d, if_pos ⟨d.1, by omega, d.2.2⟩]
          · rw [if_neg d, if_neg (fun w => d ⟨w.1, by omega, w.2.2⟩)]
      · rw [g_ne (by omega)]; exact h3 f hf)
    ((8 : Int) - 0).toNat FU 0 T1 ⟨Int.le_refl _, Off.refl, fun x hx => by rw [hI.2.2.1 x (by omega), if_neg (by omega)], fun _ _ => rfl⟩ (by decide) rfl (FU_lt (by omega))
  have e1' : lo_Mo_clearBlock_2 514 0 FU (0, T) = some T1 := e1
  have e2' : lo_Mo_clearBlock_30 514 0 FU (0, T1) = some T2 := e2
  refine ⟨T2, ?_, hI.2.1.trans hJ.2.1, fun x hx => ?_, fun f hf => ?_⟩
  · unfold fn_Mo_clearBlock
    rw [e1', bnO_s, e2', bnO_s]
  · rw [hJ.2.2.1 x hx]
    by_cases d : 5 ≤ x ∧ x < 29 ∧ (x - 5) % 3 = 2
    · rw [if_pos d, if_pos ⟨d.1, by omega, d.2.2⟩]
    · rw [if_neg d, if_neg (fun w => d ⟨w.1, by omega, w.2.2⟩)]
  · rw [hJ.2.2.2 f hf]; exact hI.2.2.2 f hf
theorem CB_z (h : CB T) {x : Nat} (hx : x < 380) (hn : ¬ (5 ≤ x ∧ x < 29 ∧ (x - 5) % 3 = 2)) : g T 515 x = 0 := by rw [h x hx, if_neg hn]
theorem vM_em (h : CB T) {e : Int} (h1 : g T 514 1 = s) (h2 : g T 514 2 = e) (hs : 1 ≤ s ∧ s ≤ 4) : vM T 0 = emV s e := by
  have z1 : g T 515 1 = 0 := CB_z h (by omega) (by omega)
  have z2 : g T 515 2 = 0 := CB_z h (by omega) (by omega)
  have z3 : g T 515 3 = 0 := CB_z h (by omega) (by omega)
  have z0 : g T 515 0 = 0 := CB_z h (by omega) (by omega)
  have z4 : g T 515 4 = 0 := CB_z h (by omega) (by omega)
  funext k i
  unfold vM emV
  simp only [Nat.mul_zero, Nat.zero_add]
  by_cases k1 : k < 7
  · rw [if_pos k1, z1, if_neg (by omega), if_neg (by omega), if_neg (by omega)]
  · rw [if_neg k1]
    by_cases k2 : k < 12
    · rw [if_pos k2, z2, if_neg (by omega), if_neg (by omega), if_neg (by omega)]
    · rw [if_neg k2]
      by_cases k3 : k < 14
      · rw [if_pos k3, z3, if_neg (by omega), if_neg (by omega), if_neg (by omega)]
      · rw [if_neg k3]
        by_cases k4 : k < 17
        · rw [if_pos k4, h1]
          by_cases c : (i : Int) < 2 * s
          · rw [if_pos c, h _ (by omega)]
            by_cases k5 : k = 16
            · rw [if_pos k5, if_pos c, if_pos (by omega)]
            · rw [if_neg k5, if_neg (c := k = 17) (by omega), if_neg (by omega)]
          · rw [if_neg c]
            by_cases k5 : k = 16
            · rw [if_pos k5, if_neg c]
            · rw [if_neg k5, if_neg (c := k = 17) (by omega)]
        · rw [if_neg k4, if_neg (c := k = 16) (by omega)]
          by_cases k6 : 17 < k
          · rw [if_pos k6, if_neg (by omega)]
          · rw [if_neg k6, if_pos (by omega), z1, z2, z3, h1, h2, z0, z4]
            exact cntV_em i
theorem BZ_em (h : CB T) {e : Int} : BZ (emV s e) T := by
  obtain ⟨n1, n2, n3, -⟩ := emV_n (s := s) (e := e)
  refine ⟨fun a a1 a2 => ?_, fun a a1 a2 => ?_, fun a a1 a2 => ?_⟩
  · rw [n1] at a1; exact CB_z h (by omega) (by omega)
  · rw [n2] at a1; exact CB_z h (by omega) (by omega)
  · rw [n3] at a1; exact CB_z h (by omega) (by omega)
theorem Dft_em (hp : PT S 33 (emV s z)) (h : CB T) (h1 : g T 514 1 = s) (h2 : g T 514 2 = z) (hs : 1 ≤ s ∧ s ≤ 4) (hz : z = 4 ∨ z = 8 ∨ z = 16) : Dft (emV s z) S T := ⟨hp, Good_em hs hz, rfl, ⟨vM_em h h1 h2 hs, (Good_em hs hz).1⟩, BZ_em h⟩
theorem St2.f12 (h : St2 B L S0 T0 p S T) {f : Nat} (hf : f = 1 ∨ f = 2) : St2 B L S0 T0 p S (u T 514 f z) := by
  obtain ⟨h1, ⟨h3, h4⟩, h5, h6, h7, h8⟩ := h
  obtain ⟨k1, k2, k3, k4, k5⟩ := h7
  exact ⟨h1, ⟨h3.fl (FlM.w4 (by omega)), h4.trans (FlM.w4 (by omega))⟩, h5, h6, ⟨by rw [g_ne (by omega)]; exact k1, by rw [g_ne (by omega)]; exact k2, by rw [g_ne (by omega)]; exact k3, k4, k5⟩, by rw [g_ne (by omega)]; exact h8.1, by rw [g_ne (by omega)]; exact h8.2⟩
theorem PLAN (h : Cu2 B L S0 T0 s S T) (hb : CB T) : RES S0 T0 (Done B L S0 T0 s) (fn_Reader_readPlan 61 S) (fn_Mo_readPlan 514 T) := by
  have L6 := h.1.1.1.1
  have tb := tkE_b h.1.1.1 h.2.2.1
  obtain ⟨T1, e1, r1, k1⟩ := M_next (p := tkE B L s) h.2.1.1 h.2.2.2.2.1.2.1 (by have := h.2.2.1; omega)
  have st : St2 B L S0 T0 (tkE B L s) S T1 := ⟨h.1, ⟨h.2.1.1.ra r1, h.2.1.2.trans r1.fl⟩, by have := h.2.2.1; omega, h.2.2.2.1.2.1, k1, by rw [r1.2 16 (by decide) (by decide) (by decide)]; exact h.2.2.2.2.2.1, by rw [r1.2 17 (by decide) (by decide) (by decide)]; exact h.2.2.2.2.2.2⟩
  unfold fn_Reader_readPlan fn_Mo_readPlan
  rw [e1, bnO_s]
  refine NUM (i := 0) (by decide) st (fun _ => rfl) (fun _ => rfl) (fun S1 T2 v0 hN => ?_)
  have hr := hN.rg
  have lt0 := hN.lt
  have st1 := hN.st.f12 (z := v0) (f := 1) (.inl rfl)
  obtain ⟨T3, hT3⟩ : ∃ T3, T3 = u T2 514 1 v0 := ⟨_, rfl⟩
  have b3 : ∀ x, g T3 515 x = g T 515 x := fun x => by rw [hT3, g_ne (by omega), hN.mf.rd (by omega), r1.1.rd (by omega)]
  have f31 : g T3 514 1 = v0 := by rw [hT3, g_eq, wr_s (by omega) (by omega)]
  rw [← hT3] at st1
  obtain ⟨p1, hp1⟩ : ∃ p1, p1 = tkE B L (tkS B L (tkE B L s)) := ⟨_, rfl⟩
  rw [← hp1] at st1 lt0
  have tk1 := st1.2.2.2.2.1
  have pb1 := st1.2.2.1
  have sb1 := tkS_b (B := B) pb1
  rw [bnO_s, bnO_s, if_pos rfl, if_pos rfl, nm_x, hN.m]
  show RES S0 T0 _ _ (if g (u T2 514 1 v0) 514 18 = 2 then _ else _)
  rw [← hT3, tk1.2.2.1]
  -- the two numbers are read
  have good : ∀ (km : Bool × St → Option (Bool × St)), (km = fun p9 => if p9.1 = true then (nm (u p9.2 514 2 (g p9.2 514 20)) fun S11 => bnO (fn_Mo_readEnd 514 S11) fun p12 => some (p12.1, p12.2)) else some (false, p9.2)) → (tkK B L (tkS B L p1) = 2 → (vl B L (tkS B L p1) = 4 ∨ vl B L (tkS B L p1) = 8 ∨ vl B L (tkS B L p1) = 16)) →
      RES S0 T0 (Done B L S0 T0 s) (bnO (fn_Reader_readNumber 61 1 4 16 S1) fun p3 => if p3.1 = true then (if (g p3.2 (tgt 61 2) 1) = 4 then (bnO (fn_Plan_begin (tgt 61 1) (g p3.2 (tgt 61 2) 0) (g p3.2 (tgt 61 2) 1) p3.2) fun p5 => bnO (fn_Reader_readSemicolon 61 p5) fun p6 => some (p6.1, p6.2)) else (if (g p3.2 (tgt 61 2) 1) = 8 then (bnO (fn_Plan_begin (tgt 61 1) (g p3.2 (tgt 61 2) 0) (g p3.2 (tgt 61 2) 1) p3.2) fun p7 => bnO (fn_Reader_readSemicolon 61 p7) fun p8 => some (p8.1, p8.2)) else (if (g p3.2 (tgt 61 2) 1) = 16 then (bnO (fn_Plan_begin (tgt 61 1) (g p3.2 (tgt 61 2) 0) (g p3.2 (tgt 61 2) 1) p3.2) fun p9 => bnO (fn_Reader_readSemicolon 61 p9) fun p10 => some (p10.1, p10.2)) else (bnO (fn_Reader_fail 61 2 p3.2) fun p11 => some (p11.1, p11.2))))) else (some (false, p3.2)))
        (bnO (fn_Mo_readNumber 514 4 16 T3) km) := fun km hkm hv => by
    refine NUM (i := 1) (by decide) st1 (fun _ => rfl) (fun _ => by rw [hkm]; rfl) (fun S3 T4 v1 hN1 => ?_)
    have vs : v1 = 4 ∨ v1 = 8 ∨ v1 = 16 := by rw [hN1.vv]; exact hv hN1.kk
    have c0 : g S3 62 0 = v0 := by rw [hN1.co 0 (by decide)]; exact hN.c
    have lt1 := hN1.lt
    obtain ⟨S4, e4, o4, p4⟩ := P_begin (S := S3) (q := 33) (s := v0) (e := v1) (.inr rfl) hr vs
    obtain ⟨T5, hT5⟩ : ∃ T5, T5 = u T4 514 2 v1 := ⟨_, rfl⟩
    have st5 : St2 B L S0 T0 (tkE B L (tkS B L p1)) S4 T5 := by rw [hT5]; exact (hN1.st.f12 (z := v1) (f := 2) (.inr rfl)).c (o4.mono (by omega) (by omega))
    have cb5 : CB T5 := fun x hx => by rw [hT5, g_ne (by omega), hN1.mf.rd (by omega), b3]; exact hb x hx
    have f51 : g T5 514 1 = v0 := by rw [hT5, g_ne (by omega), hN1.mg 1 (by decide) (by decide) (by decide) (by decide)]; exact f31
    have f52 : g T5 514 2 = v1 := by rw [hT5, g_eq, wr_s (by omega) (by omega)]
    have dd := Dft_em p4 cb5 f51 f52 hr vs
    have fin := FIN (s := s) st5 dd (by omega)
    have em : bnO (some (true, T4)) km = fn_Mo_readEnd 514 T5 := by
      rw [hkm, bnO_s, if_pos rfl, nm_x, hN1.m, ← hT5, bnO_eta]
    rw [em, bnO_s, if_pos rfl, tg_61_2, tg_61_1, hN1.c, c0]
    rcases vs with q | q | q
    · rw [if_pos q, e4, bnO_s, bnO_eta]; exact fin
    · rw [if_neg (by omega), if_pos q, e4, bnO_s, bnO_eta]; exact fin
    · rw [if_neg (by omega), if_neg (by omega), if_pos q, e4, bnO_s, bnO_eta]; exact fin
  by_cases c : tkK B L (tkS B L p1) = 2
  · have ev : gl T3 514 21 = vl B L (tkS B L p1) := tk1.2.2.2.2 c
    rw [if_pos c, ev]
    by_cases v4 : vl B L (tkS B L p1) = 4
    · rw [if_pos v4]
      exact good _ rfl (fun _ => .inl v4)
    · rw [if_neg v4]
      by_cases v8 : vl B L (tkS B L p1) = 8
      · rw [if_pos v8]
        exact good _ rfl (fun _ => .inr (.inl v8))
      · rw [if_neg v8]
        by_cases v16 : vl B L (tkS B L p1) = 16
        · rw [if_pos v16]
          exact good _ rfl (fun _ => .inr (.inr v16))
        · rw [if_neg v16, bnO_eta]
          have h19 := tk1.1
          rcases C_num (lo := 4) (hi := 16) (i := 1) (by decide) st1.1.1 st1.2.2.2.1 pb1 with ⟨a1, S', a2, a3, a4, a5, a6, a7⟩ | ⟨a1, S', c', a2, ac, a3, a5⟩
          · have a2' : fn_Reader_readNumber 61 1 4 16 S1 = some (true, S') := a2
            rw [a2', bnO_s, if_pos rfl, tg_61_2, a6, if_neg v4, if_neg v8, if_neg v16, bnO_eta]
            exact RES_fail (st1.1.2.trans (a3.mono (by omega) (by omega))) st1.2.1.2 (by rw [a5, h19]) (by rw [h19]; omega) (by omega)
          · have a2' : fn_Reader_readNumber 61 1 4 16 S1 = fn_Reader_fail 61 c' S' := a2
            rw [if_pos c] at ac
            rw [a2', ac]
            have q := RES_fail (R := Done B L S0 T0 s) (c := 2) (st1.1.2.trans (a3.mono (by omega) (by omega))) st1.2.1.2 (by rw [a5, h19]) (by rw [h19]; omega) (by omega)
            rcases q with ⟨X, Y, q1, -, -⟩ | ⟨X, Y, q1, q2, q3⟩
            · have q1' : some (false, _) = some (true, X) := q1
              cases q1'
            · rw [q1, q2, bnO_s, if_neg Bool.false_ne_true]
              exact .inr ⟨X, Y, rfl, rfl, q3⟩
  · rw [if_neg c]
    exact good _ rfl (fun w => absurd w c)
end Plan9
