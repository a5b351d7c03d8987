/-! load: statements that add an item -/
section Adds
variable {B : Int → Int} {L p s n v z lo hi : Int} {S S' S0 T T' T0 : St} {V V' W : Vw} {a : Int}
theorem RES_failk {R : St → St → Prop} {c : Int} {k km : Bool × St → Option (Bool × St)} (hC : FlC S0 S) (hM : FlM T0 T) (h5 : g S 61 5 = g T 514 19) (hb : 0 ≤ g T 514 19 ∧ g T 514 19 ≤ 1600) (hc : 0 ≤ c ∧ c ≤ 9) (k0 : ∀ S', k (false, S') = some (false, S')) (km0 : ∀ T', km (false, T') = some (false, T')) : RES S0 T0 R (bnO (fn_Reader_fail 61 c S) k) (bnO (fn_Mo_fail 514 c T) km) := by
  have q := RES_fail (R := fun _ _ => False) hC hM h5 hb hc
  rcases q with ⟨X, Y, -, -, q3⟩ | ⟨X, Y, q1, q2, q3⟩
  · exact q3.elim
  · rw [q1, q2, bnO_s, bnO_s, k0, km0]
    exact .inr ⟨X, Y, rfl, rfl, q3⟩
theorem bnO_as {x : Option (Bool × St)} {f k : Bool × St → Option (Bool × St)} : bnO (bnO x f) k = bnO x (fun q => bnO (f q) k) := by cases x <;> rfl
/-- a size is a number, and then a size -/
def rSz (S : St) : Option (Bool × St) := bnO (fn_Reader_readNumber 61 0 1 4 S) fun p1 => if p1.1 = true then (bnO (fn_FP_isSize (g p1.2 (tgt 61 2) 0) p1.2) fun p3 => if p3 = true then (some (true, p1.2)) else (bnO (fn_Reader_fail 61 2 p1.2) fun p5 => if p5.1 = true then (some (true, p5.2)) else (some (false, p5.2)))) else (some (false, p1.2))
theorem rSz_eq {K : Bool × St → Option (Bool × St)} (k0 : ∀ S', K (false, S') = some (false, S')) : (bnO (fn_Reader_readNumber 61 0 1 4 S) fun p1 => if p1.1 = true then (bnO (fn_Reader_firstIsSize 61 p1.2) K) else (some (false, p1.2))) = bnO (rSz S) K := by
  unfold rSz
  rw [bnO_as]
  refine congrArg (bnO _) (funext (fun p1 => ?_))
  by_cases c : p1.1 = true
  · rw [if_pos c, if_pos c]; rfl
  · rw [if_neg c, if_neg c, bnO_s, k0]
theorem SIZE {R : St → St → Prop} {k km : Bool × St → Option (Bool × St)} {a : Int} (ha : 0 ≤ a ∧ a < 380) (h : St2 B L S0 T0 p S T) (k0 : ∀ S', k (false, S') = some (false, S')) (km0 : ∀ T', km (false, T') = some (false, T')) (hs : ∀ S' T' T1 v, NumR B L S0 T0 p S T 0 1 4 S' T1 v → (v = 1 ∨ v = 2 ∨ v = 4) → St2 B L S0 T0 (tkE B L (tkS B L p)) S' T' → (∀ f, g T' 515 f = if f = a.toNat then v else g T 515 f) → (∀ f, g T' 514 f = g T1 514 f) → RES S0 T0 R (bnO (some (true, S')) k) (bnO (some (true, T')) km)) :
    RES S0 T0 R (bnO (rSz S) k) (bnO (fn_Mo_readSize 514 a T) km) := by
  have sb := tkS_b (B := B) h.2.2.1
  have b := h.1.1.1.1
  have hm := h.2.2.2.2.1
  have s0 : 0 ≤ tkS B L p ∧ tkS B L p ≤ L := by have := h.2.2.1; omega
  have h19 := hm.1
  unfold rSz fn_Mo_readSize
  rw [bnO_as, hm.2.2.1]
  by_cases c : tkK B L (tkS B L p) = 2
  · have vb := vl_b h.1.1.1 s0 c
    have ev : gl T 514 21 = vl B L (tkS B L p) := hm.2.2.2.2 c
    rw [if_pos c, nm_x, ev, wr_s (by omega) (by omega), M_isSize, bnO_s]
    by_cases c2 : vl B L (tkS B L p) = 1 ∨ vl B L (tkS B L p) = 2 ∨ vl B L (tkS B L p) = 4
    · rw [if_pos (decide_eq_true c2), bnO_eta]
      refine INTO (i := 0) ha (by decide) h (fun S' => ?_) km0 (fun S' T' T1 v hN st hw h4 => ?_)
      · rw [if_neg Bool.false_ne_true, bnO_s]; exact k0 S'
      · have hv : v = 1 ∨ v = 2 ∨ v = 4 := by rw [hN.vv]; exact c2
        have e2 : fn_FP_isSize (g S' (tgt 61 2) 0) S' = some true := by rw [tg_61_2, hN.c, F_isSize, decide_eq_true hv]
        have q := hs S' T' T1 v hN hv st hw h4
        rw [bnO_s, if_pos rfl, e2, bnO_s, if_pos rfl]
        exact q
    · rw [if_neg (by rw [decide_eq_true_eq]; exact c2), bnO_eta]
      rcases C_num (lo := 1) (hi := 4) (i := 0) (by decide) h.1.1 h.2.2.2.1 h.2.2.1 with ⟨a1, S', a2, a3, a4, a5, a6, a7⟩ | ⟨a1, S', c', a2, ac, a3, a5⟩
      · have a2' : fn_Reader_readNumber 61 0 1 4 S = some (true, S') := a2
        have e2 : fn_FP_isSize (g S' (tgt 61 2) 0) S' = some false := by rw [tg_61_2, a6, F_isSize, decide_eq_false c2]
        rw [a2', bnO_s, if_pos rfl, e2, bnO_s, if_neg Bool.false_ne_true, bnO_ite]
        exact RES_failk (h.1.2.trans (a3.mono (by omega) (by omega))) h.2.1.2 (by rw [a5, h19]) (by rw [h19]; omega) (by omega) k0 km0
      · have a2' : fn_Reader_readNumber 61 0 1 4 S = fn_Reader_fail 61 c' S' := a2
        rw [if_pos c] at ac
        rw [a2', ac]
        refine RES_failk (h.1.2.trans (a3.mono (by omega) (by omega))) h.2.1.2 (by rw [a5, h19]) (by rw [h19]; omega) (by omega) (fun S' => ?_) km0
        rw [if_neg Bool.false_ne_true, bnO_s]; exact k0 S'
  · rw [if_neg c, bnO_eta]
    refine INTO (i := 0) ha (by decide) h (fun S' => ?_) km0 (fun S' T' T1 v hN st hw h4 => absurd hN.kk c)
    rw [if_neg Bool.false_ne_true, bnO_s]; exact k0 S'
theorem ST_standby (h : Cu2 B L S0 T0 s S T) (hd : Dft V S T) : RES S0 T0 (Done B L S0 T0 s) (fn_Reader_readStandby 61 S) (fn_Mo_readStandby 514 T) := by
  have b := hd.1.pl.b
  have gn : g S 49 2 = nB V := hd.1.pl.mB
  have tb := tkE_b h.1.1.1 h.2.2.1
  have mt : g T 515 3 = nB V := hd.2.2.2.1.mB
  have L6 := h.1.1.1.1
  unfold fn_Reader_readStandby fn_Mo_readStandby
  rw [tg_61_1, tg_33_0, tg_34_2, gn, tg_514_0, mt]
  by_cases full : nB V = 8
  · rw [if_neg (by omega), if_pos full, bnO_eta, bnO_eta]
    exact RES_fail h.1.2 h.2.1.2 (by rw [h.2.2.2.1.1, h.2.2.2.2.1.1]) (by rw [h.2.2.2.2.1.1]; have := h.2.2.1; omega) (by omega)
  rw [if_pos (by omega), if_neg full]
  obtain ⟨X0, e1, st0, d0, r1⟩ := ADV h hd
  have m0 : g X0 515 3 = nB V := d0.2.2.2.1.mB
  obtain ⟨N, hN⟩ : ∃ N : Nat, nB V = (N : Int) := ⟨(nB V).toNat, by omega⟩
  rw [e1, bnO_s, m0, nm_x, wr_s (z := 359 + 2 * nB V) (by omega) (by omega)]
  rw [rSz_eq]
  rotate_left
  · exact fun _ => rfl
  refine SIZE (a := 359 + 2 * nB V) (by omega) st0 (fun _ => rfl) (fun _ => rfl) (fun S1 X1 Y1 v0 hN0 hsz st1 hw0 h40 => ?_)
  have d1 : PT S1 33 V := d0.1.off hN0.cf (by omega)
  have hr0 := hN0.rg
  have vb0 := hN0.vb
  have lt0 := hN0.lt
  rw [bnO_s, bnO_s, if_pos rfl, if_pos rfl]
  have c0 : g S1 62 0 = v0 := by rw [hN0.c]
  obtain ⟨F, hF⟩ : ∃ F : Nat → Int, F = fun k : Nat => if k = 12 then v0 else 0 := ⟨_, rfl⟩
  have f12 : F 12 = v0 := by rw [hF]; rfl
  have f13 : F 13 = 0 := by rw [hF]; rfl
  have bz := d0.2.2.2.2
  obtain ⟨X7, hX7⟩ : ∃ X7, X7 = u X1 515 3 (nB V + 1) := ⟨_, rfl⟩
  have mk : g X1 515 3 = nB V := by rw [hw0, if_neg (by omega)]; exact m0
  have oth7 : ∀ f, f < 380 → f ≠ 3 → ¬ (359 + 2 * N ≤ f ∧ f < 359 + 2 * N + 2) → g X7 515 f = g X0 515 f := fun f f1 f2 f3 => by
    rw [hX7, g_ne (by omega), hw0, if_neg (by omega)]
  have q1 : g X7 514 1 = g X0 514 1 := by rw [hX7, g_ne (by omega), h40, hN0.mg 1 (by decide) (by decide) (by decide) (by decide)]
  have q2 : g X7 514 2 = g X0 514 2 := by rw [hX7, g_ne (by omega), h40, hN0.mg 2 (by decide) (by decide) (by decide) (by decide)]
  have mv : vM X7 0 = nwB V F := by
    have q := vM_nwB (T := X0) (T' := X7) (N := N) (F := F) d0.2.2.2.1.mb (by rw [m0, hN]) (by omega) (by rw [hX7, g_eq, wr_s (by omega) (by omega), hN]) (fun k k1 k2 => by
      rw [hX7, g_ne (by omega)]
      have kc : k = 12 ∨ k = 13 := by omega
      rcases kc with rfl | rfl
      · rw [hw0, if_pos (by omega), f12]
      · rw [hw0, if_neg (by omega), f13, show 359 + 2 * N + (13 - 12) = (360 + 2 * (nB V)).toNat by omega]
        exact bz.2.2 _ (Int.le_refl _) (by omega)) oth7 q1 q2
    rw [d0.2.2.2.1.1] at q
    unfold nwB
    rw [hN]
    exact q
  have en : g S1 49 2 = nB V := d1.pl.mB
  obtain ⟨A1, hA1⟩ : ∃ A1, A1 = u S1 50 (nB V).toNat v0 := ⟨_, rfl⟩
  obtain ⟨A2, hA2⟩ : ∃ A2, A2 = u A1 51 (nB V).toNat 0 := ⟨_, rfl⟩
  obtain ⟨A3, hA3⟩ : ∃ A3, A3 = u A2 49 2 (nB V + 1) := ⟨_, rfl⟩
  have o1 : Off S1 A1 50 52 := by rw [hA1]; exact Off.wt (by omega) (by omega)
  have o2 : Off S1 A2 50 52 := by rw [hA2]; exact o1.tu (by omega) (by omega)
  have o3 : Off S1 A3 49 52 := by rw [hA3]; exact (o2.mono (by omega) (by omega)).tu (by omega) (by omega)
  have eadd : fn_Standbys_add 49 v0 S1 = some A3 := by
    have g1 : g A1 49 2 = nB V := by rw [o1.rd (by omega)]; exact en
    have g2 : g A2 49 2 = nB V := by rw [o2.rd (by omega)]; exact en
    have cc : 0 ≤ nB V ∧ nB V < 8 := by omega
    unfold fn_Standbys_add
    rw [en, if_neg (by omega), if_pos cc, tg_49_0, tg_49_1, nm_x, ← hA1, g1, if_pos cc, nm_x, ← hA2, g2, nm_x, ← hA3]
  have cnt : g A3 49 2 = nB V + 1 := by rw [hA3, g_eq, wr_s (by omega) (by omega)]
  have old : ∀ c f, ¬ (f = N ∧ 50 ≤ c ∧ c < 52) → ¬ (c = 49 ∧ f = 2) → g A3 c f = g S1 c f := fun c f q1 q2 => by
    rw [hA3, g_ne (by omega), hA2, g_ne (by omega), hA1, g_ne (by omega)]
  have NN : (nB V).toNat = N := by omega
  have vv : vC A3 34 = nwB V F := by
    have q := vC_nwB (S := S1) (S' := A3) (s := 34) (N := N) (F := F) (by show g S1 49 2 = _; rw [en, hN]) (by show g A3 49 2 = _; rw [cnt, hN]) (fun k k1 k2 => by
      have kc : k = 12 ∨ k = 13 := by omega
      rcases kc with rfl | rfl
      · show g A3 50 N = _
        rw [hA3, g_ne (by omega), hA2, g_ne (by omega), hA1, NN, g_eq, f12, wr_s (by omega) (by omega)]
      · show g A3 51 N = _
        rw [hA3, g_ne (by omega), hA2, NN, g_eq, f13, wr_0]) (fun k i k1 k2 ki => old _ _ (by omega) (by omega)) (fun c f hc => old c f (by omega) (by omega))
    have v6 : vC S1 34 = V := d1.pl.1.2.1
    rw [v6] at q
    unfold nwB
    rw [hN]
    exact q
  have hG' := Good_nwB (F := F) d0.2.1 (by omega) (by rw [f12]; exact hsz) f13
  obtain ⟨n1, n2, n3, n4, n5, n6⟩ := nwB_n (V := V) (F := F)
  have pt : PT A3 33 (nwB V F) := PT_same d1 vv hG'.1 hG'.2.1 (o3.mono (by omega) (by omega)) n4 n5 (fun q q1 _ => rawR_nwB d1.v f13 q1) (fun q => stOn_nwB d1.v) (fun y s => grp_nwB d1.v)
  have st7 : St2 B L S0 T0 (tkE B L (tkS B L (tkE B L s))) A3 X7 := by rw [hX7]; exact (st1.c (o3.mono (by omega) (by omega))).m (by omega)
  have bz7 : BZ (nwB V F) X7 := by
    refine ⟨fun a a1 a2 => ?_, fun a a1 a2 => ?_, fun a a1 a2 => ?_⟩
    · rw [n1] at a1
      rw [oth7 _ (by omega) (by omega) (by omega)]; exact bz.1 a a1 a2
    · rw [n2] at a1
      rw [oth7 _ (by omega) (by omega) (by omega)]; exact bz.2.1 a a1 a2
    · rw [n3] at a1
      rw [oth7 _ (by omega) (by omega) (by omega)]; exact bz.2.2 a (by omega) a2
  have c0' : g ((true, S1) : Bool × St).2 62 0 = v0 := c0
  have eadd' : fn_Standbys_add 49 v0 ((true, S1) : Bool × St).2 = some A3 := eadd
  have mk' : g ((true, X1) : Bool × St).2 515 3 = nB V := mk
  have hX7' : X7 = u ((true, X1) : Bool × St).2 515 3 (nB V + 1) := hX7
  rw [tg_61_2, c0', eadd', bnO_s, nm_x, mk', ← hX7', bnO_eta, bnO_eta]
  exact FIN st7 ⟨pt, hG', by rw [n6]; exact d0.2.2.1, ⟨mv, hG'.1⟩, bz7⟩ (by omega)
theorem ST_story (h : Cu2 B L S0 T0 s S T) (hd : Dft V S T) : RES S0 T0 (Done B L S0 T0 s) (fn_Reader_readStory 61 S) (fn_Mo_readStory 514 T) := by
  have b := hd.1.pl.b
  have gn : g S 43 5 = nS V := hd.1.pl.mS
  have tb := tkE_b h.1.1.1 h.2.2.1
  have mt : g T 515 2 = nS V := hd.2.2.2.1.mS
  have L6 := h.1.1.1.1
  unfold fn_Reader_readStory fn_Mo_readStory
  rw [tg_61_1, tg_33_0, tg_34_1, gn, tg_514_0, mt]
  by_cases full : nS V = 10
  · rw [if_neg (by omega), if_pos full, bnO_eta, bnO_eta]
    exact RES_fail h.1.2 h.2.1.2 (by rw [h.2.2.2.1.1, h.2.2.2.2.1.1]) (by rw [h.2.2.2.2.1.1]; have := h.2.2.1; omega) (by omega)
  rw [if_pos (by omega), if_neg full]
  obtain ⟨X0, e1, st0, d0, r1⟩ := ADV h hd
  have m0 : g X0 515 2 = nS V := d0.2.2.2.1.mS
  obtain ⟨N, hN⟩ : ∃ N : Nat, nS V = (N : Int) := ⟨(nS V).toNat, by omega⟩
  rw [e1, bnO_s, m0, nm_x, nm_x, wr_s (z := 309 + 5 * nS V) (by omega) (by omega), wr_s (z := 309 + 5 * nS V + 0) (by omega) (by omega)]
  refine INTO (a := 309 + 5 * nS V + 0) (i := 0) (by omega) (by decide) st0 (fun _ => rfl) (fun _ => rfl) (fun S1 X1 Y1 v0 hN0 st1 hw0 h40 => ?_)
  have d1 : PT S1 33 V := d0.1.off hN0.cf (by omega)
  have hr0 := hN0.rg
  have vb0 := hN0.vb
  have lt0 := hN0.lt
  rw [bnO_s, bnO_s, if_pos rfl, if_pos rfl, nm_x, wr_s (z := 309 + 5 * nS V + 1) (by omega) (by omega)]
  refine INTO (a := 309 + 5 * nS V + 1) (i := 1) (by omega) (by decide) st1 (fun _ => rfl) (fun _ => rfl) (fun S2 X2 Y2 v1 hN1 st2 hw1 h41 => ?_)
  have d2 : PT S2 33 V := d1.off hN1.cf (by omega)
  have hr1 := hN1.rg
  have vb1 := hN1.vb
  have lt1 := hN1.lt
  rw [bnO_s, bnO_s, if_pos rfl, if_pos rfl, nm_x, wr_s (z := 309 + 5 * nS V + 2) (by omega) (by omega)]
  refine INTO (a := 309 + 5 * nS V + 2) (i := 2) (by omega) (by decide) st2 (fun _ => rfl) (fun _ => rfl) (fun S3 X3 Y3 v2 hN2 st3 hw2 h42 => ?_)
  have d3 : PT S3 33 V := d2.off hN2.cf (by omega)
  have hr2 := hN2.rg
  have vb2 := hN2.vb
  have lt2 := hN2.lt
  rw [bnO_s, bnO_s, if_pos rfl, if_pos rfl, nm_x, wr_s (z := 309 + 5 * nS V + 3) (by omega) (by omega)]
  refine INTO (a := 309 + 5 * nS V + 3) (i := 3) (by omega) (by decide) st3 (fun _ => rfl) (fun _ => rfl) (fun S4 X4 Y4 v3 hN3 st4 hw3 h43 => ?_)
  have d4 : PT S4 33 V := d3.off hN3.cf (by omega)
  have hr3 := hN3.rg
  have vb3 := hN3.vb
  have lt3 := hN3.lt
  rw [bnO_s, bnO_s, if_pos rfl, if_pos rfl]
  have c0 : g S4 62 0 = v0 := by rw [hN3.co 0 (by decide), hN2.co 0 (by decide), hN1.co 0 (by decide), hN0.c]
  have c1 : g S4 62 1 = v1 := by rw [hN3.co 1 (by decide), hN2.co 1 (by decide), hN1.c]
  have c2 : g S4 62 2 = v2 := by rw [hN3.co 2 (by decide), hN2.c]
  have c3 : g S4 62 3 = v3 := by rw [hN3.c]
  obtain ⟨F, hF⟩ : ∃ F : Nat → Int, F = fun k : Nat => if k = 7 then v0 else if k = 8 then v1 else if k = 9 then v2 else if k = 10 then v3 else 0 := ⟨_, rfl⟩
  have f7 : F 7 = v0 := by rw [hF]; rfl
  have f8 : F 8 = v1 := by rw [hF]; rfl
  have f9 : F 9 = v2 := by rw [hF]; rfl
  have f10 : F 10 = v3 := by rw [hF]; rfl
  have f11 : F 11 = 0 := by rw [hF]; rfl
  have bz := d0.2.2.2.2
  obtain ⟨X7, hX7⟩ : ∃ X7, X7 = u X4 515 2 (nS V + 1) := ⟨_, rfl⟩
  have mk : g X4 515 2 = nS V := by rw [hw3, if_neg (by omega), hw2, if_neg (by omega), hw1, if_neg (by omega), hw0, if_neg (by omega)]; exact m0
  have oth7 : ∀ f, f < 380 → f ≠ 2 → ¬ (309 + 5 * N ≤ f ∧ f < 309 + 5 * N + 5) → g X7 515 f = g X0 515 f := fun f f1 f2 f3 => by
    rw [hX7, g_ne (by omega), hw3, if_neg (by omega), hw2, if_neg (by omega), hw1, if_neg (by omega), hw0, if_neg (by omega)]
  have q1 : g X7 514 1 = g X0 514 1 := by rw [hX7, g_ne (by omega), h43, hN3.mg 1 (by decide) (by decide) (by decide) (by decide), h42, hN2.mg 1 (by decide) (by decide) (by decide) (by decide), h41, hN1.mg 1 (by decide) (by decide) (by decide) (by decide), h40, hN0.mg 1 (by decide) (by decide) (by decide) (by decide)]
  have q2 : g X7 514 2 = g X0 514 2 := by rw [hX7, g_ne (by omega), h43, hN3.mg 2 (by decide) (by decide) (by decide) (by decide), h42, hN2.mg 2 (by decide) (by decide) (by decide) (by decide), h41, hN1.mg 2 (by decide) (by decide) (by decide) (by decide), h40, hN0.mg 2 (by decide) (by decide) (by decide) (by decide)]
  have mv : vM X7 0 = nwS V F := by
    have q := vM_nwS (T := X0) (T' := X7) (N := N) (F := F) d0.2.2.2.1.mb (by rw [m0, hN]) (by omega) (by rw [hX7, g_eq, wr_s (by omega) (by omega), hN]) (fun k k1 k2 => by
      rw [hX7, g_ne (by omega)]
      have kc : k = 7 ∨ k = 8 ∨ k = 9 ∨ k = 10 ∨ k = 11 := by omega
      rcases kc with rfl | rfl | rfl | rfl | rfl
      · rw [hw3, if_neg (by omega), hw2, if_neg (by omega), hw1, if_neg (by omega), hw0, if_pos (by omega), f7]
      · rw [hw3, if_neg (by omega), hw2, if_neg (by omega), hw1, if_pos (by omega), f8]
      · rw [hw3, if_neg (by omega), hw2, if_pos (by omega), f9]
      · rw [hw3, if_pos (by omega), f10]
      · rw [hw3, if_neg (by omega), hw2, if_neg (by omega), hw1, if_neg (by omega), hw0, if_neg (by omega), f11, show 309 + 5 * N + (11 - 7) = (313 + 5 * (nS V)).toNat by omega]
        exact bz.2.1 _ (Int.le_refl _) (by omega)) oth7 q1 q2
    rw [d0.2.2.2.1.1] at q
    unfold nwS
    rw [hN]
    exact q
  have en : g S4 43 5 = nS V := d4.pl.mS
  obtain ⟨A1, hA1⟩ : ∃ A1, A1 = u S4 44 (nS V).toNat v0 := ⟨_, rfl⟩
  obtain ⟨A2, hA2⟩ : ∃ A2, A2 = u A1 45 (nS V).toNat v1 := ⟨_, rfl⟩
  obtain ⟨A3, hA3⟩ : ∃ A3, A3 = u A2 46 (nS V).toNat v2 := ⟨_, rfl⟩
  obtain ⟨A4, hA4⟩ : ∃ A4, A4 = u A3 47 (nS V).toNat v3 := ⟨_, rfl⟩
  obtain ⟨A5, hA5⟩ : ∃ A5, A5 = u A4 48 (nS V).toNat 0 := ⟨_, rfl⟩
  obtain ⟨A6, hA6⟩ : ∃ A6, A6 = u A5 43 5 (nS V + 1) := ⟨_, rfl⟩
  have o1 : Off S4 A1 44 49 := by rw [hA1]; exact Off.wt (by omega) (by omega)
  have o2 : Off S4 A2 44 49 := by rw [hA2]; exact o1.tu (by omega) (by omega)
  have o3 : Off S4 A3 44 49 := by rw [hA3]; exact o2.tu (by omega) (by omega)
  have o4 : Off S4 A4 44 49 := by rw [hA4]; exact o3.tu (by omega) (by omega)
  have o5 : Off S4 A5 44 49 := by rw [hA5]; exact o4.tu (by omega) (by omega)
  have o6 : Off S4 A6 43 49 := by rw [hA6]; exact (o5.mono (by omega) (by omega)).tu (by omega) (by omega)
  have eadd : fn_Stories_add 43 v0 v1 v2 v3 S4 = some A6 := by
    have g1 : g A1 43 5 = nS V := by rw [o1.rd (by omega)]; exact en
    have g2 : g A2 43 5 = nS V := by rw [o2.rd (by omega)]; exact en
    have g3 : g A3 43 5 = nS V := by rw [o3.rd (by omega)]; exact en
    have g4 : g A4 43 5 = nS V := by rw [o4.rd (by omega)]; exact en
    have g5 : g A5 43 5 = nS V := by rw [o5.rd (by omega)]; exact en
    have cc : 0 ≤ nS V ∧ nS V < 10 := by omega
    unfold fn_Stories_add
    rw [en, if_neg (by omega), if_pos cc, tg_43_0, tg_43_1, tg_43_2, tg_43_3, tg_43_4, nm_x, ← hA1, g1, if_pos cc, nm_x, ← hA2, g2, if_pos cc, nm_x, ← hA3, g3, if_pos cc, nm_x, ← hA4, g4, if_pos cc, nm_x, ← hA5, g5, nm_x, ← hA6]
  have cnt : g A6 43 5 = nS V + 1 := by rw [hA6, g_eq, wr_s (by omega) (by omega)]
  have old : ∀ c f, ¬ (f = N ∧ 44 ≤ c ∧ c < 49) → ¬ (c = 43 ∧ f = 5) → g A6 c f = g S4 c f := fun c f q1 q2 => by
    rw [hA6, g_ne (by omega), hA5, g_ne (by omega), hA4, g_ne (by omega), hA3, g_ne (by omega), hA2, g_ne (by omega), hA1, g_ne (by omega)]
  have NN : (nS V).toNat = N := by omega
  have vv : vC A6 34 = nwS V F := by
    have q := vC_nwS (S := S4) (S' := A6) (s := 34) (N := N) (F := F) (by show g S4 43 5 = _; rw [en, hN]) (by show g A6 43 5 = _; rw [cnt, hN]) (fun k k1 k2 => by
      have kc : k = 7 ∨ k = 8 ∨ k = 9 ∨ k = 10 ∨ k = 11 := by omega
      rcases kc with rfl | rfl | rfl | rfl | rfl
      · show g A6 44 N = _
        rw [hA6, g_ne (by omega), hA5, g_ne (by omega), hA4, g_ne (by omega), hA3, g_ne (by omega), hA2, g_ne (by omega), hA1, NN, g_eq, f7, wr_s (by omega) (by omega)]
      · show g A6 45 N = _
        rw [hA6, g_ne (by omega), hA5, g_ne (by omega), hA4, g_ne (by omega), hA3, g_ne (by omega), hA2, NN, g_eq, f8, wr_s (by omega) (by omega)]
      · show g A6 46 N = _
        rw [hA6, g_ne (by omega), hA5, g_ne (by omega), hA4, g_ne (by omega), hA3, NN, g_eq, f9, wr_s (by omega) (by omega)]
      · show g A6 47 N = _
        rw [hA6, g_ne (by omega), hA5, g_ne (by omega), hA4, NN, g_eq, f10, wr_s (by omega) (by omega)]
      · show g A6 48 N = _
        rw [hA6, g_ne (by omega), hA5, NN, g_eq, f11, wr_0]) (fun k i k1 k2 ki => old _ _ (by omega) (by omega)) (fun c f hc => old c f (by omega) (by omega))
    have v6 : vC S4 34 = V := d4.pl.1.2.1
    rw [v6] at q
    unfold nwS
    rw [hN]
    exact q
  have hG' := Good_nwS (F := F) d0.2.1 (by omega) (by rw [f7]; exact hr0) (by rw [f8]; omega) (by rw [f9]; exact hr2) (by rw [f10]; exact hr3) f11
  obtain ⟨n1, n2, n3, n4, n5, n6⟩ := nwS_n (V := V) (F := F)
  have pt : PT A6 33 (nwS V F) := PT_same d4 vv hG'.1 hG'.2.1 (o6.mono (by omega) (by omega)) n4 n5 (fun q q1 _ => rawR_nwS d4.v) (fun q => stOn_nwS d4.v f11) (fun y s => grp_nwS d4.v)
  have st7 : St2 B L S0 T0 (tkE B L (tkS B L (tkE B L (tkS B L (tkE B L (tkS B L (tkE B L (tkS B L (tkE B L s))))))))) A6 X7 := by rw [hX7]; exact (st4.c (o6.mono (by omega) (by omega))).m (by omega)
  have bz7 : BZ (nwS V F) X7 := by
    refine ⟨fun a a1 a2 => ?_, fun a a1 a2 => ?_, fun a a1 a2 => ?_⟩
    · rw [n1] at a1
      rw [oth7 _ (by omega) (by omega) (by omega)]; exact bz.1 a a1 a2
    · rw [n2] at a1
      rw [oth7 _ (by omega) (by omega) (by omega)]; exact bz.2.1 a (by omega) a2
    · rw [n3] at a1
      rw [oth7 _ (by omega) (by omega) (by omega)]; exact bz.2.2 a a1 a2
  have c0' : g ((true, S4) : Bool × St).2 62 0 = v0 := c0
  have c1' : g ((true, S4) : Bool × St).2 62 1 = v1 := c1
  have c2' : g ((true, S4) : Bool × St).2 62 2 = v2 := c2
  have c3' : g ((true, S4) : Bool × St).2 62 3 = v3 := c3
  have eadd' : fn_Stories_add 43 v0 v1 v2 v3 ((true, S4) : Bool × St).2 = some A6 := eadd
  have mk' : g ((true, X4) : Bool × St).2 515 2 = nS V := mk
  have hX7' : X7 = u ((true, X4) : Bool × St).2 515 2 (nS V + 1) := hX7
  rw [tg_61_2, c0', c1', c2', c3', eadd', bnO_s, nm_x, mk', ← hX7', bnO_eta, bnO_eta]
  exact FIN st7 ⟨pt, hG', by rw [n6]; exact d0.2.2.1, ⟨mv, hG'.1⟩, bz7⟩ (by omega)
theorem ST_ad (h : Cu2 B L S0 T0 s S T) (hd : Dft V S T) : RES S0 T0 (Done B L S0 T0 s) (fn_Reader_readAd 61 S) (fn_Mo_readAd 514 T) := by
  have b := hd.1.pl.b
  have gn : g S 35 7 = nA V := hd.1.pl.mA
  have tb := tkE_b h.1.1.1 h.2.2.1
  have mt : g T 515 1 = nA V := hd.2.2.2.1.mA
  have L6 := h.1.1.1.1
  unfold fn_Reader_readAd fn_Mo_readAd
  rw [tg_61_1, tg_33_0, tg_34_0, gn, tg_514_0, mt]
  by_cases full : nA V = 40
  · rw [if_neg (by omega), if_pos full, bnO_eta, bnO_eta]
    exact RES_fail h.1.2 h.2.1.2 (by rw [h.2.2.2.1.1, h.2.2.2.2.1.1]) (by rw [h.2.2.2.2.1.1]; have := h.2.2.1; omega) (by omega)
  rw [if_pos (by omega), if_neg full]
  obtain ⟨X0, e1, st0, d0, r1⟩ := ADV h hd
  have m0 : g X0 515 1 = nA V := d0.2.2.2.1.mA
  obtain ⟨N, hN⟩ : ∃ N : Nat, nA V = (N : Int) := ⟨(nA V).toNat, by omega⟩
  rw [e1, bnO_s, m0, nm_x, nm_x, wr_s (z := 29 + 7 * nA V) (by omega) (by omega), wr_s (z := 29 + 7 * nA V + 0) (by omega) (by omega)]
  rw [rSz_eq]
  rotate_left
  · exact fun _ => rfl
  refine SIZE (a := 29 + 7 * nA V + 0) (by omega) st0 (fun _ => rfl) (fun _ => rfl) (fun S1 X1 Y1 v0 hN0 hsz st1 hw0 h40 => ?_)
  have d1 : PT S1 33 V := d0.1.off hN0.cf (by omega)
  have hr0 := hN0.rg
  have vb0 := hN0.vb
  have lt0 := hN0.lt
  rw [bnO_s, bnO_s, if_pos rfl, if_pos rfl, nm_x, wr_s (z := 29 + 7 * nA V + 1) (by omega) (by omega)]
  refine INTO (a := 29 + 7 * nA V + 1) (i := 1) (by omega) (by decide) st1 (fun _ => rfl) (fun _ => rfl) (fun S2 X2 Y2 v1 hN1 st2 hw1 h41 => ?_)
  have d2 : PT S2 33 V := d1.off hN1.cf (by omega)
  have hr1 := hN1.rg
  have vb1 := hN1.vb
  have lt1 := hN1.lt
  rw [bnO_s, bnO_s, if_pos rfl, if_pos rfl, nm_x, wr_s (z := 29 + 7 * nA V + 2) (by omega) (by omega)]
  refine INTO (a := 29 + 7 * nA V + 2) (i := 2) (by omega) (by decide) st2 (fun _ => rfl) (fun _ => rfl) (fun S3 X3 Y3 v2 hN2 st3 hw2 h42 => ?_)
  have d3 : PT S3 33 V := d2.off hN2.cf (by omega)
  have hr2 := hN2.rg
  have vb2 := hN2.vb
  have lt2 := hN2.lt
  rw [bnO_s, bnO_s, if_pos rfl, if_pos rfl, nm_x, wr_s (z := 29 + 7 * nA V + 3) (by omega) (by omega)]
  refine INTO (a := 29 + 7 * nA V + 3) (i := 3) (by omega) (by decide) st3 (fun _ => rfl) (fun _ => rfl) (fun S4 X4 Y4 v3 hN3 st4 hw3 h43 => ?_)
  have d4 : PT S4 33 V := d3.off hN3.cf (by omega)
  have hr3 := hN3.rg
  have vb3 := hN3.vb
  have lt3 := hN3.lt
  rw [bnO_s, bnO_s, if_pos rfl, if_pos rfl, nm_x, wr_s (z := 29 + 7 * nA V + 4) (by omega) (by omega)]
  refine INTO (a := 29 + 7 * nA V + 4) (i := 4) (by omega) (by decide) st4 (fun _ => rfl) (fun _ => rfl) (fun S5 X5 Y5 v4 hN4 st5 hw4 h44 => ?_)
  have d5 : PT S5 33 V := d4.off hN4.cf (by omega)
  have hr4 := hN4.rg
  have vb4 := hN4.vb
  have lt4 := hN4.lt
  rw [bnO_s, bnO_s, if_pos rfl, if_pos rfl, nm_x, wr_s (z := 29 + 7 * nA V + 5) (by omega) (by omega)]
  refine INTO (a := 29 + 7 * nA V + 5) (i := 5) (by omega) (by decide) st5 (fun _ => rfl) (fun _ => rfl) (fun S6 X6 Y6 v5 hN5 st6 hw5 h45 => ?_)
  have d6 : PT S6 33 V := d5.off hN5.cf (by omega)
  have hr5 := hN5.rg
  have vb5 := hN5.vb
  have lt5 := hN5.lt
  rw [bnO_s, bnO_s, if_pos rfl, if_pos rfl]
  have c0 : g S6 62 0 = v0 := by rw [hN5.co 0 (by decide), hN4.co 0 (by decide), hN3.co 0 (by decide), hN2.co 0 (by decide), hN1.co 0 (by decide), hN0.c]
  have c1 : g S6 62 1 = v1 := by rw [hN5.co 1 (by decide), hN4.co 1 (by decide), hN3.co 1 (by decide), hN2.co 1 (by decide), hN1.c]
  have c2 : g S6 62 2 = v2 := by rw [hN5.co 2 (by decide), hN4.co 2 (by decide), hN3.co 2 (by decide), hN2.c]
  have c3 : g S6 62 3 = v3 := by rw [hN5.co 3 (by decide), hN4.co 3 (by decide), hN3.c]
  have c4 : g S6 62 4 = v4 := by rw [hN5.co 4 (by decide), hN4.c]
  have c5 : g S6 62 5 = v5 := by rw [hN5.c]
  obtain ⟨F, hF⟩ : ∃ F : Nat → Int, F = fun k : Nat => if k = 0 then v0 else if k = 1 then v1 else if k = 2 then v2 else if k = 3 then v3 else if k = 4 then v4 else if k = 5 then v5 else 0 := ⟨_, rfl⟩
  have f0 : F 0 = v0 := by rw [hF]; rfl
  have f1 : F 1 = v1 := by rw [hF]; rfl
  have f2 : F 2 = v2 := by rw [hF]; rfl
  have f3 : F 3 = v3 := by rw [hF]; rfl
  have f4 : F 4 = v4 := by rw [hF]; rfl
  have f5 : F 5 = v5 := by rw [hF]; rfl
  have f6 : F 6 = 0 := by rw [hF]; rfl
  have bz := d0.2.2.2.2
  obtain ⟨X7, hX7⟩ : ∃ X7, X7 = u X6 515 1 (nA V + 1) := ⟨_, rfl⟩
  have mk : g X6 515 1 = nA V := by rw [hw5, if_neg (by omega), hw4, if_neg (by omega), hw3, if_neg (by omega), hw2, if_neg (by omega), hw1, if_neg (by omega), hw0, if_neg (by omega)]; exact m0
  have oth7 : ∀ f, f < 380 → f ≠ 1 → ¬ (29 + 7 * N ≤ f ∧ f < 29 + 7 * N + 7) → g X7 515 f = g X0 515 f := fun f f1 f2 f3 => by
    rw [hX7, g_ne (by omega), hw5, if_neg (by omega), hw4, if_neg (by omega), hw3, if_neg (by omega), hw2, if_neg (by omega), hw1, if_neg (by omega), hw0, if_neg (by omega)]
  have q1 : g X7 514 1 = g X0 514 1 := by rw [hX7, g_ne (by omega), h45, hN5.mg 1 (by decide) (by decide) (by decide) (by decide), h44, hN4.mg 1 (by decide) (by decide) (by decide) (by decide), h43, hN3.mg 1 (by decide) (by decide) (by decide) (by decide), h42, hN2.mg 1 (by decide) (by decide) (by decide) (by decide), h41, hN1.mg 1 (by decide) (by decide) (by decide) (by decide), h40, hN0.mg 1 (by decide) (by decide) (by decide) (by decide)]
  have q2 : g X7 514 2 = g X0 514 2 := by rw [hX7, g_ne (by omega), h45, hN5.mg 2 (by decide) (by decide) (by decide) (by decide), h44, hN4.mg 2 (by decide) (by decide) (by decide) (by decide), h43, hN3.mg 2 (by decide) (by decide) (by decide) (by decide), h42, hN2.mg 2 (by decide) (by decide) (by decide) (by decide), h41, hN1.mg 2 (by decide) (by decide) (by decide) (by decide), h40, hN0.mg 2 (by decide) (by decide) (by decide) (by decide)]
  have mv : vM X7 0 = nwA V F := by
    have q := vM_nwA (T := X0) (T' := X7) (N := N) (F := F) d0.2.2.2.1.mb (by rw [m0, hN]) (by omega) (by rw [hX7, g_eq, wr_s (by omega) (by omega), hN]) (fun k k1 k2 => by
      rw [hX7, g_ne (by omega)]
      have kc : k = 0 ∨ k = 1 ∨ k = 2 ∨ k = 3 ∨ k = 4 ∨ k = 5 ∨ k = 6 := by omega
      rcases kc with rfl | rfl | rfl | rfl | rfl | rfl | rfl
      · rw [hw5, if_neg (by omega), hw4, if_neg (by omega), hw3, if_neg (by omega), hw2, if_neg (by omega), hw1, if_neg (by omega), hw0, if_pos (by omega), f0]
      · rw [hw5, if_neg (by omega), hw4, if_neg (by omega), hw3, if_neg (by omega), hw2, if_neg (by omega), hw1, if_pos (by omega), f1]
      · rw [hw5, if_neg (by omega), hw4, if_neg (by omega), hw3, if_neg (by omega), hw2, if_pos (by omega), f2]
      · rw [hw5, if_neg (by omega), hw4, if_neg (by omega), hw3, if_pos (by omega), f3]
      · rw [hw5, if_neg (by omega), hw4, if_pos (by omega), f4]
      · rw [hw5, if_pos (by omega), f5]
      · rw [hw5, if_neg (by omega), hw4, if_neg (by omega), hw3, if_neg (by omega), hw2, if_neg (by omega), hw1, if_neg (by omega), hw0, if_neg (by omega), f6, show 29 + 7 * N + 6 = (35 + 7 * (nA V)).toNat by omega]
        exact bz.1 _ (Int.le_refl _) (by omega)) oth7 q1 q2
    rw [d0.2.2.2.1.1] at q
    unfold nwA
    rw [hN]
    exact q
  have en : g S6 35 7 = nA V := d6.pl.mA
  obtain ⟨A1, hA1⟩ : ∃ A1, A1 = u S6 36 (nA V).toNat v0 := ⟨_, rfl⟩
  obtain ⟨A2, hA2⟩ : ∃ A2, A2 = u A1 37 (nA V).toNat v1 := ⟨_, rfl⟩
  obtain ⟨A3, hA3⟩ : ∃ A3, A3 = u A2 38 (nA V).toNat 0 := ⟨_, rfl⟩
  obtain ⟨A4, hA4⟩ : ∃ A4, A4 = u A3 39 (nA V).toNat 0 := ⟨_, rfl⟩
  obtain ⟨A5, hA5⟩ : ∃ A5, A5 = u A4 40 (nA V).toNat v4 := ⟨_, rfl⟩
  obtain ⟨A6, hA6⟩ : ∃ A6, A6 = u A5 41 (nA V).toNat v5 := ⟨_, rfl⟩
  obtain ⟨A7, hA7⟩ : ∃ A7, A7 = u A6 42 (nA V).toNat 0 := ⟨_, rfl⟩
  obtain ⟨A8, hA8⟩ : ∃ A8, A8 = u A7 35 7 (nA V + 1) := ⟨_, rfl⟩
  obtain ⟨A9, hA9⟩ : ∃ A9, A9 = u A8 38 (nA V).toNat v2 := ⟨_, rfl⟩
  obtain ⟨A10, hA10⟩ : ∃ A10, A10 = u A9 39 (nA V).toNat v3 := ⟨_, rfl⟩
  have o7 : Off S6 A7 36 43 := by
    rw [hA7, hA6, hA5, hA4, hA3, hA2, hA1]
    refine Off.tu (Off.tu (Off.tu (Off.tu (Off.tu (Off.tu (Off.wt ?_ ?_) ?_ ?_) ?_ ?_) ?_ ?_) ?_ ?_) ?_ ?_) ?_ ?_ <;> omega
  have o8 : Off S6 A8 35 43 := by rw [hA8]; exact (o7.mono (by omega) (by omega)).tu (by omega) (by omega)
  have o10 : Off S6 A10 35 43 := by rw [hA10, hA9]; exact (o8.tu (by omega) (by omega)).tu (by omega) (by omega)
  have eadd : fn_Ads_add 35 v0 v1 v4 v5 S6 = some (nA V, A8) := by
    have g7 : g A7 35 7 = nA V := by rw [o7.rd (by omega)]; exact en
    unfold fn_Ads_add
    rw [en, if_pos (by omega), if_pos (by omega), tg_35_0, tg_35_1, tg_35_2, tg_35_3, tg_35_4, tg_35_5, tg_35_6]
    simp only [nm_x]
    rw [← hA1, ← hA2, ← hA3, ← hA4, ← hA5, ← hA6, ← hA7, g7, ← hA8]
  have w2 : g A8 62 2 = v2 := by rw [o8.rd (by omega)]; exact c2
  have w3 : g A9 62 3 = v3 := by rw [hA9, g_ne (by omega), o8.rd (by omega)]; exact c3
  have cnt : g A10 35 7 = nA V + 1 := by rw [hA10, g_ne (by omega), hA9, g_ne (by omega), hA8, g_eq, wr_s (by omega) (by omega)]
  have old : ∀ c f, ¬ (f = N ∧ 36 ≤ c ∧ c < 43) → ¬ (c = 35 ∧ f = 7) → g A10 c f = g S6 c f := fun c f q1 q2 => by
    rw [hA10, g_ne (by omega), hA9, g_ne (by omega), hA8, g_ne (by omega), hA7, g_ne (by omega), hA6, g_ne (by omega), hA5, g_ne (by omega), hA4, g_ne (by omega), hA3, g_ne (by omega), hA2, g_ne (by omega), hA1, g_ne (by omega)]
  have NN : (nA V).toNat = N := by omega
  have vv : vC A10 34 = nwA V F := by
    have q := vC_nwA (S := S6) (S' := A10) (s := 34) (N := N) (F := F) (by show g S6 35 7 = _; rw [en, hN]) (by show g A10 35 7 = _; rw [cnt, hN]) (fun k k1 k2 => by
      have kc : k = 0 ∨ k = 1 ∨ k = 2 ∨ k = 3 ∨ k = 4 ∨ k = 5 ∨ k = 6 := by omega
      rcases kc with rfl | rfl | rfl | rfl | rfl | rfl | rfl
      · show g A10 36 N = _
        rw [hA10, g_ne (by omega), hA9, g_ne (by omega), hA8, g_ne (by omega), hA7, g_ne (by omega), hA6, g_ne (by omega), hA5, g_ne (by omega), hA4, g_ne (by omega), hA3, g_ne (by omega), hA2, g_ne (by omega), hA1, NN, g_eq, f0, wr_s (by omega) (by omega)]
      · show g A10 37 N = _
        rw [hA10, g_ne (by omega), hA9, g_ne (by omega), hA8, g_ne (by omega), hA7, g_ne (by omega), hA6, g_ne (by omega), hA5, g_ne (by omega), hA4, g_ne (by omega), hA3, g_ne (by omega), hA2, NN, g_eq, f1, wr_s (by omega) (by omega)]
      · show g A10 38 N = _
        rw [hA10, g_ne (by omega), hA9, NN, g_eq, f2, wr_s (by omega) (by omega)]
      · show g A10 39 N = _
        rw [hA10, NN, g_eq, f3, wr_s (by omega) (by omega)]
      · show g A10 40 N = _
        rw [hA10, g_ne (by omega), hA9, g_ne (by omega), hA8, g_ne (by omega), hA7, g_ne (by omega), hA6, g_ne (by omega), hA5, NN, g_eq, f4, wr_s (by omega) (by omega)]
      · show g A10 41 N = _
        rw [hA10, g_ne (by omega), hA9, g_ne (by omega), hA8, g_ne (by omega), hA7, g_ne (by omega), hA6, NN, g_eq, f5, wr_s (by omega) (by omega)]
      · show g A10 42 N = _
        rw [hA10, g_ne (by omega), hA9, g_ne (by omega), hA8, g_ne (by omega), hA7, NN, g_eq, f6, wr_0]) (fun k i k1 k2 ki => old _ _ (by omega) (by omega)) (fun c f hc => old c f (by omega) (by omega))
    have v6 : vC S6 34 = V := d6.pl.1.2.1
    rw [v6] at q
    unfold nwA
    rw [hN]
    exact q
  have hG' := Good_nwA (F := F) d0.2.1 (by omega) (by rw [f0]; exact hsz) (by rw [f1]; exact hr1) (by rw [f2]; omega) (by rw [f3]; exact hr3) (by rw [f4]; exact hr4) (by rw [f5]; exact hr5) f6
  obtain ⟨n1, n2, n3, n4, n5, n6⟩ := nwA_n (V := V) (F := F)
  have pt : PT A10 33 (nwA V F) := PT_same d6 vv hG'.1 hG'.2.1 (o10.mono (by omega) (by omega)) n4 n5 (fun q q1 _ => rawR_nwA d6.v f6 q1) (fun q => stOn_nwA d6.v) (fun y s => grp_nwA d6.v f6)
  have st7 : St2 B L S0 T0 (tkE B L (tkS B L (tkE B L (tkS B L (tkE B L (tkS B L (tkE B L (tkS B L (tkE B L (tkS B L (tkE B L (tkS B L (tkE B L s))))))))))))) A10 X7 := by rw [hX7]; exact (st6.c (o10.mono (by omega) (by omega))).m (by omega)
  have bz7 : BZ (nwA V F) X7 := by
    refine ⟨fun a a1 a2 => ?_, fun a a1 a2 => ?_, fun a a1 a2 => ?_⟩
    · rw [n1] at a1
      rw [oth7 _ (by omega) (by omega) (by omega)]; exact bz.1 a (by omega) a2
    · rw [n2] at a1
      rw [oth7 _ (by omega) (by omega) (by omega)]; exact bz.2.1 a a1 a2
    · rw [n3] at a1
      rw [oth7 _ (by omega) (by omega) (by omega)]; exact bz.2.2 a a1 a2
  have ecl : ∀ (k : Bool × St → Option (Bool × St)), (bnO (fn_Ads_add 35 (g ((true, S6) : Bool × St).2 (tgt 61 2) 0) (g ((true, S6) : Bool × St).2 (tgt 61 2) 1) (g ((true, S6) : Bool × St).2 (tgt 61 2) 4) (g ((true, S6) : Bool × St).2 (tgt 61 2) 5) ((true, S6) : Bool × St).2) fun p13 => if p13.1 < 0 then (bnO (fn_Reader_readSemicolon 61 p13.2) k) else (if 0 ≤ p13.1 ∧ p13.1 < 40 then (nm (u p13.2 (tgt 35 2) ((p13.1).toNat) (g p13.2 (tgt 61 2) 2)) fun S16 => nm (u S16 (tgt 35 3) ((p13.1).toNat) (g S16 (tgt 61 2) 3)) fun S17 => bnO (fn_Reader_readSemicolon 61 S17) k) else none)) = bnO (fn_Reader_readSemicolon 61 A10) k := fun k => by
    show (bnO (fn_Ads_add 35 (g S6 (tgt 61 2) 0) (g S6 (tgt 61 2) 1) (g S6 (tgt 61 2) 4) (g S6 (tgt 61 2) 5) S6) _) = _
    rw [tg_61_2, c0, c1, c4, c5, eadd, bnO_s]
    show (if nA V < 0 then _ else _) = _
    rw [if_neg (by omega : ¬ nA V < 0), if_pos (by omega : 0 ≤ nA V ∧ nA V < 40), nm_x, tg_35_2]
    show (nm (u (u A8 38 (nA V).toNat (g A8 62 2)) (tgt 35 3) (nA V).toNat (g (u A8 38 (nA V).toNat (g A8 62 2)) 62 3)) fun S17 => bnO (fn_Reader_readSemicolon 61 S17) k) = _
    rw [w2, ← hA9, w3, tg_35_3, ← hA10, nm_x]
  have el := ecl (fun p18 => some (p18.1, p18.2))
  rw [el, nm_x]
  show RES S0 T0 _ _ (bnO (fn_Mo_readEnd 514 (u X6 515 1 (g X6 515 1 + 1))) fun p22 => some (p22.1, p22.2))
  rw [mk, ← hX7, bnO_eta, bnO_eta]
  exact FIN st7 ⟨pt, hG', by rw [n6]; exact d0.2.2.1, ⟨mv, hG'.1⟩, bz7⟩ (by omega)
end Adds
