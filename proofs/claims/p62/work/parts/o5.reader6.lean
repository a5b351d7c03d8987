/-! THE READER ALONE: the plan's begin, the whole text, load -/
section RdTxt
variable {B : Int → Int} {L p s q e a b : Int} {S S' S0 : St} {V V' W : Vw} {M : Prop}
theorem Rd_plan (hq : RdQ B L q) (h : RdC B L q S0 s S) (hk : tkK B L s = 1) (hM : M → RdT B L (tkE B L s) [a, b] e ∧ (1 ≤ a ∧ a ≤ 4) ∧ (b = 4 ∨ b = 8 ∨ b = 16)) : RdZ M S0 q (RdF B L q S0 s (fun V' p' => M → V' = emV a b ∧ p' = e)) (fn_Reader_readPlan 61 S) := by
  obtain ⟨st, le⟩ := h.adv hq (by rw [hk]; decide)
  have L6 := h.1.1.1.1
  have qb := hq.1
  unfold fn_Reader_readPlan
  refine RdZ.num (i := 0) hq (by decide) st (fun m => ?_) (fun _ => rfl) (fun S1 v0 hN => ?_)
  · obtain ⟨⟨⟨a1, a2⟩, -⟩, a3, -⟩ := hM m
    exact ⟨a1, by rw [a2]; omega, by rw [a2]; omega⟩
  have hr := hN.rg
  have lt0 := hN.lt
  rw [bnO_s, if_pos rfl]
  refine RdZ.num (i := 1) hq (by decide) hN.st (fun m => ?_) (fun _ => rfl) (fun S3 v1 hN1 => ?_)
  · obtain ⟨⟨-, ⟨a1, a2⟩, -⟩, -, a3⟩ := hM m
    exact ⟨a1, by rw [a2]; omega, by rw [a2]; omega⟩
  have c0 : g S3 62 0 = v0 := by rw [hN1.co 0 (by decide)]; exact hN.cv
  have lt1 := hN1.lt
  have z1 := hN1.mp
  have mv : M → v0 = a ∧ v1 = b := fun m => by
    obtain ⟨⟨⟨a1, a2⟩, ⟨a3, a4⟩, a5, a6⟩, a7⟩ := hM m
    exact ⟨by rw [hN.vv, a2], by rw [hN1.vv, a4]⟩
  rw [bnO_s, if_pos rfl, tg_61_2, tg_61_1, hN1.cv, c0]
  have fin : ∀ vs : v1 = 4 ∨ v1 = 8 ∨ v1 = 16, RdZ M S0 q (RdF B L q S0 s (fun V' p' => M → V' = emV a b ∧ p' = e)) (bnO (fn_Plan_begin 33 v0 v1 S3) fun p5 => bnO (fn_Reader_readSemicolon 61 p5) fun p6 => some (p6.1, p6.2)) := fun vs => by
    obtain ⟨S4, e4, o4, p4⟩ := P_begin (S := S3) (q := 33) (s := v0) (e := v1) (.inr rfl) hr vs
    rw [e4, bnO_s, bnO_eta]
    refine RdZ.fin hq (hN1.st.cw (o4.mono (by omega) (by omega))) ⟨p4, Good_em hr vs, rfl⟩ (by omega) (fun m => (hM m).1.2.2.1) (fun m => ?_)
    obtain ⟨m1, m2⟩ := mv m
    exact ⟨by rw [m1, m2], (hM m).1.2.2.2⟩
  by_cases v4 : v1 = 4
  · rw [if_pos v4]
    exact fin (.inl v4)
  · rw [if_neg v4]
    by_cases v8 : v1 = 8
    · rw [if_pos v8]
      exact fin (.inr (.inl v8))
    · rw [if_neg v8]
      by_cases v16 : v1 = 16
      · rw [if_pos v16]
        exact fin (.inr (.inr v16))
      · rw [if_neg v16]
        refine RdZ.fail hN1.st.1.2 hN1.c5 z1 (by omega) (by decide) (fun m => ?_) (fun _ => rfl)
        have := (hM m).2.2
        have := (mv m).2
        omega
/-- what a whole text is: a plan's begin, and statements -/
def RdAll (B : Int → Int) (L a b : Int) (ss : List Stm) : Prop := ∃ e, (RdW B L (tkS B L 0) 0 ∧ RdT B L (tkE B L (tkS B L 0)) [a, b] e) ∧ RdTs B L (tkS B L e) ss
theorem Rd_text {ss : List Stm} (hq : RdQ B L q) (hC : TxC B L S) (hM : M → RdAll B L a b ss ∧ ((1 ≤ a ∧ a ≤ 4) ∧ (b = 4 ∨ b = 8 ∨ b = 16)) ∧ OkL (emV a b) ss) :
    (∃ S' V' c', fn_Reader_readText 61 S = some (c', S') ∧ (0 ≤ c' ∧ c' ≤ 1600) ∧ FlC S S' ∧ RdD V' S' ∧ q = L ∧ (M → c' = ss.length ∧ V' = apL (emV a b) ss) ∧ (g S' 61 6 = 0 ∧ g S' 61 7 = -1)) ∨
    (¬ M ∧ ∃ S', fn_Reader_readText 61 S = some (-1, S') ∧ RdE S q S') := by
  have L6 := hC.1.1
  have qb := hq.1
  obtain ⟨S3, hS3⟩ : ∃ S3, S3 = u (u (u S 61 6 0) 61 7 (-1)) 61 3 0 := ⟨_, rfl⟩
  have oS3 : Off S S3 61 62 := by rw [hS3]; exact ((Off.wt (by omega) (by omega)).tu (by omega) (by omega)).tu (by omega) (by omega)
  obtain ⟨S4, e4, o4, p4⟩ := P_begin (S := S3) (q := 33) (s := 1) (e := 16) (.inr rfl) (by decide) (.inr (.inr rfl))
  have oS4 : Off S S4 33 62 := (oS3.mono (by omega) (by omega)).trans (o4.mono (by omega) (by omega))
  have tC4 : TxC B L S4 := hC.off oS4 (by omega)
  have s43 : g S4 61 3 = 0 := by rw [o4.rd (by omega), hS3, g_eq, wr_0]
  have s46 : g S4 61 6 = 0 := by rw [o4.rd (by omega), hS3, g_ne (by omega), g_ne (by omega), g_eq, wr_0]
  have s47 : g S4 61 7 = -1 := by rw [o4.rd (by omega), hS3, g_ne (by omega), g_eq]; exact wr_s (by decide) (by decide)
  have st0 : RdS B L q S 0 S4 := ⟨⟨tC4, oS4.mono (by omega) (by omega)⟩, by omega, s43, s46, s47⟩
  obtain ⟨S5, e5, cu, o5⟩ := st0.next hq
  have hd : RdD (emV 1 16) S5 := RdD.off ⟨p4, Good_em (by decide) (.inr (.inr rfl)), rfl⟩ o5
  obtain ⟨bw, w0, m0⟩ := Rd_word (w := 0) (by decide) hq cu
  have htext : fn_Reader_readText 61 S = (if bw = true then bnO (fn_Reader_readPlan 61 S5) (fun p17 => if p17.1 = true then bnO (fn_Reader_nextToken 61 p17.2) (fun p19 => bnS (lo_Reader_readText_55 61 FU (0, 0, p19)) (fun p21 => some (p21.1, p21.2)) fun p20 => some (p20.1, p20.2)) else some (-1, p17.2)) else bnS (lo_Reader_readText_55 61 FU (0, 0, S5)) (fun p16 => some (p16.1, p16.2)) fun p15 => some (p15.1, p15.2)) := by
    unfold fn_Reader_readText
    rw [nm_x, nm_x, nm_x, ← hS3, tg_61_1, e4, bnO_s, e5, bnO_s, w0, bnO_s]
  have loop : ∀ (s : Int) (X : St) (V : Vw) (sx : List Stm), RdC B L q S s X → RdD V X → (M → RdTs B L s sx ∧ OkL V sx) → (∃ S' V' c', lo_Reader_readText_55 61 FU (0, 0, X) = some (.inr (c', S')) ∧ (0 ≤ c' ∧ c' ≤ 1600) ∧ FlC S S' ∧ RdD V' S' ∧ q = L ∧ (M → c' = 0 + sx.length ∧ V' = apL V sx) ∧ (g S' 61 6 = 0 ∧ g S' 61 7 = -1)) ∨ (¬ M ∧ ∃ S', lo_Reader_readText_55 61 FU (0, 0, X) = some (.inl (-1, S')) ∧ RdE S q S') := fun s X V sx h1 h2 h3 => Rd_loop 1600 s 0 X V FU sx hq h1 h2 (by have := h1.2.1; omega) (Int.le_refl _) h1.2.1.1 (FU_lt (by omega)) h3
  cases bw with
  | false =>
    have nM : ¬ M := fun m => by
      obtain ⟨e, ⟨e1, -⟩, -⟩ := (hM m).1
      exact Bool.false_ne_true (m0.mpr e1)
    rw [if_neg Bool.false_ne_true] at htext
    rcases loop _ S5 _ [] cu hd (fun m => absurd m nM) with ⟨S', V', c', z1, z2, z3, z4, z5, -, z7⟩ | ⟨-, S', z1, z2⟩
    · rw [z1, bnS_r] at htext
      exact .inl ⟨S', V', c', htext, z2, z3, z4, z5, fun m => absurd m nM, z7⟩
    · rw [z1, bnS_l] at htext
      exact .inr ⟨nM, S', htext, z2⟩
  | true =>
    rw [if_pos rfl] at htext
    have hw := m0.mp rfl
    have go : ∀ e : Int, (M → RdT B L (tkE B L (tkS B L 0)) [a, b] e ∧ RdTs B L (tkS B L e) ss) → (∃ S' V' c', fn_Reader_readText 61 S = some (c', S') ∧ (0 ≤ c' ∧ c' ≤ 1600) ∧ FlC S S' ∧ RdD V' S' ∧ q = L ∧ (M → c' = ss.length ∧ V' = apL (emV a b) ss) ∧ (g S' 61 6 = 0 ∧ g S' 61 7 = -1)) ∨ (¬ M ∧ ∃ S', fn_Reader_readText 61 S = some (-1, S') ∧ RdE S q S') := fun e he => by
      rcases Rd_plan (M := M) (a := a) (b := b) (e := e) hq cu hw.1 (fun m => ⟨(he m).1, (hM m).2.1⟩) with ⟨S6, q1, V6, p6, lt6, st6, hd6, x6⟩ | ⟨nM, S6, q1, q2⟩
      · obtain ⟨S7, e7, cu7, o7⟩ := st6.next hq
        have e7' : fn_Reader_nextToken 61 ((true, S6) : Bool × St).2 = some S7 := e7
        rw [q1, bnO_s, if_pos rfl, e7', bnO_s] at htext
        rcases loop _ S7 _ ss cu7 (hd6.off o7) (fun m => by
          obtain ⟨v1, v2⟩ := x6 m
          rw [v1, v2]
          exact ⟨(he m).2, (hM m).2.2⟩) with ⟨S', V', c', z1, z2, z3, z4, z5, z6, z7⟩ | ⟨nM, S', z1, z2⟩
        · rw [z1, bnS_r] at htext
          refine .inl ⟨S', V', c', htext, z2, z3, z4, z5, fun m => ?_, z7⟩
          obtain ⟨u1, u2⟩ := z6 m
          exact ⟨by rw [u1, Int.zero_add], by rw [u2, (x6 m).1]⟩
        · rw [z1, bnS_l] at htext
          exact .inr ⟨nM, S', htext, z2⟩
      · rw [q1, bnO_s, if_neg Bool.false_ne_true] at htext
        exact .inr ⟨nM, S6, htext, q2⟩
    by_cases w : M
    · obtain ⟨e, ⟨-, e1⟩, e2⟩ := (hM w).1
      exact go e (fun _ => ⟨e1, e2⟩)
    · exact go 0 (fun m => absurd m w)
/-- load over a right text -/
theorem cl_load {ss : List Stm} {n : Int} {hs : Int → Vw} (hC : TxC B L S) (hT : PT S 5 W) (hH : HCl S n hs) (hA : RdAll B L a b ss) (hab : (1 ≤ a ∧ a ≤ 4) ∧ (b = 4 ∨ b = 8 ∨ b = 16)) (hO : OkL (emV a b) ss) :
    ∃ S', fn_FP_load 0 S = some ((ss.length : Int), S') ∧ PT S' 5 (apL (emV a b) ss) ∧ HCl S' 0 hs ∧ g S' 1 1 = 0 ∧ (g S' 61 6 = 0 ∧ g S' 61 7 = -1) ∧ (ss.length : Int) ≤ 1600 ∧ Off S S' 1 514 ∧ (∀ c f, c < 5 → c ≠ 1 → g S' c f = g S c f) := by
  rcases Rd_text (M := True) (q := L) ⟨⟨hC.1.1.1, Int.le_refl _⟩, fun z => absurd z (Int.lt_irrefl _)⟩ hC (fun _ => ⟨hA, hab, hO⟩) with ⟨X, V, c, x1, cb, x2, hd, -, hm, er⟩ | ⟨nM, -⟩
  · obtain ⟨m1, m2⟩ := hm trivial
    obtain ⟨X2, hX2⟩ : ∃ X2, X2 = u X 1 1 0 := ⟨_, rfl⟩
    have oX2 : Off X X2 1 2 := by rw [hX2]; exact Off.wt (by omega) (by omega)
    have vX2 : vC X2 34 = V := by
      have q := vC_off (s := 34) oX2 (by omega)
      rw [q]; exact hd.1.pl.1.2.1
    obtain ⟨X3, e3, o3, p3⟩ := P_become (S := X2) (p := 5) (s1 := 34) (.inl rfl) (.inr (.inl rfl)) (by omega) (by rw [vX2]; exact hd.2.1.1) (by rw [vX2]; exact hd.2.1.2.1)
    rw [vX2] at p3
    obtain ⟨X4, hX4⟩ : ∃ X4, X4 = u X3 63 2 0 := ⟨_, rfl⟩
    have o4 : Off X3 X4 63 64 := by rw [hX4]; exact Off.wt (by omega) (by omega)
    have eF : fn_FP_load 0 S = some (c, X4) := by
      unfold fn_FP_load
      rw [tg_0_0, x1, bnO_s, nm_x, tg_0_1, ← hX2, if_neg (by show ¬ c = -1; omega), tg_0_3, tg_61_1, tg_33_0, e3, bnO_s, tg_0_4]
      unfold fn_History_forget
      rw [nm_x, ← hX4, bnO_s]
    have oX : Off S X4 1 514 := by
      have q1 : Off S X 1 514 := x2.mono (by omega) (by omega)
      have q2 := q1.trans (oX2.mono (by omega) (by omega))
      have q3 := q2.trans (o3.mono (by omega) (by omega))
      exact q3.trans (o4.mono (by omega) (by omega))
    have h63 : g X4 63 1 = g S 63 1 := by rw [hX4, g_ne (by omega), o3.rd (by omega), oX2.rd (by omega), x2.rd (by omega)]
    refine ⟨X4, by rw [eF, m1], by rw [← m2]; exact p3.off o4 (by omega), ⟨⟨by decide, by decide⟩, by rw [hX4, g_eq, wr_0], by rw [h63]; exact hH.2.2.1, fun j j0 j1 => by omega⟩, ?_, ?_, by omega, oX, fun c f h1 h2 => ?_⟩
    · rw [o4.rd (by omega), o3.rd (by omega), hX2, g_eq, wr_0]
    · rw [o4.rd (by omega), o3.rd (by omega), oX2.rd (by omega), o4.rd (by omega), o3.rd (by omega), oX2.rd (by omega)]
      exact er
    · rw [o4.rd (by omega), o3.rd (by omega), oX2.rd (by omega), x2.rd (by omega)]
  · exact absurd trivial nM
/-- load over a text with a byte that is no token -/
theorem cl_loadX {n : Int} {hs : Int → Vw} (hC : TxC B L S) (hT : PT S 5 W) (hH : HCl S n hs) (hq : 0 ≤ q ∧ q < L) (hB : B q = 63) :
    ∃ S', fn_FP_load 0 S = some (-3, S') ∧ PT S' 5 W ∧ HCl S' n hs ∧ g S' 1 1 = 0 ∧ ((1 ≤ g S' 61 6 ∧ g S' 61 6 ≤ 4) ∧ (0 ≤ g S' 61 7 ∧ g S' 61 7 ≤ q)) ∧ Off S S' 1 514 ∧ (∀ c f, c < 5 → c ≠ 1 → g S' c f = g S c f) := by
  rcases Rd_text (M := False) (a := 0) (b := 0) (ss := []) (q := q) ⟨⟨hq.1, by omega⟩, fun _ => hB⟩ hC (fun m => m.elim) with ⟨X, V, c, x1, cb, x2, hd, z, -⟩ | ⟨-, X, x1, x2, er⟩
  · omega
  · obtain ⟨X2, hX2⟩ : ∃ X2, X2 = u X 1 1 0 := ⟨_, rfl⟩
    have oX2 : Off X X2 1 2 := by rw [hX2]; exact Off.wt (by omega) (by omega)
    have eF : fn_FP_load 0 S = some (-3, X2) := by
      unfold fn_FP_load
      rw [tg_0_0, x1, bnO_s, nm_x, tg_0_1, ← hX2, if_pos rfl]
    refine ⟨X2, eF, (hT.off x2 (by omega)).off oX2 (by omega), (hH.off x2 (by omega)).off oX2 (by omega), by rw [hX2, g_eq, wr_0], by rw [oX2.rd (by omega), oX2.rd (by omega)]; exact er, (x2.mono (by omega) (by omega)).trans (oX2.mono (by omega) (by omega)), fun c f h1 h2 => ?_⟩
    rw [oX2.rd (by omega), x2.rd (by omega)]
end RdTxt
