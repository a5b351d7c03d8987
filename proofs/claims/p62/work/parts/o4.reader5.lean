/-! THE READER ALONE: a statement, the text -/
section RdStm
variable {B : Int → Int} {L p s q e c : Int} {S S' S0 : St} {V V' W : Vw} {M : Prop}
def kwv (w : Nat) : Int := vlN 32 96 (wdI w) 0 (lenS.getD w 0)
theorem kwv_inj : ∀ i : Nat, i < 8 → ∀ j : Nat, j < 8 → kwv i = kwv j → i = j := by decide +kernel
def nmS (s : Stm) : List Int := match s.1 with
  | 0 => [s.2.1]
  | 1 => [s.2.1, s.2.2.1, s.2.2.2.1, s.2.2.2.2.1, s.2.2.2.2.2.1, s.2.2.2.2.2.2]
  | 2 => [s.2.1, s.2.2.1, s.2.2.2.1, s.2.2.2.2.1]
  | 3 => [s.2.1]
  | 4 => [s.2.1, s.2.2.1]
  | 5 => [s.2.1, s.2.2.1]
  | _ => []
def RdW (B : Int → Int) (L s : Int) (w : Nat) : Prop := tkK B L s = 1 ∧ vlN 32 96 B s (tkE B L s - s).toNat = kwv w
def RdTs (B : Int → Int) (L : Int) : Int → List Stm → Prop
  | s, [] => s = L
  | s, st :: ss => ∃ e, (RdW B L s (st.1 + 1) ∧ RdT B L (tkE B L s) (nmS st) e) ∧ RdTs B L (tkS B L e) ss
theorem Rd_word {w : Nat} (hw : w < 8) (hq : RdQ B L q) (h : RdC B L q S0 s S) : ∃ b, fn_Reader_isWord 61 w S = some b ∧ (b = true ↔ RdW B L s w) := C_word hw h.1.1 (by have := hq.1; have := h.2.1; omega) h.2.2.1
theorem Rd_stm {st : Stm} (hq : RdQ B L q) (h : RdC B L q S0 s S) (hd : RdD V S) (hM : M → (RdW B L s (st.1 + 1) ∧ RdT B L (tkE B L s) (nmS st) e) ∧ OkS V st) : RdZ M S0 q (RdF B L q S0 s (fun V' p' => M → V' = apS V st ∧ p' = e)) (fn_Reader_readStatement 61 S) := by
  obtain ⟨b1, w1, m1⟩ := Rd_word (w := 1) (by decide) hq h
  obtain ⟨b2, w2, m2⟩ := Rd_word (w := 2) (by decide) hq h
  obtain ⟨b3, w3, m3⟩ := Rd_word (w := 3) (by decide) hq h
  obtain ⟨b4, w4, m4⟩ := Rd_word (w := 4) (by decide) hq h
  obtain ⟨b5, w5, m5⟩ := Rd_word (w := 5) (by decide) hq h
  obtain ⟨b6, w6, m6⟩ := Rd_word (w := 6) (by decide) hq h
  obtain ⟨b7, w7, m7⟩ := Rd_word (w := 7) (by decide) hq h
  have L6 := h.1.1.1.1
  have qb := hq.1
  obtain ⟨k, x0, x1, x2, x3, x4, x5⟩ := st
  have kb : M → k < 6 := fun m => by
    have hk := (hM m).2
    by_cases c : k < 6
    · exact c
    · exfalso
      obtain ⟨j, rfl⟩ : ∃ j, k = j + 6 := ⟨k - 6, by omega⟩
      exact hk
  have key : ∀ w : Nat, w < 8 → RdW B L s w → M → k + 1 = w := fun w hw hw' m => by
    have k6 := kb m
    exact kwv_inj (k + 1) (by omega) w hw ((hM m).1.1.2.symm.trans hw'.2)
  unfold fn_Reader_readStatement
  rw [w1, bnO_s]
  cases b1 with
  | true =>
    rw [if_pos rfl, bnO_eta]
    have hw := m1.mp rfl
    have kk : M → k = 0 := fun m => by have := key 1 (by decide) hw m; omega
    refine (Rd_color (M := M) (x := x0) (e := e) hq h hw.1 hd (fun m => ?_)).mono (fun S' h' => ?_)
    · have k0 := kk m
      subst k0
      exact ⟨(hM m).1.2, (hM m).2⟩
    · obtain ⟨V', p', y1, y2, y3, y4⟩ := h'
      refine ⟨V', p', y1, y2, y3, fun m => ?_⟩
      have k0 := kk m
      subst k0
      exact y4 m
  | false =>
  have n1 : ¬ RdW B L s 1 := fun z => Bool.false_ne_true (m1.mpr z)
  rw [if_neg Bool.false_ne_true, w2, bnO_s]
  cases b2 with
  | true =>
    rw [if_pos rfl, bnO_eta]
    have hw := m2.mp rfl
    have kk : M → k = 1 := fun m => by have := key 2 (by decide) hw m; omega
    refine (Rd_ad (M := M) (x0 := x0) (x1 := x1) (x2 := x2) (x3 := x3) (x4 := x4) (x5 := x5) (e := e) hq h hw.1 hd (fun m => ?_)).mono (fun S' h' => ?_)
    · have k0 := kk m
      subst k0
      obtain ⟨h0, h1, h2, h3, h4, h5, h6⟩ := (hM m).2
      dsimp only at h0 h1 h2 h3 h4 h5 h6
      exact ⟨(hM m).1.2, by omega, h1, by omega, by omega, h4, by omega, by omega⟩
    · obtain ⟨V', p', y1, y2, y3, y4⟩ := h'
      refine ⟨V', p', y1, y2, y3, fun m => ?_⟩
      have k0 := kk m
      subst k0
      exact y4 m
  | false =>
  have n2 : ¬ RdW B L s 2 := fun z => Bool.false_ne_true (m2.mpr z)
  rw [if_neg Bool.false_ne_true, w3, bnO_s]
  cases b3 with
  | true =>
    rw [if_pos rfl, bnO_eta]
    have hw := m3.mp rfl
    have kk : M → k = 2 := fun m => by have := key 3 (by decide) hw m; omega
    refine (Rd_story (M := M) (x0 := x0) (x1 := x1) (x2 := x2) (x3 := x3) (e := e) hq h hw.1 hd (fun m => ?_)).mono (fun S' h' => ?_)
    · have k0 := kk m
      subst k0
      obtain ⟨h0, h1, h2, h3, h4⟩ := (hM m).2
      dsimp only at h0 h1 h2 h3 h4
      exact ⟨(hM m).1.2, by omega, by omega, by omega, h3, by omega⟩
    · obtain ⟨V', p', y1, y2, y3, y4⟩ := h'
      refine ⟨V', p', y1, y2, y3, fun m => ?_⟩
      have k0 := kk m
      subst k0
      exact y4 m
  | false =>
  have n3 : ¬ RdW B L s 3 := fun z => Bool.false_ne_true (m3.mpr z)
  rw [if_neg Bool.false_ne_true, w4, bnO_s]
  cases b4 with
  | true =>
    rw [if_pos rfl, bnO_eta]
    have hw := m4.mp rfl
    have kk : M → k = 3 := fun m => by have := key 4 (by decide) hw m; omega
    refine (Rd_standby (M := M) (x := x0) (e := e) hq h hw.1 hd (fun m => ?_)).mono (fun S' h' => ?_)
    · have k0 := kk m
      subst k0
      obtain ⟨h0, h1⟩ := (hM m).2
      dsimp only at h0 h1
      exact ⟨(hM m).1.2, by omega, h1⟩
    · obtain ⟨V', p', y1, y2, y3, y4⟩ := h'
      refine ⟨V', p', y1, y2, y3, fun m => ?_⟩
      have k0 := kk m
      subst k0
      exact y4 m
  | false =>
  have n4 : ¬ RdW B L s 4 := fun z => Bool.false_ne_true (m4.mpr z)
  rw [if_neg Bool.false_ne_true, w5, bnO_s]
  cases b5 with
  | true =>
    rw [if_pos rfl, bnO_eta]
    have hw := m5.mp rfl
    have kk : M → k = 4 := fun m => by have := key 5 (by decide) hw m; omega
    refine (Rd_close (M := M) (x := x0) (y := x1) (e := e) hq h hw.1 hd (fun m => ?_)).mono (fun S' h' => ?_)
    · have k0 := kk m
      subst k0
      obtain ⟨h0, h1⟩ := (hM m).2
      dsimp only at h0 h1
      exact ⟨(hM m).1.2, h0, by omega⟩
    · obtain ⟨V', p', y1, y2, y3, y4⟩ := h'
      refine ⟨V', p', y1, y2, y3, fun m => ?_⟩
      have k0 := kk m
      subst k0
      exact y4 m
  | false =>
  have n5 : ¬ RdW B L s 5 := fun z => Bool.false_ne_true (m5.mpr z)
  rw [if_neg Bool.false_ne_true, w6, bnO_s]
  cases b6 with
  | true =>
    rw [if_pos rfl, bnO_eta]
    have hw := m6.mp rfl
    have kk : M → k = 5 := fun m => by have := key 6 (by decide) hw m; omega
    refine (Rd_put (M := M) (x := x0) (y := x1) (e := e) hq h hw.1 hd (fun m => ?_)).mono (fun S' h' => ?_)
    · have k0 := kk m
      subst k0
      obtain ⟨h0, h1, h2, h3⟩ := (hM m).2
      exact ⟨(hM m).1.2, h0, h1, h3, h2⟩
    · obtain ⟨V', p', y1, y2, y3, y4⟩ := h'
      refine ⟨V', p', y1, y2, y3, fun m => ?_⟩
      have k0 := kk m
      subst k0
      exact y4 m
  | false =>
  have n6 : ¬ RdW B L s 6 := fun z => Bool.false_ne_true (m6.mpr z)
  have nM : ¬ M := fun m => by
    have k6 := kb m
    have hw := (hM m).1.1
    have : k = 0 ∨ k = 1 ∨ k = 2 ∨ k = 3 ∨ k = 4 ∨ k = 5 := by omega
    rcases this with rfl | rfl | rfl | rfl | rfl | rfl
    · exact n1 hw
    · exact n2 hw
    · exact n3 hw
    · exact n4 hw
    · exact n5 hw
    · exact n6 hw
  rw [if_neg Bool.false_ne_true, w7, bnO_s]
  cases b7 with
  | true =>
    rw [if_pos rfl, bnO_eta]
    refine (Rd_lay (M := M) hq h (m7.mp rfl).1 hd nM).mono (fun S' h' => ?_)
    obtain ⟨V', p', y1, y2, y3, -⟩ := h'
    exact ⟨V', p', y1, y2, y3, fun m => absurd m nM⟩
  | false =>
    rw [if_neg Bool.false_ne_true]
    exact RdZ.fail h.1.2 h.2.2.1.1 h.2.1 (by omega) (by decide) nM (fun _ => rfl)
theorem Rd_loop : ∀ (m : Nat) (s c : Int) (S : St) (V : Vw) (k : Nat) (ss : List Stm), RdQ B L q → RdC B L q S0 s S → RdD V S → L - s ≤ m → 0 ≤ c → c ≤ s → m + 1 < k → (M → RdTs B L s ss ∧ OkL V ss) →
    (∃ S' V' c', lp (fun go p0 => lb_Reader_readText_55 61 go p0.1 p0.2.1 p0.2.2) k (c, c, S) = some (.inr (c', S')) ∧ (0 ≤ c' ∧ c' ≤ 1600) ∧ FlC S0 S' ∧ RdD V' S' ∧ q = L ∧ (M → c' = c + ss.length ∧ V' = apL V ss) ∧ (g S' 61 6 = 0 ∧ g S' 61 7 = -1)) ∨
    (¬ M ∧ ∃ S', lp (fun go p0 => lb_Reader_readText_55 61 go p0.1 p0.2.1 p0.2.2) k (c, c, S) = some (.inl (-1, S')) ∧ RdE S0 q S')
  | m, s, c, S, V, k + 1, ss, hq, h, hd, hm, h0, h1, hk, hM => by
    have tx := h.1.1.1
    have L6 := tx.1
    have qb := hq.1
    have hs := h.2.1
    have k0 := tkK_0 tx (s := s) (by omega)
    rw [lp_succ]
    by_cases z : s = L
    · refine .inl ⟨S, V, c, ?_, ⟨h0, by omega⟩, h.1.2, hd, by omega, fun w => ?_, h.2.2.2⟩
      · show lb_Reader_readText_55 61 _ c c S = _
        unfold lb_Reader_readText_55
        rw [if_neg (by omega), h.2.2.1.2.2, if_pos (k0.mpr z)]
      · cases ss with
        | nil => exact ⟨(Int.add_zero c).symm, rfl⟩
        | cons st ss' =>
          obtain ⟨e, ⟨⟨w1, -⟩, -⟩, -⟩ := (hM w).1
          have := k0.mpr z
          omega
    · have nk : ¬ tkK B L s = 0 := fun w => z (k0.mp w)
      have step : ∀ (st : Stm) (e : Int) (ss' : List Stm), (M → ((RdW B L s (st.1 + 1) ∧ RdT B L (tkE B L s) (nmS st) e) ∧ OkS V st) ∧ (RdTs B L (tkS B L e) ss' ∧ OkL (apS V st) ss') ∧ ss = st :: ss') →
          (∃ S' V' c', lb_Reader_readText_55 61 (lp (fun go p0 => lb_Reader_readText_55 61 go p0.1 p0.2.1 p0.2.2) k) c c S = some (.inr (c', S')) ∧ (0 ≤ c' ∧ c' ≤ 1600) ∧ FlC S0 S' ∧ RdD V' S' ∧ q = L ∧ (M → c' = c + ss.length ∧ V' = apL V ss) ∧ (g S' 61 6 = 0 ∧ g S' 61 7 = -1)) ∨ (¬ M ∧ ∃ S', lb_Reader_readText_55 61 (lp (fun go p0 => lb_Reader_readText_55 61 go p0.1 p0.2.1 p0.2.2) k) c c S = some (.inl (-1, S')) ∧ RdE S0 q S') := fun st e ss' hS => by
        rcases Rd_stm (M := M) (st := st) (e := e) hq h hd (fun w => (hS w).1) with ⟨S1, e1, V1, p1, y1, y2, y3, y4⟩ | ⟨nM, S1, e1, er⟩
        · obtain ⟨S2, e3, cu, o2⟩ := y2.next hq
          have sb := hq.tS y2.2.1
          have pb := y2.2.1
          obtain ⟨m', rfl⟩ : ∃ m', m = m' + 1 := ⟨m - 1, by omega⟩
          have qq := Rd_loop m' (tkS B L p1) (c + 1) S2 V1 k ss' hq cu (y3.off o2) (by omega) (by omega) (by omega) (by omega) (fun w => by
            obtain ⟨v1, v2⟩ := y4 w
            rw [v1, v2]
            exact (hS w).2.1)
          have bC : ∀ go, lb_Reader_readText_55 61 go c c S = go (c + 1, c + 1, S2) := fun go => by
            unfold lb_Reader_readText_55
            rw [if_neg (by omega), h.2.2.1.2.2, if_neg nk, e1, bnO_s, if_pos rfl, nm_x, e3, bnO_s, nm_x, wr_s (by omega) (by omega)]
          rw [bC]
          rcases qq with ⟨S', V', c', z1, z2, z3, z4, z5, z6, z7⟩ | z
          · refine .inl ⟨S', V', c', z1, z2, z3, z4, z5, fun w => ?_, z7⟩
            obtain ⟨u1, u2⟩ := z6 w
            have es := (hS w).2.2
            have v1 := (y4 w).1
            rw [es]
            refine ⟨?_, ?_⟩
            · rw [u1, List.length_cons]; omega
            · rw [u2, v1]; rfl
          · exact .inr z
        · refine .inr ⟨nM, S1, ?_, er⟩
          unfold lb_Reader_readText_55
          rw [if_neg (by omega), h.2.2.1.2.2, if_neg nk, e1, bnO_s, if_neg Bool.false_ne_true]
      by_cases w : M
      · cases ss with
        | nil => exact absurd (hM w).1 z
        | cons st ss' =>
          obtain ⟨e, e1, e2⟩ := (hM w).1
          exact step st e ss' (fun _ => ⟨⟨e1, (hM w).2.1⟩, ⟨e2, (hM w).2.2⟩, rfl⟩)
      · exact step (sSb 0) 0 [] (fun m => absurd m w)
end RdStm
