/-! THE REFERENCE'S BLOCKS -/
section Blocks
variable {S : St}
theorem M_copy {b1 b2 : Nat} (h1 : b1 ≤ 22) (h2 : b2 ≤ 22) : ∃ S', fn_Mo_copyBlock 514 (b1 : Int) (b2 : Int) S = some S' ∧ Off S S' 515 516 ∧ (∀ x, x < 380 → g S' 515 (380 * b2 + x) = g S 515 (380 * b1 + x)) ∧ (∀ f, (f < 380 * b2 ∨ 380 * b2 + 380 ≤ f) → g S' 515 f = g S 515 f) := by
  obtain ⟨S', e, h0, o, hN, hK⟩ := lp_inv (body := fun go p0 => lb_Mo_copyBlock_2 514 (b1 : Int) (b2 : Int) go p0.1 p0.2) (fun i s => (i, s)) id (fun i t => (0 ≤ i ∧ i ≤ 380) ∧ Off S t 515 516 ∧ (∀ x : Nat, (x : Int) < i → g t 515 (380 * b2 + x) = g S 515 (380 * b1 + x)) ∧ (∀ f : Nat, (f < 380 * b2 ∨ 380 * (b2 : Int) + i ≤ f) → g t 515 f = g S 515 f)) 380
    (fun go i t hI hi => by
      show lb_Mo_copyBlock_2 514 (b1 : Int) (b2 : Int) go i t = _
      unfold lb_Mo_copyBlock_2
      rw [if_pos hi]; rfl)
    (fun go i t hI hi => by
      obtain ⟨⟨hi0, hi1⟩, hO, hN, hK⟩ := hI
      refine ⟨u t 515 (380 * (b2 : Int) + i).toNat (g t 515 (380 * (b1 : Int) + i).toNat), ?_, by omega, hO.tu (Nat.le_refl _) (by omega), fun x hx => ?_, fun f hf => ?_⟩
      · show lb_Mo_copyBlock_2 514 (b1 : Int) (b2 : Int) go i t = _
        unfold lb_Mo_copyBlock_2
        rw [if_neg (by omega), if_pos (by omega), if_pos (by omega), tg_514_0, nm_x, nm_x, wr_s (by omega) (by omega)]
      · by_cases c : (x : Int) = i
        · rw [show (380 * (b2 : Int) + i).toNat = 380 * b2 + x by omega, g_eq, wr_g, show (380 * (b1 : Int) + i).toNat = 380 * b1 + x by omega]
          exact hK _ (by omega)
        · rw [g_ne (by omega)]
          exact hN x (by omega)
      · rw [g_ne (by omega)]
        exact hK f (by omega)) 380 FU 0 S ⟨by omega, Off.refl, fun x hx => by omega, fun f _ => rfl⟩ (by omega) (by omega) (FU_lt (by omega))
  refine ⟨S', ?_, o, fun x hx => hN x (by omega), fun f hf => hK f (by omega)⟩
  unfold fn_Mo_copyBlock
  have e2 : lo_Mo_copyBlock_2 514 (b1 : Int) (b2 : Int) FU (0, S) = some S' := e
  rw [e2, bnO_s]
theorem vM_eqv {S' : St} {b b' : Nat} (hV : Val (vM S b)) (h1 : g S' 514 1 = g S 514 1) (h2 : g S' 514 2 = g S 514 2) (hc : ∀ x, x < 380 → g S' 515 (380 * b' + x) = g S 515 (380 * b + x)) : vM S' b' = vM S b := by
  have bb := hV.z
  have bA : g S 515 (380 * b + 1) ≤ 40 := bb.1.2
  have bS : g S 515 (380 * b + 2) ≤ 10 := bb.2.1.2
  have bB : g S 515 (380 * b + 3) ≤ 8 := bb.2.2.1.2
  have bF : g S 514 1 ≤ 4 := bb.2.2.2.1.2
  have e0 : g S' 515 (380 * b') = g S 515 (380 * b) := hc 0 (by omega)
  have e1 : g S' 515 (380 * b' + 1) = g S 515 (380 * b + 1) := hc 1 (by omega)
  have e2 : g S' 515 (380 * b' + 2) = g S 515 (380 * b + 2) := hc 2 (by omega)
  have e3 : g S' 515 (380 * b' + 3) = g S 515 (380 * b + 3) := hc 3 (by omega)
  have e4 : g S' 515 (380 * b' + 4) = g S 515 (380 * b + 4) := hc 4 (by omega)
  funext k i
  unfold vM
  by_cases k1 : k < 7
  · simp only [k1, if_true]
    rw [e1]
    by_cases c : (i : Int) < g S 515 (380 * b + 1)
    · rw [if_pos c, if_pos c]
      have q := hc (29 + 7 * i + k) (by omega)
      rw [show 380 * b' + 29 + 7 * i + k = 380 * b' + (29 + 7 * i + k) by omega, show 380 * b + 29 + 7 * i + k = 380 * b + (29 + 7 * i + k) by omega, q]
    · rw [if_neg c, if_neg c]
  · by_cases k2 : k < 12
    · simp only [k1, k2, if_true, if_false]
      rw [e2]
      by_cases c : (i : Int) < g S 515 (380 * b + 2)
      · rw [if_pos c, if_pos c]
        have q := hc (309 + 5 * i + (k - 7)) (by omega)
        rw [show 380 * b' + 309 + 5 * i + (k - 7) = 380 * b' + (309 + 5 * i + (k - 7)) by omega, show 380 * b + 309 + 5 * i + (k - 7) = 380 * b + (309 + 5 * i + (k - 7)) by omega, q]
      · rw [if_neg c, if_neg c]
    · by_cases k3 : k < 14
      · simp only [k1, k2, k3, if_true, if_false]
        rw [e3]
        by_cases c : (i : Int) < g S 515 (380 * b + 3)
        · rw [if_pos c, if_pos c]
          have q := hc (359 + 2 * i + (k - 12)) (by omega)
          rw [show 380 * b' + 359 + 2 * i + (k - 12) = 380 * b' + (359 + 2 * i + (k - 12)) by omega, show 380 * b + 359 + 2 * i + (k - 12) = 380 * b + (359 + 2 * i + (k - 12)) by omega, q]
        · rw [if_neg c, if_neg c]
      · by_cases k4 : k < 17
        · simp only [k1, k2, k3, k4, if_true, if_false]
          rw [h1]
          by_cases c : (i : Int) < 2 * g S 514 1
          · rw [if_pos c, if_pos c]
            have q := hc (5 + 3 * i + (k - 14)) (by omega)
            rw [show 380 * b' + 5 + 3 * i + (k - 14) = 380 * b' + (5 + 3 * i + (k - 14)) by omega, show 380 * b + 5 + 3 * i + (k - 14) = 380 * b + (5 + 3 * i + (k - 14)) by omega, q]
          · rw [if_neg c, if_neg c]
        · simp only [k1, k2, k3, k4, if_false]
          rw [h1, h2, e0, e1, e2, e3, e4]
/-- a block that nobody wrote into -/
theorem vM_lw {S' : St} {b : Nat} (hb : 1 ≤ b) (h1 : g S' 514 1 = g S 514 1) (h2 : g S' 514 2 = g S 514 2) (hc : ∀ f, 380 ≤ f → g S' 515 f = g S 515 f) : vM S' b = vM S b := by
  have e : ∀ x, g S' 515 (380 * b + x) = g S 515 (380 * b + x) := fun x => hc _ (by omega)
  have e0 : g S' 515 (380 * b) = g S 515 (380 * b) := e 0
  funext k i
  unfold vM
  rw [h1, h2, e0]
  simp only [Nat.add_assoc, e]
end Blocks
/-! WHAT MAKES A STATE GOOD -/
def Flw (W : Vw) : Prop := ∀ a, 0 ≤ a → a < nA W → 0 < at_ W 6 a → (at_ W 2 a = 1 → coP W (at_ W 6 a) = true) ∧ onSd (at_ W 6 a) (at_ W 3 a) = true ∧ rivl W a (at_ W 6 a / 2) = false
def Due (W : Vw) : Prop := ∀ f, 0 ≤ f → f < frm W → at_ W 15 f = 0 → at_ W 16 f = -1 ∨ tm W < at_ W 16 f
def Good (W : Vw) : Prop := Val W ∧ Wf W ∧ Flw W ∧ Due W
/-! THE HISTORY: n states, the oldest first -/
def HCl (S : St) (n : Int) (hs : Int → Vw) : Prop := (0 ≤ n ∧ n ≤ 20) ∧ g S 63 2 = n ∧ (0 ≤ g S 63 1 ∧ g S 63 1 < 20) ∧ ∀ j, 0 ≤ j → j < n → vC S (65 + 22 * ((g S 63 1 - n + j) % 20).toNat) = hs j
def HMo (S : St) (n : Int) (hs : Int → Vw) : Prop := g S 514 3 = n ∧ ∀ j, 0 ≤ j → j < n → vM S (3 + j.toNat) = hs j
def HGd (n : Int) (hs : Int → Vw) : Prop := ∀ j, 0 ≤ j → j < n → Good (hs j)
def hpn (n : Int) : Int := if n = 20 then 20 else n + 1
def hph (n : Int) (hs : Int → Vw) (W : Vw) : Int → Vw := fun j => if n = 20 then (if j = 19 then W else hs (j + 1)) else (if j = n then W else hs j)
theorem HGd.push {n : Int} {hs : Int → Vw} {W : Vw} (h : HGd n hs) (hW : Good W) : HGd (hpn n) (hph n hs W) := by
  intro j h1 h2
  unfold hph
  unfold hpn at h2
  by_cases c : n = 20
  · rw [if_pos c] at h2 ⊢
    by_cases d : j = 19
    · rw [if_pos d]; exact hW
    · rw [if_neg d]; exact h (j + 1) (by omega) (by omega)
  · rw [if_neg c] at h2 ⊢
    by_cases d : j = n
    · rw [if_pos d]; exact hW
    · rw [if_neg d]; exact h j h1 (by omega)
section Hist
variable {S : St} {n : Int} {hs : Int → Vw} {W : Vw}
theorem HCl.off {S' : St} {lo hi : Nat} (h : HCl S n hs) (ho : Off S S' lo hi) (hl : hi ≤ 63 ∨ 505 ≤ lo) : HCl S' n hs := by
  obtain ⟨h1, h2, h3, h4⟩ := h
  have e1 : g S' 63 1 = g S 63 1 := ho.rd (by omega)
  have e2 : g S' 63 2 = g S 63 2 := ho.rd (by omega)
  refine ⟨h1, by rw [e2]; exact h2, by rw [e1]; exact h3, fun j j1 j2 => ?_⟩
  rw [e1, vC_off ho (by omega)]
  exact h4 j j1 j2
theorem HMo.off {S' : St} {lo hi : Nat} (h : HMo S n hs) (ho : Off S S' lo hi) (hl : hi ≤ 514 ∨ 516 ≤ lo) : HMo S' n hs := by
  obtain ⟨h1, h2⟩ := h
  have e : ∀ f, g S' 514 f = g S 514 f := fun f => ho.rd (by omega)
  have e' : ∀ f, g S' 515 f = g S 515 f := fun f => ho.rd (by omega)
  refine ⟨by rw [e]; exact h1, fun j j1 j2 => ?_⟩
  rw [← h2 j j1 j2]
  exact vM_lw (by omega) (e 1) (e 2) (fun f _ => e' f)
theorem HMo.low {S' : St} (h : HMo S n hs) (h1 : g S' 514 1 = g S 514 1) (h2 : g S' 514 2 = g S 514 2) (h3 : g S' 514 3 = g S 514 3) (hc : ∀ f, 380 ≤ f → g S' 515 f = g S 515 f) : HMo S' n hs := by
  refine ⟨by rw [h3]; exact h.1, fun j j1 j2 => ?_⟩
  rw [← h.2 j j1 j2]
  exact vM_lw (by omega) h1 h2 hc
theorem tg_64 {i : Nat} (h : i < 20) : tgt 64 i = 65 + 22 * i := by
  have q : (List.range 20).all (fun i => Nat.beq (tgt 64 i) (65 + 22 * i)) = true := by decide +kernel
  exact Nat.eq_of_beq_eq_true (List.all_eq_true.mp q i (List.mem_range.mpr h))
theorem H_keep (h : HCl S n hs) (hv : vC S 6 = W) (hV : Val W) : ∃ S', fn_History_keep 63 6 S = some S' ∧ Off S S' 63 505 ∧ HCl S' (hpn n) (hph n hs W) := by
  obtain ⟨h1, h2, h3, h4⟩ := h
  obtain ⟨S1, e1, o1, v1⟩ := C_state (S := S) (s0 := 65 + 22 * (g S 63 1).toNat) (s1 := 6) (.inr (.inr ⟨(g S 63 1).toNat, by omega, rfl⟩)) (.inl rfl) (by omega) (by rw [hv]; exact hV)
  have n1 : g S1 63 1 = g S 63 1 := o1.rd (by omega)
  have n2 : g S1 63 2 = n := by rw [o1.rd (by omega)]; exact h2
  have O1 : Off S S1 63 505 := o1.mono (by omega) (by omega)
  obtain ⟨nx, enx⟩ : ∃ nx, nx = g S 63 1 := ⟨_, rfl⟩
  rw [← enx] at h3 h4 e1 o1 v1 n1
  have key : ∀ S' : St, Off S1 S' 63 64 → g S' 63 1 = (if nx + 1 < 20 then nx + 1 else 0) → g S' 63 2 = hpn n → HCl S' (hpn n) (hph n hs W) := by
    intro S' o' g1 g2
    refine ⟨by unfold hpn; split <;> omega, g2, by rw [g1]; split <;> omega, fun j j1 j2 => ?_⟩
    rw [vC_off o' (by omega), g1]
    unfold hpn at j2 ⊢
    unfold hph
    have sp : ∀ i : Nat, i < 20 → i ≠ nx.toNat → vC S1 (65 + 22 * i) = vC S (65 + 22 * i) := fun i h1 h2 => vC_off o1 (by omega)
    by_cases c : n = 20
    · rw [if_pos c] at j2 ⊢
      rw [if_pos c]
      by_cases d : j = 19
      · rw [if_pos d, show (((if nx + 1 < 20 then nx + 1 else 0) - 20 + j) % 20).toNat = nx.toNat by split <;> omega, v1, hv]
      · rw [if_neg d, sp _ (by omega) (by split <;> omega), ← h4 (j + 1) (by omega) (by omega)]
        congr 4
        split <;> omega
    · rw [if_neg c] at j2 ⊢
      rw [if_neg c]
      by_cases d : j = n
      · rw [if_pos d, show (((if nx + 1 < 20 then nx + 1 else 0) - (n + 1) + j) % 20).toNat = nx.toNat by split <;> omega, v1, hv]
      · rw [if_neg d, sp _ (by omega) (by split <;> omega), ← h4 j (by omega) (by omega)]
        congr 4
        split <;> omega
  have en : i_min (wr (n + 1)) 20 = hpn n := by
    rw [wr_s (by omega) (by omega)]
    unfold i_min hpn
    split <;> split <;> omega
  have hb : hpn n ≤ 20 ∧ 0 ≤ hpn n := by unfold hpn; split <;> omega
  unfold fn_History_keep
  rw [← enx, if_pos h3, tg_63_0, tg_64 (by omega), e1, bnO_s, n1, nm_x, wr_s (by omega) (by omega)]
  by_cases c : 20 ≤ nx + 1
  · rw [if_pos c, nm_x, nm_x, nm_x]
    refine ⟨_, rfl, (O1.tu (by omega) (by omega)).tu (by omega) (by omega), key _ ((Off.wt (by omega) (by omega)).tu (by omega) (by omega)) ?_ ?_⟩
    · rw [g_ne (by omega), g_eq, if_neg (by omega), wr_s (by omega) (by omega)]
    · rw [g_eq, g_ne (by omega), n2, en, wr_s (by omega) (by omega)]
  · rw [if_neg c, nm_x, nm_x, nm_x]
    refine ⟨_, rfl, (O1.tu (by omega) (by omega)).tu (by omega) (by omega), key _ ((Off.wt (by omega) (by omega)).tu (by omega) (by omega)) ?_ ?_⟩
    · rw [g_ne (by omega), g_eq, if_pos (by omega), wr_s (by omega) (by omega)]
    · rw [g_eq, g_ne (by omega), n2, en, wr_s (by omega) (by omega)]
theorem M_record (hn : 0 ≤ n ∧ n ≤ 20) (h : HMo S n hs) (hg : HGd n hs) (hM : MV S W) : ∃ S', fn_Mo_record 514 S = some S' ∧ Off S S' 514 516 ∧ (∀ f, f ≠ 3 → g S' 514 f = g S 514 f) ∧ MV S' W ∧ HMo S' (hpn n) (hph n hs W) := by
  obtain ⟨h1, h2⟩ := h
  -- one block more behind m of them
  have key : ∀ (T : St) (m : Int) (hs' : Int → Vw), 0 ≤ m → m < 20 → g T 514 3 = m → (∀ j, 0 ≤ j → j < m → vM T (3 + j.toNat) = hs' j ∧ Val (hs' j)) → MV T W → ∃ T', fn_Mo_copyBlock 514 0 (3 + m) T = some T' ∧ Off T T' 515 516 ∧ MV T' W ∧ (∀ j, 0 ≤ j → j < m → vM T' (3 + j.toNat) = hs' j) ∧ vM T' (3 + m.toNat) = W := by
    intro T m hs' m0 m1 g3 hh hM
    obtain ⟨T', e, o, hc, hk⟩ := M_copy (S := T) (b1 := 0) (b2 := 3 + m.toNat) (by omega) (by omega)
    have g1 : ∀ f, g T' 514 f = g T 514 f := fun f => o.rd (by omega)
    refine ⟨T', ?_, o, ⟨?_, hM.2⟩, fun j j1 j2 => ?_, ?_⟩
    · rw [show ((0 : Nat) : Int) = 0 from rfl, show ((3 + m.toNat : Nat) : Int) = 3 + m by omega] at e
      exact e
    · rw [← hM.1]
      exact vM_eqv (by rw [hM.1]; exact hM.2) (g1 1) (g1 2) (fun x hx => hk _ (by omega))
    · rw [← (hh j j1 j2).1]
      exact vM_eqv (by rw [(hh j j1 j2).1]; exact (hh j j1 j2).2) (g1 1) (g1 2) (fun x hx => hk _ (by omega))
    · rw [← hM.1]
      exact vM_eqv (by rw [hM.1]; exact hM.2) (g1 1) (g1 2) (fun x hx => hc x hx)
  unfold fn_Mo_record
  by_cases c : n = 20
  · rw [h1, if_pos c]
    obtain ⟨T, e, i0, o, hMT, hsh, hup⟩ := lp_inv (body := fun go p0 => lb_Mo_record_11 514 go p0.1 p0.2) (fun i s => (i, s)) id (fun i t => (1 ≤ i ∧ i ≤ 20) ∧ Off S t 515 516 ∧ MV t W ∧ (∀ j, 0 ≤ j → j < i - 1 → vM t (3 + j.toNat) = hs (j + 1)) ∧ (∀ j, i - 1 ≤ j → j < 20 → vM t (3 + j.toNat) = hs j)) 20
      (fun go i t hI hi => by
        show lb_Mo_record_11 514 go i t = _
        unfold lb_Mo_record_11
        rw [if_pos hi]; rfl)
      (fun go i t hI hi => by
        obtain ⟨⟨i0, i1⟩, hO, hMt, ha, hb⟩ := hI
        obtain ⟨t', e, o, hc, hk⟩ := M_copy (S := t) (b1 := 3 + i.toNat) (b2 := 3 + (i - 1).toNat) (by omega) (by omega)
        have g1 : ∀ f, g t' 514 f = g t 514 f := fun f => o.rd (by omega)
        refine ⟨t', ?_, by omega, hO.trans o, ⟨?_, hMt.2⟩, fun j j1 j2 => ?_, fun j j1 j2 => ?_⟩
        · show lb_Mo_record_11 514 go i t = _
          unfold lb_Mo_record_11
          rw [if_neg (by omega), nm_x, wr_s (by omega) (by omega), nm_x, wr_s (by omega) (by omega), show (3 : Int) + i = ((3 + i.toNat : Nat) : Int) by omega, show ((3 + i.toNat : Nat) : Int) - 1 = ((3 + (i - 1).toNat : Nat) : Int) by omega, e, bnO_s, nm_x, wr_s (by omega) (by omega)]
        · rw [← hMt.1]
          exact vM_eqv (by rw [hMt.1]; exact hMt.2) (g1 1) (g1 2) (fun x hx => hk _ (by omega))
        · by_cases d : j = i - 1
          · subst d
            have q := hb i (by omega) hi
            have v := (hg i (by omega) (by omega)).1
            rw [show i - 1 + 1 = i by omega, ← q]
            exact vM_eqv (by rw [q]; exact v) (g1 1) (g1 2) hc
          · have q := ha j j1 (by omega)
            have v := (hg (j + 1) (by omega) (by omega)).1
            rw [← q]
            exact vM_eqv (by rw [q]; exact v) (g1 1) (g1 2) (fun x hx => hk _ (by omega))
        · have q := hb j (by omega) j2
          have v := (hg j (by omega) (by omega)).1
          rw [← q]
          exact vM_eqv (by rw [q]; exact v) (g1 1) (g1 2) (fun x hx => hk _ (by omega))) 19 FU 1 S ⟨by omega, Off.refl, hM, fun j _ _ => by omega, fun j j1 j2 => h2 j (by omega) (by omega)⟩ (by omega) (by omega) (FU_lt (by omega))
    have gT : g T 514 3 = 20 := by rw [o.rd (by omega), h1]; exact c
    obtain ⟨T1, eT1⟩ : ∃ T1, T1 = u T 514 3 19 := ⟨_, rfl⟩
    have g5 : ∀ f, g T1 515 f = g T 515 f := fun f => by rw [eT1]; exact g_ne (by omega)
    have g4 : ∀ f, f ≠ 3 → g T1 514 f = g T 514 f := fun f hf => by rw [eT1]; exact g_ne (by omega)
    have hM1 : MV T1 W := ⟨by rw [← hMT.1]; exact vM_eqv (by rw [hMT.1]; exact hMT.2) (g4 1 (by omega)) (g4 2 (by omega)) (fun x _ => g5 _), hM.2⟩
    have g3 : g T1 514 3 = 19 := by rw [eT1, g_eq]; exact wr_s (by decide) (by decide)
    obtain ⟨T2, e2, o2, hM2, hj, hl⟩ := key T1 19 (fun j => hs (j + 1)) (by decide) (by decide) g3 (fun j j1 j2 => ⟨by rw [← hsh j j1 (by omega)]; exact vM_lw (by omega) (g4 1 (by omega)) (g4 2 (by omega)) (fun f _ => g5 f), (hg (j + 1) (by omega) (by omega)).1⟩) hM1
    have g32 : g T2 514 3 = 19 := by rw [o2.rd (by omega)]; exact g3
    have o24 : ∀ f, g T2 514 f = g T1 514 f := fun f => o2.rd (by omega)
    have e' : lo_Mo_record_11 514 FU (1, S) = some T := e
    have et : u T 514 3 (20 - 1) = T1 := eT1.symm
    rw [e', bnO_s, gT, nm_x, et, g3, nm_x, show wr (3 + 19) = 3 + 19 from wr_s (by decide) (by decide), e2, bnO_s, g32, nm_x]
    refine ⟨_, rfl, ?_, fun f hf => ?_, ⟨?_, hM.2⟩, ⟨?_, fun j j1 j2 => ?_⟩⟩
    · refine Off.tu (((o.mono (by omega) (by omega)).trans ?_).trans (o2.mono (by omega) (by omega))) (by omega) (by omega)
      rw [eT1]; exact Off.wt (by omega) (by omega)
    · rw [g_ne (by omega), o24, g4 f hf, o.rd (by omega)]
    · rw [← hM2.1]
      exact vM_eqv (by rw [hM2.1]; exact hM2.2) (g_ne (by omega)) (g_ne (by omega)) (fun x _ => g_ne (by omega))
    · rw [g_eq]; unfold hpn; rw [if_pos c]; exact wr_s (by decide) (by decide)
    · unfold hpn at j2
      rw [if_pos c] at j2
      unfold hph
      rw [if_pos c, vM_lw (S := T2) (by omega) (g_ne (by omega)) (g_ne (by omega)) (fun f _ => g_ne (by omega))]
      by_cases d : j = 19
      · subst d; rw [if_pos rfl]; exact hl
      · rw [if_neg d]; exact hj j j1 (by omega)
  · rw [h1, if_neg c]
    obtain ⟨T, e, o, hMT, hj, hl⟩ := key S n hs hn.1 (by omega) h1 (fun j j1 j2 => ⟨h2 j j1 j2, (hg j j1 j2).1⟩) hM
    have gT : g T 514 3 = n := by rw [o.rd (by omega)]; exact h1
    rw [nm_x, wr_s (by omega) (by omega), e, bnO_s, gT, nm_x]
    refine ⟨_, rfl, Off.tu (o.mono (by omega) (by omega)) (by omega) (by omega), fun f hf => ?_, ⟨?_, hM.2⟩, ⟨?_, fun j j1 j2 => ?_⟩⟩
    · rw [g_ne (by omega), o.rd (by omega)]
    · rw [← hMT.1]
      exact vM_eqv (by rw [hMT.1]; exact hMT.2) (g_ne (by omega)) (g_ne (by omega)) (fun x _ => g_ne (by omega))
    · rw [g_eq]; unfold hpn; rw [if_neg c]; exact wr_s (by omega) (by omega)
    · unfold hpn at j2
      rw [if_neg c] at j2
      unfold hph
      rw [if_neg c, vM_lw (S := T) (by omega) (g_ne (by omega)) (g_ne (by omega)) (fun f _ => g_ne (by omega))]
      by_cases d : j = n
      · subst d; rw [if_pos rfl]; exact hl
      · rw [if_neg d]; exact hj j j1 (by omega)
end Hist
