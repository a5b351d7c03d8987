/-! THE REFERENCE'S BLOCKS -/
section Blocks
variable {S : St}
end Blocks
/-! WHAT MAKES A STATE GOOD -/
def Flw (W : Vw) : Prop := ∀ a, 0 ≤ a → a < nA W → 0 < at_ W 6 a → (at_ W 2 a = 1 → coP W (at_ W 6 a) = true) ∧ onSd (at_ W 6 a) (at_ W 3 a) = true ∧ rivl W a (at_ W 6 a / 2) = false
def Due (W : Vw) : Prop := ∀ f, 0 ≤ f → f < frm W → at_ W 15 f = 0 → at_ W 16 f = -1 ∨ tm W < at_ W 16 f
def Good (W : Vw) : Prop := Val W ∧ Wf W ∧ Flw W ∧ Due W
/-! THE HISTORY: n states, the oldest first -/
def HCl (S : St) (n : Int) (hs : Int → Vw) : Prop := (0 ≤ n ∧ n ≤ 20) ∧ g S 63 2 = n ∧ (0 ≤ g S 63 1 ∧ g S 63 1 < 20) ∧ ∀ j, 0 ≤ j → j < n → vC S (65 + 22 * ((g S 63 1 - n + j) % 20).toNat) = hs j
def HGd (n : Int) (hs : Int → Vw) : Prop := ∀ j, 0 ≤ j → j < n → Good (hs j)
def hpn (n : Int) : Int := if n = 20 then 20 else n + 1
def hph (n : Int) (hs : Int → Vw) (W : Vw) : Int → Vw := fun j => if n = 20 then (if j = 19 then W else hs (j + 1)) else (if j = n then W else hs j)
theorem HGd.push {n : Int} {hs : Int → Vw} {W : Vw} (h : HGd n hs) (hW : Good W) : HGd (hpn n) (hph n hs W) := by
  intro j h1 h2
  unfold hph
  unfold hpn at h2
  by_cases c : n = 20
  · rw [if_pos c] at h2 ⊢
    by_cases d : j = 19
    · rw [if_pos d]; exact hW
    · rw [if_neg d]; exact h (j + 1) (by omega) (by omega)
  · rw [if_neg c] at h2 ⊢
    by_cases d : j = n
    · rw [if_pos d]; exact hW
    · rw [if_neg d]; exact h j h1 (by omega)
section Hist
variable {S : St} {n : Int} {hs : Int → Vw} {W : Vw}
theorem HCl.off {S' : St} {lo hi : Nat} (h : HCl S n hs) (ho : Off S S' lo hi) (hl : hi ≤ 63 ∨ 505 ≤ lo) : HCl S' n hs := by
  obtain ⟨h1, h2, h3, h4⟩ := h
  have e1 : g S' 63 1 = g S 63 1 := ho.rd (by omega)
  have e2 : g S' 63 2 = g S 63 2 := ho.rd (by omega)
  refine ⟨h1, by rw [e2]; exact h2, by rw [e1]; exact h3, fun j j1 j2 => ?_⟩
  rw [e1, vC_off ho (by omega)]
  exact h4 j j1 j2
theorem tg_64 {i : Nat} (h : i < 20) : tgt 64 i = 65 + 22 * i := by
  have q : (List.range 20).all (fun i => Nat.beq (tgt 64 i) (65 + 22 * i)) = true := by decide +kernel
  exact Nat.eq_of_beq_eq_true (List.all_eq_true.mp q i (List.mem_range.mpr h))
theorem H_keep (h : HCl S n hs) (hv : vC S 6 = W) (hV : Val W) : ∃ S', fn_History_keep 63 6 S = some S' ∧ Off S S' 63 505 ∧ HCl S' (hpn n) (hph n hs W) := by
  obtain ⟨h1, h2, h3, h4⟩ := h
  obtain ⟨S1, e1, o1, v1⟩ := C_state (S := S) (s0 := 65 + 22 * (g S 63 1).toNat) (s1 := 6) (.inr (.inr ⟨(g S 63 1).toNat, by omega, rfl⟩)) (.inl rfl) (by omega) (by rw [hv]; exact hV)
  have n1 : g S1 63 1 = g S 63 1 := o1.rd (by omega)
  have n2 : g S1 63 2 = n := by rw [o1.rd (by omega)]; exact h2
  have O1 : Off S S1 63 505 := o1.mono (by omega) (by omega)
  obtain ⟨nx, enx⟩ : ∃ nx, nx = g S 63 1 := ⟨_, rfl⟩
  rw [← enx] at h3 h4 e1 o1 v1 n1
  have key : ∀ S' : St, Off S1 S' 63 64 → g S' 63 1 = (if nx + 1 < 20 then nx + 1 else 0) → g S' 63 2 = hpn n → HCl S' (hpn n) (hph n hs W) := by
    intro S' o' g1 g2
    refine ⟨by unfold hpn; split <;> omega, g2, by rw [g1]; split <;> omega, fun j j1 j2 => ?_⟩
    rw [vC_off o' (by omega), g1]
    unfold hpn at j2 ⊢
    unfold hph
    have sp : ∀ i : Nat, i < 20 → i ≠ nx.toNat → vC S1 (65 + 22 * i) = vC S (65 + 22 * i) := fun i h1 h2 => vC_off o1 (by omega)
    by_cases c : n = 20
    · rw [if_pos c] at j2 ⊢
      rw [if_pos c]
      by_cases d : j = 19
      · rw [if_pos d, show (((if nx + 1 < 20 then nx + 1 else 0) - 20 + j) % 20).toNat = nx.toNat by split <;> omega, v1, hv]
      · rw [if_neg d, sp _ (by omega) (by split <;> omega), ← h4 (j + 1) (by omega) (by omega)]
        congr 4
        split <;> omega
    · rw [if_neg c] at j2 ⊢
      rw [if_neg c]
      by_cases d : j = n
      · rw [if_pos d, show (((if nx + 1 < 20 then nx + 1 else 0) - (n + 1) + j) % 20).toNat = nx.toNat by split <;> omega, v1, hv]
      · rw [if_neg d, sp _ (by omega) (by split <;> omega), ← h4 j (by omega) (by omega)]
        congr 4
        split <;> omega
  have en : i_min (wr (n + 1)) 20 = hpn n := by
    rw [wr_s (by omega) (by omega)]
    unfold i_min hpn
    split <;> split <;> omega
  have hb : hpn n ≤ 20 ∧ 0 ≤ hpn n := by unfold hpn; split <;> omega
  unfold fn_History_keep
  rw [← enx, if_pos h3, tg_63_0, tg_64 (by omega), e1, bnO_s, n1, nm_x, wr_s (by omega) (by omega)]
  by_cases c : 20 ≤ nx + 1
  · rw [if_pos c, nm_x, nm_x, nm_x]
    refine ⟨_, rfl, (O1.tu (by omega) (by omega)).tu (by omega) (by omega), key _ ((Off.wt (by omega) (by omega)).tu (by omega) (by omega)) ?_ ?_⟩
    · rw [g_ne (by omega), g_eq, if_neg (by omega), wr_s (by omega) (by omega)]
    · rw [g_eq, g_ne (by omega), n2, en, wr_s (by omega) (by omega)]
  · rw [if_neg c, nm_x, nm_x, nm_x]
    refine ⟨_, rfl, (O1.tu (by omega) (by omega)).tu (by omega) (by omega), key _ ((Off.wt (by omega) (by omega)).tu (by omega) (by omega)) ?_ ?_⟩
    · rw [g_ne (by omega), g_eq, if_pos (by omega), wr_s (by omega) (by omega)]
    · rw [g_eq, g_ne (by omega), n2, en, wr_s (by omega) (by omega)]
end Hist

