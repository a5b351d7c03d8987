/-! nearRivals -/
section Near
variable {S T : St} {W : Vw} {n : Int} {hs : Int → Vw}
theorem tri_sum {f : Int → Int → Int} (h0 : ∀ a, f a a = 0) : ∀ m : Nat, sumR (fun a => sumR (fun b => f a b) 0 m) 0 m = sumR (fun a => sumR (fun b => f a b + f b a) (a + 1) ((m : Int) - (a + 1)).toNat) 0 m
  | 0 => rfl
  | m + 1 => by
    have ih := tri_sum h0 m
    rw [sumR_snoc, sumR_snoc (w := fun a => sumR (fun b => f a b + f b a) (a + 1) (((m + 1 : Nat) : Int) - (a + 1)).toNat)]
    have e1 : sumR (fun a => sumR (fun b => f a b) 0 (m + 1)) 0 m = sumR (fun a => sumR (fun b => f a b) 0 m) 0 m + sumR (fun a => f a m) 0 m := by
      rw [← sumR_add]
      exact sumR_congr (fun a h1 h2 => by rw [sumR_snoc, Int.zero_add])
    have e2 : sumR (fun b => f ((0 : Int) + (m : Int)) b) 0 (m + 1) = sumR (fun b => f m b) 0 m := by
      rw [sumR_snoc, Int.zero_add, h0, Int.add_zero]
    have e3 : sumR (fun b => f ((0 : Int) + (m : Int)) b + f b ((0 : Int) + (m : Int))) ((0 : Int) + (m : Int) + 1) (((m + 1 : Nat) : Int) - ((0 : Int) + (m : Int) + 1)).toNat = 0 := by
      rw [show (((m + 1 : Nat) : Int) - ((0 : Int) + (m : Int) + 1)).toNat = 0 by omega]; rfl
    have e4 : sumR (fun a => sumR (fun b => f a b + f b a) (a + 1) (((m + 1 : Nat) : Int) - (a + 1)).toNat) 0 m = sumR (fun a => sumR (fun b => f a b + f b a) (a + 1) ((m : Int) - (a + 1)).toNat) 0 m + sumR (fun a => f a m + f m a) 0 m := by
      rw [← sumR_add]
      refine sumR_congr (fun a h1 h2 => ?_)
      have q : (((m + 1 : Nat) : Int) - (a + 1)).toNat = ((m : Int) - (a + 1)).toNat + 1 := by omega
      rw [q, sumR_snoc, show a + 1 + (((m : Int) - (a + 1)).toNat : Int) = m by omega]
    have e5 : sumR (fun b => f (m : Int) b) 0 m = sumR (f (m : Int)) 0 m := rfl
    rw [e1, e2, e3, e4, ih, sumR_add]
    rw [e5]
    omega
def nrM (W : Vw) (a b : Int) : Int := if at_ W 6 a ≤ 0 ∨ at_ W 6 b ≤ 0 ∨ at_ W 1 a = 0 then 0 else if at_ W 1 a = at_ W 1 b then (if at_ W 6 b / 2 - at_ W 6 a / 2 = 1 then 1 else 0) else 0
theorem nrM_0 {a : Int} : nrM W a a = 0 := by
  unfold nrM
  split
  · rfl
  · rw [if_pos rfl, if_neg (by omega)]
theorem nrM_bd {a b : Int} : 0 ≤ nrM W a b ∧ nrM W a b ≤ 1 := by
  unfold nrM
  repeat' split
  all_goals omega
def nrN (W : Vw) : Int := sumA W (fun a => sumA W (fun b => nrM W a b))
theorem nr_in (h : PT S 5 W) {a z : Int} (ha : 0 ≤ a ∧ a < nA W) (hz : inR z) : lo_FP_nearRivals_28 7 a S FU (z, a + 1) = some (wr (z + sumR (fun b => nrM W a b + nrM W b a) (a + 1) (nA W - (a + 1)).toNat)) := by
  have b := h.pl.b
  refine lp_sum (body := fun go p0 => lb_FP_nearRivals_28 7 a S go p0.1 p0.2) (fun b => nrM W a b + nrM W b a) (a + 1) (nA W)
    (fun go z i h0 => by
      show lb_FP_nearRivals_28 7 a S go z i = _
      have e7 : g S 7 7 = nA W := h.pl.mA
      unfold lb_FP_nearRivals_28
      rw [e7, if_pos h0])
    (fun go z i hz h1 h2 => by
      show lb_FP_nearRivals_28 7 a S go z i = _
      have e7 : g S 7 7 = nA W := h.pl.mA
      have xa : g S 14 a.toNat = at_ W 6 a := h.pl.a6 ha
      have xi : g S 14 i.toNat = at_ W 6 i := h.pl.a6 ⟨by omega, h2⟩
      have va := h.v.2.1 a ha.1 ha.2
      have vi := h.v.2.1 i (by omega) h2
      have eR := F_rivals h ha (b := i) ⟨by omega, h2⟩
      unfold lb_FP_nearRivals_28
      rw [e7, if_neg (by omega : ¬ nA W ≤ i), if_pos (by omega : 0 ≤ a ∧ a < 40), tg_7_6, xa, xi]
      by_cases c1 : at_ W 6 a = 0
      · rw [if_pos c1, nm_x, wr_s (z := i + 1) (by omega) (by omega)]
        rw [show nrM W a i = 0 by unfold nrM; rw [if_pos (.inl (by omega))], show nrM W i a = 0 by unfold nrM; rw [if_pos (.inr (.inl (by omega)))], Int.add_zero, Int.add_zero, wr_id hz]
      · rw [if_neg c1, if_pos (by omega : 0 ≤ i ∧ i < 40)]
        by_cases c2 : at_ W 6 i = 0
        · rw [if_pos c2, nm_x, wr_s (z := i + 1) (by omega) (by omega)]
          rw [show nrM W a i = 0 by unfold nrM; rw [if_pos (.inr (.inl (by omega)))], show nrM W i a = 0 by unfold nrM; rw [if_pos (.inl (by omega))], Int.add_zero, Int.add_zero, wr_id hz]
        · rw [if_neg c2, eR, bnO_s]
          by_cases c3 : a ≠ i ∧ at_ W 1 a ≠ 0 ∧ at_ W 1 a = at_ W 1 i
          · rw [if_pos (decide_eq_true c3), nm_x, nm_x, td_n (a := at_ W 6 a) (by omega), td_n (a := at_ W 6 i) (by omega), wr_s (z := at_ W 6 a / 2 - at_ W 6 i / 2) (by omega) (by omega)]
            have m1 : nrM W a i = if at_ W 6 i / 2 - at_ W 6 a / 2 = 1 then 1 else 0 := by
              unfold nrM; rw [if_neg (by omega), if_pos c3.2.2]
            have m2 : nrM W i a = if at_ W 6 a / 2 - at_ W 6 i / 2 = 1 then 1 else 0 := by
              unfold nrM; rw [if_neg (by omega), if_pos c3.2.2.symm]
            have ab : wr (i_abs (at_ W 6 a / 2 - at_ W 6 i / 2)) = if 0 ≤ at_ W 6 a / 2 - at_ W 6 i / 2 then at_ W 6 a / 2 - at_ W 6 i / 2 else 0 - (at_ W 6 a / 2 - at_ W 6 i / 2) := by
              unfold i_abs
              split
              · exact wr_s (by omega) (by omega)
              · exact wr_s (by omega) (by omega)
            rw [ab, m1, m2]
            by_cases c4 : at_ W 6 i / 2 - at_ W 6 a / 2 = 1
            · rw [if_pos c4, if_neg (by omega : ¬ at_ W 6 a / 2 - at_ W 6 i / 2 = 1), if_neg (by omega : ¬ 0 ≤ at_ W 6 a / 2 - at_ W 6 i / 2), if_pos (by omega), nm_x, nm_x, wr_s (z := i + 1) (by omega) (by omega)]
              rfl
            · rw [if_neg c4]
              by_cases c5 : at_ W 6 a / 2 - at_ W 6 i / 2 = 1
              · rw [if_pos c5, if_pos (by omega : 0 ≤ at_ W 6 a / 2 - at_ W 6 i / 2), if_pos c5, nm_x, nm_x, wr_s (z := i + 1) (by omega) (by omega)]
                rfl
              · rw [if_neg c5]
                have ne : ¬ (if 0 ≤ at_ W 6 a / 2 - at_ W 6 i / 2 then at_ W 6 a / 2 - at_ W 6 i / 2 else 0 - (at_ W 6 a / 2 - at_ W 6 i / 2)) = 1 := by
                  split <;> omega
                rw [if_neg ne, nm_x, wr_s (z := i + 1) (by omega) (by omega), Int.add_zero, Int.add_zero, wr_id hz]
          · rw [if_neg (by rw [decide_eq_true_eq]; exact c3), nm_x, wr_s (z := i + 1) (by omega) (by omega)]
            have m1 : nrM W a i = 0 := by
              unfold nrM
              by_cases d : at_ W 6 a ≤ 0 ∨ at_ W 6 i ≤ 0 ∨ at_ W 1 a = 0
              · rw [if_pos d]
              · rw [if_neg d, if_neg (fun q => c3 ⟨by omega, by omega, q⟩)]
            have m2 : nrM W i a = 0 := by
              unfold nrM
              by_cases d : at_ W 6 i ≤ 0 ∨ at_ W 6 a ≤ 0 ∨ at_ W 1 i = 0
              · rw [if_pos d]
              · rw [if_neg d, if_neg (fun q => c3 ⟨by omega, by omega, q.symm⟩)]
            rw [m1, m2, Int.add_zero, Int.add_zero, wr_id hz]) hz (FU_lt (by omega))
theorem nr_class (h : PT S 5 W) : fn_FP_nearRivals 0 S = some (wr (nrN W)) := by
  have b := h.pl.b
  unfold fn_FP_nearRivals
  rw [tg_0_3, tg_5_0, tg_6_0]
  have q : lo_FP_nearRivals_15 7 S FU (0, 0) = _ := lp_sum (body := fun go p0 => lb_FP_nearRivals_15 7 S go p0.1 p0.2) (fun a => sumR (fun b => nrM W a b + nrM W b a) (a + 1) (nA W - (a + 1)).toNat) 0 (nA W)
    (fun go z i h0 => by
      show lb_FP_nearRivals_15 7 S go z i = _
      have e7 : g S 7 7 = nA W := h.pl.mA
      unfold lb_FP_nearRivals_15
      rw [e7, if_pos h0])
    (fun go z i hz h1 h2 => by
      show lb_FP_nearRivals_15 7 S go z i = _
      have e7 : g S 7 7 = nA W := h.pl.mA
      unfold lb_FP_nearRivals_15
      rw [e7, if_neg (by omega : ¬ nA W ≤ i), nm_x, wr_s (z := i + 1) (by omega) (by omega), nr_in h ⟨h1, h2⟩ hz, bnO_s, nm_x]) (inRk rfl) (FU_lt (by omega))
  rw [q, bnO_s, Int.zero_add, Int.sub_zero]
  have e := tri_sum (f := fun a b => nrM W a b) (fun a => nrM_0) (nA W).toNat
  rw [show (((nA W).toNat : Nat) : Int) = nA W by omega] at e
  rw [← e]
  rfl
end Near

