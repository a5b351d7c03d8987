/-! THE CLASS ALONE: what it answers -/
section Cl
variable {S : St} {W : Vw} {n : Int} {hs : Int → Vw}
theorem cl_lost (h : PT S 5 W) (hG : Good W) : fn_FP_lost 0 S = some (lo_ W) := by
  unfold fn_FP_lost
  rw [tg_0_3, tg_5_0]
  exact congrArg some h.pl.mlo
theorem cl_undoCount (h : PT S 5 W) (hG : Good W) (hn : g S 63 2 = n) : fn_FP_undoCount 0 S = some (n) := by
  unfold fn_FP_undoCount
  rw [tg_0_4]
  exact congrArg some hn
theorem cl_nextClosing (h : PT S 5 W) (hG : Good W) : fn_FP_nextClosing 0 S = some (nxt W) := by
  unfold fn_FP_nextClosing
  rw [tg_0_3, P_soonest h.pl, bnO_s]
theorem cl_tightest (h : PT S 5 W) (hG : Good W) : fn_FP_tightest 0 S = some (tgh W) := by
  unfold fn_FP_tightest
  rw [tg_0_2, P_tightest h, bnO_s]
theorem cl_digest (h : PT S 5 W) (hG : Good W) : fn_FP_digest 0 S = some (digW W) := by
  unfold fn_FP_digest
  rw [tg_0_3, tg_5_0, F_digA h, bnO_s, F_digS h, bnO_s, F_digB h, bnO_s, F_digF h, bnO_s]
  rfl
theorem cl_count (h : PT S 5 W) (hG : Good W) {y : Int} (hi_y : inR y) : fn_FP_count 0 y S = some (q_count W y) := by
  unfold fn_FP_count
  unfold q_count
  by_cases d0 : y = 0
  · rw [if_pos d0, if_pos d0]
    have e : g S 5 1 = pgs W := h.pl.gp
    rw [tg_0_3, e]
  · rw [if_neg d0, if_neg d0]
    by_cases d1 : y = 1
    · rw [if_pos d1, if_pos d1]
      have e : g S 6 4 = sg W := h.pl.msg
      rw [tg_0_3, tg_5_0, e]
    · rw [if_neg d1, if_neg d1]
      by_cases d2 : y = 2
      · rw [if_pos d2, if_pos d2]
        have e : g S 5 2 = frm W := h.pl.gf
        rw [tg_0_3, e]
      · rw [if_neg d2, if_neg d2]
        by_cases d3 : y = 3
        · rw [if_pos d3, if_pos d3]
          have e : g S 7 7 = nA W := h.pl.mA
          rw [tg_0_3, tg_5_0, tg_6_0, e]
        · rw [if_neg d3, if_neg d3]
          by_cases d4 : y = 4
          · rw [if_pos d4, if_pos d4]
            have e : g S 15 5 = nS W := h.pl.mS
            rw [tg_0_3, tg_5_0, tg_6_1, e]
          · rw [if_neg d4, if_neg d4]
            by_cases d5 : y = 5
            · rw [if_pos d5, if_pos d5]
              have e : g S 21 2 = nB W := h.pl.mB
              rw [tg_0_3, tg_5_0, tg_6_2, e]
            · rw [if_neg d5, if_neg d5]
              by_cases d6 : y = 6
              · rw [if_pos d6, if_pos d6]
                have e : g S 6 6 = tm W := h.pl.mtm
                rw [tg_0_3, tg_5_0, e]
              · rw [if_neg d6, if_neg d6]
                by_cases d7 : y = 7
                · rw [if_pos d7, if_pos d7]
                  have e : g S 7 7 = nA W := h.pl.mA
                  rw [tg_0_3, tg_5_0, tg_6_0, tg_7_6, e, F_plA h, bnO_s]
                · rw [if_neg d7, if_neg d7]
                  by_cases d8 : y = 8
                  · rw [if_pos d8, if_pos d8]
                    have e : g S 15 5 = nS W := h.pl.mS
                    rw [tg_0_3, tg_5_0, tg_6_1, tg_15_4, e, F_plS h, bnO_s]
                  · rw [if_neg d8, if_neg d8]
                    by_cases d9 : y = 9
                    · rw [if_pos d9, if_pos d9]
                      have e : g S 21 2 = nB W := h.pl.mB
                      rw [tg_0_3, tg_5_0, tg_6_2, tg_21_1, e, F_plB h, bnO_s]
                    · rw [if_neg d9, if_neg d9]
                      by_cases d10 : y = 10
                      · rw [if_pos d10, if_pos d10]
                        have e : g S 5 2 = frm W := h.pl.gf
                        have ep : fn_FP_placed 8 26 (frm W) S = some (cntF W 15) := F_plF h (k := 1) (.inr rfl)
                        rw [tg_0_3, tg_5_0, tg_6_3, tg_24_1, e, ep, bnO_s]
                      · rw [if_neg d10, if_neg d10]
                        by_cases d11 : y = 11
                        · rw [if_pos d11, if_pos d11]
                          have e : g S 5 2 = frm W := h.pl.gf
                          have ep : fn_FP_placed 8 25 (frm W) S = some (cntF W 14) := F_plF h (k := 0) (.inl rfl)
                          rw [tg_0_3, tg_5_0, tg_6_3, tg_24_0, e, ep, bnO_s]
                        · rw [if_neg d11, if_neg d11]
theorem cl_describedByte {a : Int} (d1 : 0 ≤ g S 3 1 ∧ g S 3 1 ≤ 20) : fn_FP_describedByte 0 a S = some (if 0 ≤ a ∧ a < g S 3 1 then g S 4 a.toNat else -1) := by
  unfold fn_FP_describedByte fn_Bytes_byteAt
  rw [tg_0_5, tg_3_0, show ((ln 4 : Nat) : Int) = 20 from rfl]
  by_cases c1 : a < 0
  · rw [if_pos c1, if_neg (by omega : ¬ (0 ≤ a ∧ a < g S 3 1))]
  · rw [if_neg c1]
    by_cases c2 : g S 3 1 ≤ a
    · rw [if_pos c2, if_neg (by omega : ¬ (0 ≤ a ∧ a < g S 3 1))]
    · rw [if_neg c2, if_neg (by omega : ¬ 20 ≤ a), if_pos (by omega : 0 ≤ a ∧ a < 20), if_pos (by omega : 0 ≤ a ∧ a < g S 3 1), if_neg c1, bnO_s]
end Cl
