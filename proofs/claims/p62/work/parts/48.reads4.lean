section Reads4
variable {S T : St} {W : Vw} {n : Int} {hs : Int → Vw}
def nxS (W : Vw) (i s : Int) : Int := if at_ W 15 i = 0 then (if at_ W 16 i = -1 then s else if s = -1 then i else if at_ W 16 s ≤ at_ W 16 i then s else i) else s
def nxt (W : Vw) : Int := itR (nxS W) 0 (frm W).toNat (-1)
theorem P_soonest {p : Nat} (h : PL S p W) : fn_Plan_soonestForm p S = some (nxt W) := by
  have hq := h.q
  have fb := frm_b h.v
  have q := lp_it (body := fun go p0 => lb_Plan_soonestForm_4 p S go p0.1 p0.2) (fun i s => (s, i)) (nxS W) id (fun i (s : Int) => 0 ≤ i ∧ i ≤ frm W ∧ (s = -1 ∨ (0 ≤ s ∧ s < frm W ∧ 1 ≤ at_ W 16 s))) (frm W)
    (fun go i s _ hi => by
      show lb_Plan_soonestForm_4 p S go s i = _
      unfold lb_Plan_soonestForm_4
      rw [h.gf, if_pos hi]; rfl)
    (fun go i s hI hi => by
      have c16 := h.cl0 (a := i) ⟨hI.1, hi⟩
      have v := h.v.2.2.2.2 i hI.1 hi
      refine ⟨?_, ?_⟩
      · show lb_Plan_soonestForm_4 p S go s i = go (nxS W i s, i + 1)
        have e1 := h.f1 (a := i) ⟨hI.1, hi⟩
        unfold lb_Plan_soonestForm_4 nxS
        rw [h.gf, if_neg (by omega), if_pos (by omega : 0 ≤ i ∧ i < 8), tq_0 hq, tq_F hq, tq_F1 hq, tq_F2 hq, e1]
        simp only [nm_x, wr_s (z := i + 1) (by omega) (by omega)]
        by_cases d : at_ W 15 i = 0
        · rw [if_pos d, if_pos d]
          rcases c16 with c16 | c16
          · rw [if_pos c16.1, if_pos c16.2]
          · rw [if_neg (by omega : ¬ g S (p + 22) i.toNat = 0), if_neg (by omega : ¬ at_ W 16 i = -1), c16.1]
            by_cases d2 : s = -1
            · rw [if_pos d2, if_pos d2]
            · have cs := h.cl0 (a := s) (by omega)
              have es : g S (p + 22) s.toNat = at_ W 16 s := by omega
              rw [if_neg d2, if_neg d2, if_pos (by omega : 0 ≤ s ∧ s < 8), es]
              by_cases d3 : at_ W 16 s ≤ at_ W 16 i
              · rw [if_pos d3, if_pos d3]
              · rw [if_neg d3, if_neg d3]
        · rw [if_neg d, if_neg d]
      · unfold nxS
        obtain ⟨i0, i1, hs⟩ := hI
        repeat' split
        all_goals omega) (frm W).toNat FU 0 (-1) ⟨Int.le_refl _, by omega, .inl rfl⟩ (by omega) (FU_lt (by omega))
  unfold fn_Plan_soonestForm nxt
  have q2 : lo_Plan_soonestForm_4 p S FU (-1, 0) = _ := q
  rw [q2, bnO_s]; rfl
def tiS (W : Vw) (i : Int) (s : Int × Int) : Int × Int := if at_ W 6 i = 0 then (if s.1 = -1 ∨ chcs W i < s.2 then (i, chcs W i) else s) else s
def tgh (W : Vw) : Int := (itR (tiS W) 0 (nA W).toNat (-1, 0)).1
theorem chcs_b (hV : Val W) {a : Int} : 0 ≤ chcs W a ∧ chcs W a ≤ 64 := by
  have z := hV.z
  have q := sumR_bd (w := fun q => if reas W a q = 0 then 1 else 0) (l := 0) (h := 1) (n := (pgs W).toNat) (i := 1) (fun j _ _ => by split <;> omega)
  rw [Int.mul_zero, Int.mul_one] at q
  unfold chcs sumP
  rw [wr_s (by omega) (by omega)]
  omega
theorem P_tightest (h : PT S 5 W) : fn_Searches_tightestAd 505 S = some (tgh W) := by
  have b := h.pl.b
  have q := lp_it (body := fun go p0 => lb_Searches_tightestAd_6 505 S go p0.1 p0.2.1 p0.2.2) (fun i (s : Int × Int) => (s.1, s.2, i)) (tiS W) (fun s => s.1) (fun i _ => 0 ≤ i) (nA W)
    (fun go i s _ hi => by
      show lb_Searches_tightestAd_6 505 S go s.1 s.2 i = _
      have e7 : g S 7 7 = nA W := h.pl.mA
      unfold lb_Searches_tightestAd_6
      rw [tg_505_1, tg_6_0, e7, if_pos hi])
    (fun go i s hI hi => by
      refine ⟨?_, by omega⟩
      show lb_Searches_tightestAd_6 505 S go s.1 s.2 i = go ((tiS W i s).1, (tiS W i s).2, i + 1)
      have e7 : g S 7 7 = nA W := h.pl.mA
      have e6 : g S 14 i.toNat = at_ W 6 i := h.pl.a6 ⟨hI, hi⟩
      unfold lb_Searches_tightestAd_6 tiS
      rw [tg_505_1, tg_6_0, e7, if_neg (by omega), if_pos (by omega : 0 ≤ i ∧ i < 40), tg_7_6, e6]
      simp only [nm_x, wr_s (z := i + 1) (by omega) (by omega)]
      by_cases d : at_ W 6 i = 0
      · rw [if_pos d, if_pos d, P_pagesFor h ⟨hI, hi⟩, bnO_s]
        by_cases d2 : s.1 = -1
        · rw [if_pos d2, if_pos (.inl d2 : s.1 = -1 ∨ chcs W i < s.2)]
        · rw [if_neg d2]
          by_cases d3 : s.2 ≤ chcs W i
          · rw [if_pos d3, if_neg (by omega : ¬ (s.1 = -1 ∨ chcs W i < s.2))]
          · rw [if_neg d3, if_pos (by omega : s.1 = -1 ∨ chcs W i < s.2)]
      · rw [if_neg d, if_neg d]) (nA W).toNat FU 0 (-1, 0) (Int.le_refl _) (by omega) (FU_lt (by omega))
  unfold fn_Searches_tightestAd tgh
  have q2 : lo_Searches_tightestAd_6 505 S FU (-1, 0, 0) = _ := q
  rw [q2, bnO_s]
theorem F_digA (h : PT S 5 W) {a : Int} : lo_FP_digest_12 0 6 S FU (a, 0) = some (itR (fun i z => wr (31 * z + at_ W 6 i)) 0 (nA W).toNat a) := by
  have b := h.pl.b
  have fb := frm_b h.v
  have q : lo_FP_digest_12 0 6 S FU (a, 0) = _ := lp_acc (body := fun go p0 => lb_FP_digest_12 0 6 S go p0.1 p0.2) (fun i z => wr (31 * z + at_ W 6 i)) 0 (nA W)
    (fun go z i hi => by
      show lb_FP_digest_12 0 6 S go z i = _
      have e7 : g S 7 7 = nA W := h.pl.mA
      unfold lb_FP_digest_12
      rw [tg_6_0, e7, if_pos hi])
    (fun go z i h1 h2 => by
      show lb_FP_digest_12 0 6 S go z i = _
      have e7 : g S 7 7 = nA W := h.pl.mA
      have e6 : g S 14 i.toNat = at_ W 6 i := h.pl.a6 ⟨h1, h2⟩
      unfold lb_FP_digest_12
      rw [tg_6_0, e7, if_neg (by omega), if_pos (by omega : 0 ≤ i ∧ i < 40), tg_7_6, e6, nm_x, nm_x, wr_s (z := i + 1) (by omega) (by omega)]) (FU_lt (by omega))
  rw [q, Int.sub_zero]
theorem F_digS (h : PT S 5 W) {a : Int} : lo_FP_digest_46 0 6 S FU (a, 0) = some (itR (fun i z => wr (31 * z + at_ W 11 i)) 0 (nS W).toNat a) := by
  have b := h.pl.b
  have fb := frm_b h.v
  have q : lo_FP_digest_46 0 6 S FU (a, 0) = _ := lp_acc (body := fun go p0 => lb_FP_digest_46 0 6 S go p0.1 p0.2) (fun i z => wr (31 * z + at_ W 11 i)) 0 (nS W)
    (fun go z i hi => by
      show lb_FP_digest_46 0 6 S go z i = _
      have e7 : g S 15 5 = nS W := h.pl.mS
      unfold lb_FP_digest_46
      rw [tg_6_1, e7, if_pos hi])
    (fun go z i h1 h2 => by
      show lb_FP_digest_46 0 6 S go z i = _
      have e7 : g S 15 5 = nS W := h.pl.mS
      have e6 : g S 20 i.toNat = at_ W 11 i := h.pl.s4 ⟨h1, h2⟩
      unfold lb_FP_digest_46
      rw [tg_6_1, e7, if_neg (by omega), if_pos (by omega : 0 ≤ i ∧ i < 10), tg_15_4, e6, nm_x, nm_x, wr_s (z := i + 1) (by omega) (by omega)]) (FU_lt (by omega))
  rw [q, Int.sub_zero]
theorem F_digB (h : PT S 5 W) {a : Int} : lo_FP_digest_80 0 6 S FU (a, 0) = some (itR (fun i z => wr (31 * z + at_ W 13 i)) 0 (nB W).toNat a) := by
  have b := h.pl.b
  have fb := frm_b h.v
  have q : lo_FP_digest_80 0 6 S FU (a, 0) = _ := lp_acc (body := fun go p0 => lb_FP_digest_80 0 6 S go p0.1 p0.2) (fun i z => wr (31 * z + at_ W 13 i)) 0 (nB W)
    (fun go z i hi => by
      show lb_FP_digest_80 0 6 S go z i = _
      have e7 : g S 21 2 = nB W := h.pl.mB
      unfold lb_FP_digest_80
      rw [tg_6_2, e7, if_pos hi])
    (fun go z i h1 h2 => by
      show lb_FP_digest_80 0 6 S go z i = _
      have e7 : g S 21 2 = nB W := h.pl.mB
      have e6 : g S 23 i.toNat = at_ W 13 i := h.pl.b1 ⟨h1, h2⟩
      unfold lb_FP_digest_80
      rw [tg_6_2, e7, if_neg (by omega), if_pos (by omega : 0 ≤ i ∧ i < 8), tg_21_1, e6, nm_x, nm_x, wr_s (z := i + 1) (by omega) (by omega)]) (FU_lt (by omega))
  rw [q, Int.sub_zero]
theorem F_digF (h : PT S 5 W) {a : Int} : lo_FP_digest_114 0 6 S FU (a, 0) = some (itR (fun i z => wr (31 * z + at_ W 15 i)) 0 (frm W).toNat a) := by
  have b := h.pl.b
  have fb := frm_b h.v
  have q : lo_FP_digest_114 0 6 S FU (a, 0) = _ := lp_acc (body := fun go p0 => lb_FP_digest_114 0 6 S go p0.1 p0.2) (fun i z => wr (31 * z + at_ W 15 i)) 0 (frm W)
    (fun go z i hi => by
      show lb_FP_digest_114 0 6 S go z i = _
      have e7 : g S 5 2 = frm W := h.pl.gf
      unfold lb_FP_digest_114
      rw [tg_0_3, e7, if_pos hi])
    (fun go z i h1 h2 => by
      show lb_FP_digest_114 0 6 S go z i = _
      have e7 : g S 5 2 = frm W := h.pl.gf
      have e6 : g S 26 i.toNat = at_ W 15 i := h.pl.f1 ⟨h1, h2⟩
      unfold lb_FP_digest_114
      rw [tg_0_3, e7, if_neg (by omega), if_pos (by omega : 0 ≤ i ∧ i < 8), tg_6_3, tg_24_1, e6, nm_x, nm_x, wr_s (z := i + 1) (by omega) (by omega)]) (FU_lt (by omega))
  rw [q, Int.sub_zero]
def digW (W : Vw) : Int := itR (fun i z => wr (31 * z + at_ W 15 i)) 0 (frm W).toNat (itR (fun i z => wr (31 * z + at_ W 13 i)) 0 (nB W).toNat (itR (fun i z => wr (31 * z + at_ W 11 i)) 0 (nS W).toNat (itR (fun i z => wr (31 * z + at_ W 6 i)) 0 (nA W).toNat 1)))
def cntA (W : Vw) : Int := wr (sumA W (fun a => if at_ W 6 a ≤ 0 then 0 else 1))
def cntS (W : Vw) : Int := wr (sumS W (fun a => if at_ W 11 a ≤ 0 then 0 else 1))
def cntB (W : Vw) : Int := wr (sumB W (fun a => if at_ W 13 a ≤ 0 then 0 else 1))
def cntF (W : Vw) (k : Nat) : Int := wr (sumR (fun f => at_ W k f) 0 (frm W).toNat)
theorem F_plA (h : PT S 5 W) : fn_FP_placed 40 14 (nA W) S = some (cntA W) := by
  have b := h.pl.b
  rw [F_placed (by omega) (by omega) (by decide)]
  refine congrArg (fun z => some (wr z)) (sumR_congr (fun j h1 h2 => ?_))
  have e : g S 14 j.toNat = at_ W 6 j := h.pl.a6 ⟨h1, by omega⟩
  have v := h.v.2.1 j h1 (by omega)
  rw [e]
  by_cases c : at_ W 6 j = 0
  · rw [if_pos c, if_pos (by omega)]
  · rw [if_neg c, if_neg (by omega)]
theorem F_plS (h : PT S 5 W) : fn_FP_placed 10 20 (nS W) S = some (cntS W) := by
  have b := h.pl.b
  rw [F_placed (by omega) (by omega) (by decide)]
  refine congrArg (fun z => some (wr z)) (sumR_congr (fun j h1 h2 => ?_))
  have e : g S 20 j.toNat = at_ W 11 j := h.pl.s4 ⟨h1, by omega⟩
  have v := h.v.2.2.1 j h1 (by omega)
  rw [e]
  by_cases c : at_ W 11 j = 0
  · rw [if_pos c, if_pos (by omega)]
  · rw [if_neg c, if_neg (by omega)]
theorem F_plB (h : PT S 5 W) : fn_FP_placed 8 23 (nB W) S = some (cntB W) := by
  have b := h.pl.b
  rw [F_placed (by omega) (by omega) (by decide)]
  refine congrArg (fun z => some (wr z)) (sumR_congr (fun j h1 h2 => ?_))
  have e : g S 23 j.toNat = at_ W 13 j := h.pl.b1 ⟨h1, by omega⟩
  have v := h.v.2.2.2.1 j h1 (by omega)
  rw [e]
  by_cases c : at_ W 13 j = 0
  · rw [if_pos c, if_pos (by omega)]
  · rw [if_neg c, if_neg (by omega)]
theorem F_plF (h : PT S 5 W) {k : Nat} (hk : k = 0 ∨ k = 1) : fn_FP_placed 8 (25 + k) (frm W) S = some (cntF W (14 + k)) := by
  have fb := frm_b h.v
  rw [F_placed (by omega) (by omega) (by decide)]
  refine congrArg (fun z => some (wr z)) (sumR_congr (fun j h1 h2 => ?_))
  have v := h.v.2.2.2.2 j h1 (by have e : frm W = 2 * sg W := rfl; omega)
  have e : g S (25 + k) j.toNat = at_ W (14 + k) j := by
    have q := h.pl.fm (a := j) ⟨h1, by omega⟩ k (by omega)
    rw [show 14 + k = k + 14 by omega, show 25 + k = 5 + 20 + k by omega]; exact q
  rw [e]
  rcases hk with rfl | rfl
  · show (if at_ W 14 j = 0 then (0 : Int) else 1) = at_ W 14 j
    split <;> omega
  · show (if at_ W 15 j = 0 then (0 : Int) else 1) = at_ W 15 j
    split <;> omega
def q_count (W : Vw) (y : Int) : Int := if y = 0 then pgs W else if y = 1 then sg W else if y = 2 then frm W else if y = 3 then nA W else if y = 4 then nS W else if y = 5 then nB W else if y = 6 then tm W else if y = 7 then cntA W else if y = 8 then cntS W else if y = 9 then cntB W else if y = 10 then cntF W 15 else if y = 11 then cntF W 14 else -1
end Reads4

