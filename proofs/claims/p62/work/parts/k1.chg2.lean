/-! CHANGES: the class's side of the greater ones -/
theorem sorted_uniq {R : Nat → Nat → Prop} (hR : ∀ a b, R a b → ¬ R b a) : ∀ (xs ys : List Nat), xs.Pairwise R → ys.Pairwise R → (∀ z, z ∈ xs ↔ z ∈ ys) → xs = ys
  | [], [], _, _, _ => rfl
  | [], y :: ys, _, _, h => absurd ((h y).mpr (List.mem_cons_self ..)) (List.not_mem_nil)
  | x :: xs, [], _, _, h => absurd ((h x).mp (List.mem_cons_self ..)) (List.not_mem_nil)
  | x :: xs, y :: ys, h1, h2, h => by
    rw [List.pairwise_cons] at h1 h2
    have e : x = y := by
      rcases List.mem_cons.mp ((h x).mp (List.mem_cons_self ..)) with q | q
      · exact q
      · rcases List.mem_cons.mp ((h y).mpr (List.mem_cons_self ..)) with q2 | q2
        · exact q2.symm
        · exact absurd (h1.1 y q2) (hR _ _ (h2.1 x q))
    subst e
    congr 1
    refine sorted_uniq hR xs ys h1.2 h2.2 (fun z => ⟨fun hz => ?_, fun hz => ?_⟩)
    · rcases List.mem_cons.mp ((h z).mp (List.mem_cons_of_mem _ hz)) with q | q
      · subst q
        exact absurd (h1.1 z hz) (hR _ _ (h1.1 z hz))
      · exact q
    · rcases List.mem_cons.mp ((h z).mpr (List.mem_cons_of_mem _ hz)) with q | q
      · subst q
        exact absurd (h2.1 z hz) (hR _ _ (h2.1 z hz))
      · exact q
section ChgC2
variable {S : St} {W : Vw} {n : Int} {hs : Int → Vw} {a p : Int}
theorem srt_same {w : Int → Int} {k : Int} {ixs : List Nat} (h1 : LstP W w k (frA W (nA W))) (hk : 0 ≤ k) (h2 : SrtN W ixs (nA W).toNat) (hA : 0 ≤ nA W) : k = ixs.length ∧ ∀ j : Int, 0 ≤ j → j < k → w j = wO ixs j := by
  obtain ⟨a1, a2, a3⟩ := h1
  obtain ⟨b1, b2, b3⟩ := h2
  have e : (List.range k.toNat).map (fun j : Nat => (w j).toNat) = ixs := by
    refine sorted_uniq (R := fun x y : Nat => ahP W x y) (fun x y q q' => ?_) _ _ ?_ b2 (fun z => ⟨fun hz => ?_, fun hz => ?_⟩)
    · exact ahP_ne (ahP_tr q q') rfl
    · rw [List.pairwise_map]
      refine List.Pairwise.imp_of_mem (fun {i j} hi hj hij => ?_) (List.pairwise_lt_range (n := k.toNat))
      have hi := List.mem_range.mp hi
      have hj := List.mem_range.mp hj
      have q1 := a1 i (by omega) (by omega)
      have q2 := a1 j (by omega) (by omega)
      rw [Int.toNat_of_nonneg q1.1.1, Int.toNat_of_nonneg q2.1.1]
      exact a2 i j (by omega) (by omega) (by omega)
    · obtain ⟨j, hj, rfl⟩ := List.mem_map.mp hz
      have hj := List.mem_range.mp hj
      have q := a1 j (by omega) (by omega)
      have f := of_decide_eq_true q.2
      exact b3 _ (by omega) (by rw [Int.toNat_of_nonneg q.1.1]; exact f.2.2)
    · have q := b1 z hz
      obtain ⟨i, i1, i2⟩ := a3 z (by omega) (by omega) (decide_eq_true ⟨by omega, by omega, q.2⟩)
      exact List.mem_map.mpr ⟨i.toNat, List.mem_range.mpr (by omega), by rw [Int.toNat_of_nonneg i1.1, i2]; omega⟩
  have el : ixs.length = k.toNat := by rw [← e, List.length_map, List.length_range]
  refine ⟨by omega, fun j j0 j1 => ?_⟩
  have q := a1 j j0 j1
  have hx : ixs[j.toNat]? = some (w j).toNat := by
    rw [← e, List.getElem?_map, List.getElem?_range (by omega)]
    show some (w ((j.toNat : Nat) : Int)).toNat = _
    rw [Int.toNat_of_nonneg j0]
  have q2 := wO_s hx
  rw [Int.toNat_of_nonneg j0] at q2
  rw [q2, Int.toNat_of_nonneg q.1.1]
theorem cl_clear (h : PT S 5 W) (hG : Good W) (hc : HCl S n hs) (c : 1 ≤ a ∧ a ≤ pgs W) : ((wr (adsO W a + stbO W a) = 0 ∨ prP W a = true) → fn_FP_clear 0 a S = some (0, -4, S)) ∧ (¬ (wr (adsO W a + stbO W a) = 0 ∨ prP W a = true) → Good (mpV W (clF a)) ∧ ∃ S', fn_FP_clear 0 a S = some (0, wr (adsO W a + stbO W a), S') ∧ CR S S' (mpV W (clF a)) (hpn n) (hph n hs W)) := by
  have b := h.pl.b
  have e7 : g S 7 7 = nA W := h.pl.mA
  have e21 : g S 21 2 = nB W := h.pl.mB
  obtain ⟨v, hv⟩ : ∃ v, v = wr (adsO W a + stbO W a) := ⟨_, rfl⟩
  rw [← hv]
  have hF : fn_FP_clear 0 a S = (if v = 0 ∨ prP W a = true then some (0, -4, S) else bnO (fn_History_keep 63 6 S) fun p7 => bnO (lo_FP_clear_80 0 a 6 v FU (0, p7)) fun p14 => bnO (lo_FP_clear_126 0 a 6 v FU (0, p14)) fun p21 => bnO (fn_Plan_recount 5 p21) fun p22 => some (0, v, p22)) := by
    unfold fn_FP_clear
    rw [F_needPage h, if_pos c, bnO_s, if_pos rfl, tg_0_3, tg_0_4, tg_5_0, tg_6_0, tg_6_2, tg_7_6, tg_21_1, e7, e21, F_adsO h, bnO_s, F_stbO h, bnO_s, nm_x, ← hv, P_isPrinted1 h.pl c.1 c.2, bnO_s]
    by_cases d : v = 0
    · rw [if_pos d, if_pos (.inl d : v = 0 ∨ prP W a = true)]
    · rw [if_neg d]
      by_cases d2 : prP W a = true
      · rw [if_pos d2, if_pos (.inr d2 : v = 0 ∨ prP W a = true)]
      · rw [if_neg d2, if_neg (fun z => z.elim d d2 : ¬ (v = 0 ∨ prP W a = true))]
  rw [hF]
  refine ⟨fun d => if_pos d, fun d => ?_⟩
  have hG' := Good_clear hG c.1
  obtain ⟨S1, e1, c1⟩ := CR.keep h hc
  obtain ⟨S2, e2, o2, v2⟩ := lp_mapC6 (body := fun go p0 => lb_FP_clear_80 0 a 6 v go p0.1 p0.2) (f := clF a) hG.1 (clF_b hG.1) c1.2.1.pl.1.2.1
    (fun go i T hg hi => by
      show lb_FP_clear_80 0 a 6 v go i T = _
      unfold lb_FP_clear_80
      rw [tg_6_0, hg, if_pos hi])
    (fun go i T h1 h2 hg h6 => by
      have e : lb_FP_clear_80 0 a 6 v go i T = if at_ W 6 i = a then go (i + 1, u T 14 i.toNat 0) else go (i + 1, T) := by
        unfold lb_FP_clear_80
        rw [tg_6_0, tg_7_6, hg, if_neg (by omega), if_pos (by omega : 0 ≤ i ∧ i < 40), h6, nm_x, nm_x, nm_x, wr_s (by omega) (by omega)]
      by_cases q : at_ W 6 i = a
      · left
        show lb_FP_clear_80 0 a 6 v go i T = _
        rw [e, if_pos q]
        unfold clF
        rw [if_pos q]
      · right
        refine ⟨by unfold clF; rw [if_neg q], ?_⟩
        show lb_FP_clear_80 0 a 6 v go i T = _
        rw [e, if_neg q])
  obtain ⟨S3, e3, o3, v3⟩ := lp_mapC13 (body := fun go p0 => lb_FP_clear_126 0 a 6 v go p0.1 p0.2) (f := clF a) hG.1 (clF_b hG.1) v2
    (fun go i T hg hi => by
      show lb_FP_clear_126 0 a 6 v go i T = _
      unfold lb_FP_clear_126
      rw [tg_6_2, hg, if_pos hi])
    (fun go i T h1 h2 hg h6 => by
      have e : lb_FP_clear_126 0 a 6 v go i T = if at_ W 13 i = a then go (i + 1, u T 23 i.toNat 0) else go (i + 1, T) := by
        unfold lb_FP_clear_126
        rw [tg_6_2, tg_21_1, hg, if_neg (by omega), if_pos (by omega : 0 ≤ i ∧ i < 8), h6, nm_x, nm_x, nm_x, wr_s (by omega) (by omega)]
      by_cases q : at_ W 13 i = a
      · left
        show lb_FP_clear_126 0 a 6 v go i T = _
        rw [e, if_pos q]
        unfold clF
        rw [if_pos q]
      · right
        refine ⟨by unfold clF; rw [if_neg q], ?_⟩
        show lb_FP_clear_126 0 a 6 v go i T = _
        rw [e, if_neg q])
  obtain ⟨S4, e4, c4⟩ := c1.mapped v3 ⟨hG'.1, hG'.2.1⟩ (o2.trans o3)
  have e2' : lo_FP_clear_80 0 a 6 v FU (0, S1) = some S2 := e2
  have e3' : lo_FP_clear_126 0 a 6 v FU (0, S2) = some S3 := e3
  refine ⟨hG', S4, ?_, c4⟩
  rw [if_neg d, e1, bnO_s, e2', bnO_s, e3', bnO_s, e4]; rfl
theorem cl_exchange (h : PT S 5 W) (hG : Good W) (hc : HCl S n hs) (c : 1 ≤ a ∧ a ≤ pgs W) (c2 : 1 ≤ p ∧ p ≤ pgs W) : (exR W a p ≠ 0 → fn_FP_exchange 0 a p S = some (0, exR W a p, S)) ∧ (exR W a p = 0 → Good (mpV W (exF a p)) ∧ ∃ S', fn_FP_exchange 0 a p S = some (0, 0, S') ∧ CR S S' (mpV W (exF a p)) (hpn n) (hph n hs W)) := by
  have b := h.pl.b
  have hF : fn_FP_exchange 0 a p S = (if exR W a p = 0 then bnO (fn_History_keep 63 6 S) (fun p4 => bnO (lo_FP_exchange_45 0 a p (exR W a p) 6 FU (0, p4)) fun p10 => bnO (lo_FP_exchange_94 0 a p (exR W a p) 6 FU (0, p10)) fun p16 => bnO (fn_Plan_recount 5 p16) fun p17 => some (0, exR W a p, p17)) else some (0, exR W a p, S)) := by
    unfold fn_FP_exchange
    rw [F_needPage h, if_pos c, bnO_s, if_pos rfl, F_needPage h, if_pos c2, bnO_s, if_pos rfl, tg_0_3, tg_0_4, tg_5_0, P_exReason h hG c c2, bnO_s]
  rw [hF]
  refine ⟨fun d => if_neg d, fun d => ?_⟩
  have hG' := Good_exch hG c c2 d
  obtain ⟨S1, e1, c1⟩ := CR.keep h hc
  obtain ⟨S2, e2, o2, v2⟩ := lp_mapC6 (body := fun go p0 => lb_FP_exchange_45 0 a p 0 6 go p0.1 p0.2) (f := exF a p) hG.1 (exF_b c c2) c1.2.1.pl.1.2.1
    (fun go i T hg hi => by
      show lb_FP_exchange_45 0 a p 0 6 go i T = _
      unfold lb_FP_exchange_45
      rw [tg_6_0, hg, if_pos hi])
    (fun go i T h1 h2 hg h6 => by
      left
      show lb_FP_exchange_45 0 a p 0 6 go i T = _
      unfold lb_FP_exchange_45
      rw [tg_6_0, tg_7_6, hg, if_neg (by omega), if_pos (by omega : 0 ≤ i ∧ i < 40), h6, F_exchanged, bnO_s, nm_x, nm_x, wr_s (by omega) (by omega)])
  obtain ⟨S3, e3, o3, v3⟩ := lp_mapC13 (body := fun go p0 => lb_FP_exchange_94 0 a p 0 6 go p0.1 p0.2) (f := exF a p) hG.1 (exF_b c c2) v2
    (fun go i T hg hi => by
      show lb_FP_exchange_94 0 a p 0 6 go i T = _
      unfold lb_FP_exchange_94
      rw [tg_6_2, hg, if_pos hi])
    (fun go i T h1 h2 hg h6 => by
      left
      show lb_FP_exchange_94 0 a p 0 6 go i T = _
      unfold lb_FP_exchange_94
      rw [tg_6_2, tg_21_1, hg, if_neg (by omega), if_pos (by omega : 0 ≤ i ∧ i < 8), h6, F_exchanged, bnO_s, nm_x, nm_x, wr_s (by omega) (by omega)])
  obtain ⟨S4, e4, c4⟩ := c1.mapped v3 ⟨hG'.1, hG'.2.1⟩ (o2.trans o3)
  have e2' : lo_FP_exchange_45 0 a p 0 6 FU (0, S1) = some S2 := e2
  have e3' : lo_FP_exchange_94 0 a p 0 6 FU (0, S2) = some S3 := e3
  refine ⟨hG', S4, ?_, c4⟩
  rw [d, if_pos rfl, e1, bnO_s, e2', bnO_s, e3', bnO_s, e4]; rfl
theorem cl_pass (h : PT S 5 W) (hG : Good W) (hc : HCl S n hs) (c : 1 ≤ a ∧ a ≤ 500) (d : tm W + a ≤ 9999) : Good (psN W a).2 ∧ ∃ S', fn_FP_pass 0 a S = some (0, (psN W a).1, S') ∧ CR S S' (psN W a).2 (hpn n) (hph n hs W) := by
  have b := hG.1.z
  have e6 : g S 6 6 = tm W := h.pl.mtm
  obtain ⟨S1, e1, c1⟩ := CR.keep h hc
  obtain ⟨S2, e2, o2, t2⟩ := P_pass c1.2.1 hG ⟨by omega, c.2⟩ d
  refine ⟨(psN_i hG (i := a) (by omega) d).1, S2, ?_, CR_off c1 o2 t2⟩
  unfold fn_FP_pass
  rw [if_neg (by omega), if_pos c.2, nm_x, tg_0_3, tg_5_0, e6, wr_s (z := tm W + a) (by omega) (by omega), if_pos d, tg_0_4, e1, bnO_s, e2, bnO_s]
def scV (W : Vw) (a z : Int) : Vw := if tm W < z then up W 16 a.toNat z else clW a (up W 16 a.toNat z)
theorem cl_setClosing (h : PT S 5 W) (hG : Good W) (hc : HCl S n hs) (c : 0 ≤ a ∧ a < frm W) {z : Int} (d : 1 ≤ z ∧ z ≤ 9999) : (at_ W 15 a = 1 → fn_FP_setClosing 0 a z S = some (0, -4, S)) ∧ (at_ W 15 a ≠ 1 → Good (scV W a z) ∧ ∃ S', fn_FP_setClosing 0 a z S = some (0, at_ W 16 a, S') ∧ CR S S' (scV W a z) (hpn n) (hph n hs W)) := by
  have fb := frm_b h.v
  have hi_z : inR z := by unfold inR; omega
  have v := h.v.2.2.2.2 a c.1 c.2
  have e1p : g S 26 a.toNat = at_ W 15 a := h.pl.f1 c
  refine ⟨fun k => ?_, fun k => ?_⟩
  · unfold fn_FP_setClosing
    rw [F_needForm h, if_pos c, bnO_s, if_pos rfl, if_neg (by omega), if_pos d.2, if_pos (by omega : 0 ≤ a ∧ a < 8), tg_0_3, tg_5_0, tg_6_3, tg_24_1, e1p, if_pos k]
  have k0 : at_ W 15 a = 0 := by have := v.2.1; omega
  have hg1 := G3_closing hG c d
  obtain ⟨S1, e1, c1⟩ := CR.keep h hc
  have vv : vC (u S1 27 a.toNat z) 6 = up W 16 a.toNat z := K_vF (k := 16) (by decide) c1.2.1.pl.1.2.1 c hi_z (fun _ => d.1)
  have c2 := c1.row (k := 16) (S2 := u S1 27 a.toNat z) (by decide) vv ⟨hg1.1, hg1.2.1⟩ (Off.wt (by omega) (by omega))
  have eo : fn_FP_orNone (g S1 27 a.toNat) = fun S => some (at_ W 16 a) := by
    funext S'
    rw [F_orNone]
    exact congrArg some (c1.2.1.pl.cl c)
  have f1 : frm (up W 16 a.toNat z) = frm W := by unfold frm; rw [sg_up (by decide)]
  have t1 : tm (up W 16 a.toNat z) = tm W := tm_up (by decide)
  have a16 : ∀ x, 0 ≤ x → at_ (up W 16 a.toNat z) 16 x = if x = a then z else at_ W 16 x := fun x hx => at_upe hx c.1
  have a15 : ∀ x, at_ (up W 16 a.toNat z) 15 x = at_ W 15 x := fun x => at_upn (by decide)
  unfold scV
  by_cases dt : tm W < z
  · rw [if_pos dt]
    have hG' : Good (up W 16 a.toNat z) := Good_other hG c.1 (.inr (.inr (.inr (.inr ⟨rfl, d, dt⟩))))
    have nd := P_notDue c2.2.1 (fun f f1 f2 f3 => hG'.2.2.2 f f1 f2 f3)
    refine ⟨hG', _, ?_, c2⟩
    unfold fn_FP_setClosing
    rw [F_needForm h, if_pos c, bnO_s, if_pos rfl, if_neg (by omega), if_pos d.2, if_pos (by omega : 0 ≤ a ∧ a < 8), tg_0_3, tg_5_0, tg_6_3, tg_24_1, e1p, if_neg k, tg_0_4, e1, bnO_s, nm_x, tg_24_2, nd, bnO_s, eo, bnO_s]
  · rw [if_neg dt]
    obtain ⟨S3, e3, o3, t3⟩ := P_due (c0 := z) c2.2.1 hg1 d.1 (by rw [t1]; omega) (fun f q1 q2 q3 => by
      rw [a15] at q3
      rw [f1] at q2
      rw [a16 f q1, t1]
      by_cases w : f = a
      · rw [if_pos w]; exact .inr (.inl rfl)
      · rw [if_neg w]
        have := hG.2.2.2 f q1 q2 q3
        omega)
    rw [hr_one (a := a) hg1.1 (by rw [f1]; exact c) (by rw [a15]; exact k0) (by rw [a16 a c.1, if_pos rfl]) (fun f q1 q2 q4 q3 => by
      rw [a15] at q3
      rw [f1] at q2
      rw [a16 f q1, if_neg q4]
      have := hG.2.2.2 f q1 q2 q3
      omega)] at e3 t3
    have hgc : G3 (clW a (up W 16 a.toNat z)) := G3_clW hg1 (by rw [f1]; exact c)
    have hG' : Good (clW a (up W 16 a.toNat z)) := ⟨hgc.1, hgc.2.1, hgc.2.2, fun f q1 q2 q3 => by
      rw [frm_clW, f1] at q2
      rw [clW_15 c.1 q1] at q3
      have nf : f ≠ a := fun w => by rw [if_pos w] at q3; omega
      rw [if_neg nf, a15] at q3
      rw [clW_at (by decide) (by decide) (by decide) (by decide) (by decide), clW_n.2, t1, a16 f q1, if_neg nf]
      exact hG.2.2.2 f q1 q2 q3⟩
    refine ⟨hG', S3, ?_, CR_off c2 o3 t3⟩
    unfold fn_FP_setClosing
    rw [F_needForm h, if_pos c, bnO_s, if_pos rfl, if_neg (by omega), if_pos d.2, if_pos (by omega : 0 ≤ a ∧ a < 8), tg_0_3, tg_5_0, tg_6_3, tg_24_1, e1p, if_neg k, tg_0_4, e1, bnO_s, nm_x, tg_24_2, e3, bnO_s, eo, bnO_s]
theorem cl_layStories (h : PT S 5 W) (hG : Good W) (hc : HCl S n hs) : Good (lsO W 8).2 ∧ ∃ S', fn_FP_layStories 0 S = some ((lsO W 8).1, S') ∧ CR S S' (lsO W 8).2 (hpn n) (hph n hs W) := by
  obtain ⟨S1, e1, c1⟩ := CR.keep h hc
  obtain ⟨S2, e2, o2, t2⟩ := S_lay c1.2.1 hG
  refine ⟨(lsO_i hG (i := 8) (by decide)).1, S2, ?_, CR_off c1 (o2.mono (by omega) (by omega)) t2⟩
  unfold fn_FP_layStories
  rw [tg_0_4, tg_0_3, tg_5_0, e1, bnO_s, tg_0_2, e2, bnO_s]
theorem plN_cg {w w' : Int → Int} {k : Int} (h : ∀ j, 0 ≤ j → j < k → w j = w' j) : plN W w k = plN W w' k := by
  unfold plN
  refine itR_congr (fun j s j0 j1 => ?_)
  unfold plS
  rw [h j j0 (by omega)]
theorem cl_placeAds (h : PT S 5 W) (hG : Good W) (hc : HCl S n hs) {ixs : List Nat} (hx : SrtN W ixs (nA W).toNat) : Good (plN W (wO ixs) ixs.length).2 ∧ N5 W (plN W (wO ixs) ixs.length).2 ∧ ∃ S', fn_FP_placeAds 0 S = some ((plN W (wO ixs) ixs.length).1, S') ∧ OC S S' ∧ PT S' 5 (plN W (wO ixs) ixs.length).2 ∧ HCl S' (hpn n) (hph n hs W) := by
  obtain ⟨S1, e1, c1⟩ := CR.keep h hc
  have b := hG.1.z
  obtain ⟨k, S2, e2, kb, o2, l2⟩ := S_order c1.2.1
  have c2 : CR S S2 W (hpn n) (hph n hs W) := ⟨c1.1.trans (o2.oc (by omega)), c1.2.1.off o2 (by omega), c1.2.2.off o2 (by omega)⟩
  obtain ⟨w, hw⟩ : ∃ w : Int → Int, w = fun i => g S2 506 i.toNat := ⟨_, rfl⟩
  rw [← hw] at l2
  obtain ⟨S3, e3, o3, t3⟩ := S_place (w := w) c2.2.1 hG kb (fun j j0 j1 => (l2.1 j j0 j1).1) (fun j _ _ => by rw [hw])
  have c3 := CR_off c2 (o3.mono (by omega) (by omega)) t3
  have m := plN_i hG (w := w) (i := k) (k := k) ⟨kb.1, Int.le_refl _⟩ (fun j j0 j1 => (l2.1 j j0 j1).1)
  obtain ⟨s1, s2⟩ := srt_same l2 kb.1 hx b.1.1
  rw [plN_cg s2] at m e3 c3
  rw [s1] at m c3 e3
  refine ⟨m.1, m.2.1, S3, ?_, c3⟩
  unfold fn_FP_placeAds fn_Searches_placeFreeAds
  rw [tg_0_4, tg_0_3, tg_5_0, e1, bnO_s, tg_0_2, e2, bnO_s]
  show bnO (bnO (lo_Searches_placeFreeAds_52 505 k FU (0, 0, S2)) _) _ = _
  rw [s1, e3, bnO_s, bnO_s]
theorem cl_undo (h : PT S 5 W) (hH : HGd n hs) (hc : HCl S n hs) : (n = 0 → fn_FP_undo 0 S = some (false, S)) ∧ (n ≠ 0 → ∃ S', fn_FP_undo 0 S = some (true, S') ∧ CR S S' (hs (n - 1)) (n - 1) hs) := by
  obtain ⟨hn, g2, hnx, hk⟩ := hc
  refine ⟨fun c => ?_, fun c => ?_⟩
  · unfold fn_FP_undo fn_History_bringBack
    rw [tg_0_4, g2, if_pos c, bnO_s]
  have hGn := hH (n - 1) (by omega) (by omega)
  have hkn := hk (n - 1) (by omega) (by omega)
  obtain ⟨x, hx⟩ : ∃ x, x = (if g S 63 1 ≤ 0 then 19 else g S 63 1 - 1) := ⟨_, rfl⟩
  have xb : 0 ≤ x ∧ x < 20 := by rw [hx]; split <;> omega
  have xm : ((g S 63 1 - n + (n - 1)) % 20).toNat = x.toNat := by rw [hx]; split <;> omega
  rw [xm] at hkn
  obtain ⟨S1, h1⟩ : ∃ S1, S1 = u (u S 63 1 x) 63 2 (n - 1) := ⟨_, rfl⟩
  have o1 : Off S S1 63 64 := by rw [h1]; exact (Off.wt (by omega) (by omega)).tu (by omega) (by omega)
  have v1 : vC S1 (65 + 22 * x.toNat) = hs (n - 1) := by rw [vC_off o1 (by omega)]; exact hkn
  obtain ⟨S2, e2, o2, p2⟩ := P_become (S := S1) (p := 5) (s1 := 65 + 22 * x.toNat) (.inl rfl) (.inr (.inr ⟨x.toNat, by omega, rfl⟩)) (by omega) (by rw [v1]; exact hGn.1) (by rw [v1]; exact hGn.2.1)
  rw [v1] at p2
  have gx1 : g S1 63 1 = x := by rw [h1, g_ne (by omega), g_eq, wr_s (by omega) (by omega)]
  have gx2 : g S1 63 2 = n - 1 := by rw [h1, g_eq, wr_s (by omega) (by omega)]
  have hg : ∀ v, g (u S 63 1 v) 63 2 = n := fun v => by rw [g_ne (by omega)]; exact g2
  have eF : fn_FP_undo 0 S = some (true, S2) := by
    unfold fn_FP_undo fn_History_bringBack
    rw [tg_0_4, tg_0_3, g2, if_neg c]
    by_cases d : g S 63 1 ≤ 0
    · rw [if_pos d] at hx
      rw [if_pos d, nm_x, nm_x, hg, ← hx, ← h1, gx1, if_pos xb, tg_63_0, tg_64 (by omega), e2, bnO_s, bnO_s]
    · rw [if_neg d] at hx
      rw [if_neg d, nm_x, nm_x, hg, ← hx, ← h1, gx1, if_pos xb, tg_63_0, tg_64 (by omega), e2, bnO_s, bnO_s]
  refine ⟨S2, eF, (o1.oc (by omega)).trans (o2.oc (by omega)), p2, by omega, by rw [o2.rd (by omega)]; exact gx2, by rw [o2.rd (by omega), gx1]; exact xb, fun j j1 j2 => ?_⟩
  have gg1 : g S2 63 1 = x := by rw [o2.rd (by omega)]; exact gx1
  rw [gg1, vC_off o2 (by omega), vC_off o1 (by omega), ← hk j j1 (by omega)]
  have ei : ((x - (n - 1) + j) % 20).toNat = ((g S 63 1 - n + j) % 20).toNat := by rw [hx]; split <;> omega
  rw [ei]
end ChgC2
