/-! FORMS: the best colors, and what is lost -/
section Apart
variable {L L' L0 : List PC} {P P' : PA} {V V0 : Vw}
/-- one plan changes, the other stays -/
theorem HP.apart (h : HP L P V) (h0 : HP L0 P V0) (hs : Sf (fpP P') L L') (hn : ∀ b, fpP P' b → nCell + L0.length ≤ b) (hL : L.length < 900000000) : HP L' P V :=
  h.sf (F := fun b => fpP P' b ∧ b < XB) ⟨hs.1, fun b hb hF => hs.2 b hb (fun q => hF ⟨q, by unfold nCell at hb; unfold XB; omega⟩)⟩ (fun b hb hF => by
    rcases fp_lt h0.1 b hb with ⟨c, e⟩ | e
    · have := hp_lt e
      have := hn b hF.1
      omega
    · have := hF.2
      omega)
end Apart
section Forms5
variable {S : St} {L L0 K : List PC} {P : PA} {W : Vw} {f : Int}
def c4R (W : Vw) (j : Nat) : Int := if (j : Int) < frm W then lefF W j else 0
theorem l_fm443 {a2 a3 a5 a6 m : Int} {c4 : Nat} (h : HP K P W) (hG : Good W) (hr : RowI K c4 8 (c4R W)) (hm : 0 ≤ m ∧ m < 256) : ∀ (n N : Nat) (f s : Int) (b : Bool), f + n = frm W → 0 ≤ f → n < N → inR s →
    lp (fun go q => lb2_Law_forms_443 (pT P) a2 a3 c4 a5 a6 m S K go q.1 q.2.1 q.2.2) N (s, bi b, f) = some (wr (s + sumR (fun f => if bt m f = 1 then lefF W f else 0) f n), bi (b && !anyR (fun f => decide (bt m f = 1) && badF W f) f n))
  | 0, N + 1, f, s, b, hk, h0, _, hs => by
    have hV := hG.1
    have bz := hV.z
    have ef : frm W = 2 * sg W := rfl
    rw [lp_succ]
    show lb2_Law_forms_443 (pT P) a2 a3 c4 a5 a6 m S K _ s (bi b) f = _
    unfold lb2_Law_forms_443
    rw [h.gg hV, bnO_s, nm_x, wr_s (z := 2 * sg W) (by omega) (by omega), if_pos (by omega)]
    show some (s, bi b) = some (wr (s + 0), bi (b && !false))
    rw [Int.add_zero, wr_id hs, Bool.not_false, Bool.and_true]
  | n + 1, N + 1, f, s, b, hk, h0, hN, hs => by
    have hV := hG.1
    have bz := hV.z
    have ef : frm W = 2 * sg W := rfl
    have v := hV.2.2.2.2 f h0 (by omega)
    have i1 : wr (f + 1) = f + 1 := wr_s (by omega) (by omega)
    have hal := hr.at (w := f) ⟨h0, by omega⟩ (by unfold c4R; rw [if_pos (by omega)]; exact wr_in _)
    have ew : c4R W f.toNat = lefF W f := by unfold c4R; rw [if_pos (by omega), Int.toNat_of_nonneg h0]
    rw [ew] at hal
    have eb : i_and (i_shr m f) 1 = bt m f := rfl
    have ih := fun (s : Int) (b : Bool) (hs : inR s) => l_fm443 (a2 := a2) (a3 := a3) (a5 := a5) (a6 := a6) h hG hr hm n N (f + 1) s b (by omega) (by omega) (by omega) hs
    have hun : ∀ gg : Int × Int × Int → Option (Int × Int), lb2_Law_forms_443 (pT P) a2 a3 c4 a5 a6 m S K gg s (bi b) f = gg (if bt m f = 1 then wr (s + lefF W f) else s, bi (b && !(decide (bt m f = 1) && badF W f)), f + 1) := fun gg => by
      unfold lb2_Law_forms_443
      rw [h.gg hV, bnO_s, nm_x, wr_s (z := 2 * sg W) (by omega) (by omega), if_neg (by omega), eb]
      rcases bt01 hm (f := f) ⟨h0, by omega⟩ with c | c
      · rw [if_pos c, nm_x, i1, if_neg (c := bt m f = 1) (by omega), decide_eq_false (by omega), Bool.false_and, Bool.not_false, Bool.and_true]
      · rw [if_neg (c := bt m f = 0) (by omega), if_pos c, decide_eq_true c, Bool.true_and]
        cases b with
        | false =>
          rw [if_pos (c := bi false = 0) rfl, hal, bnO_s, nm_x, nm_x, i1]
          rfl
        | true =>
          rw [if_neg (c := bi true = 0) (by decide), h.fP, bnO_s, rfB_r, h.pr hV ⟨h0, by omega⟩, bnO_s]
          unfold badF
          rcases v.2.1 with d | d
          · rw [if_pos d, h.fC, bnO_s, rfB_r, h.co hV ⟨h0, by omega⟩, bnO_s]
            rcases v.1 with e | e
            · rw [if_pos e, hal, bnO_s, nm_x, nm_x, i1, decide_eq_false (by omega)]
              rfl
            · rw [if_neg (by omega), hal, bnO_s, nm_x, nm_x, i1, decide_eq_true (.inr e)]
              rfl
          · rw [if_neg (by omega), hal, bnO_s, nm_x, nm_x, i1, decide_eq_true (.inl d)]
            rfl
    show lb2_Law_forms_443 (pT P) a2 a3 c4 a5 a6 m S K (lp (fun go q => lb2_Law_forms_443 (pT P) a2 a3 c4 a5 a6 m S K go q.1 q.2.1 q.2.2) N) s (bi b) f = some (wr (s + ((if bt m f = 1 then lefF W f else 0) + sumR (fun f => if bt m f = 1 then lefF W f else 0) (f + 1) n)), bi (b && !((decide (bt m f = 1) && badF W f) || anyR (fun f => decide (bt m f = 1) && badF W f) (f + 1) n)))
    rw [hun, ih _ _ (by split <;> first | exact wr_in _ | exact hs)]
    congr 2
    · by_cases c : bt m f = 1
      · rw [if_pos c, if_pos c, wr_add, Int.add_assoc]
      · rw [if_neg c, if_neg c, Int.zero_add]
    · cases b <;> cases (decide (bt m f = 1) && badF W f) <;> rfl
def okBc (W : Vw) (k m : Int) : Bool := decide (bcS W m = k) && !badS W m
theorem l_fm443' {a2 a3 a5 a6 m : Int} {c4 : Nat} (h : HP K P W) (hG : Good W) (hr : RowI K c4 8 (c4R W)) (hm : 0 ≤ m ∧ m < 256) (b : Bool) : lo2_Law_forms_443 (pT P) a2 a3 c4 a5 a6 m S K FU (0, bi b, 0) = some (lefS W m, bi (b && !badS W m)) := by
  have bz := hG.1.z
  have q := l_fm443 (S := S) (a2 := a2) (a3 := a3) (a5 := a5) (a6 := a6) h hG hr hm (frm W).toNat FU 0 0 b (by omega) (Int.le_refl _) (FU_big (by omega)) inR_0
  have lb := lefS_bd hG (m := m)
  have e1 : sumR (fun f => if bt m f = 1 then lefF W f else 0) 0 (frm W).toNat = lefS W m := by unfold lefS; rw [Int.sub_zero]
  have e2 : anyR (fun f => decide (bt m f = 1) && badF W f) 0 (frm W).toNat = badS W m := by unfold badS; rw [Int.sub_zero]
  rw [e1, e2, Int.zero_add, wr_s (by omega) (by omega)] at q
  exact q
theorem l_fm415 {a2 k : Int} {c4 : Nat} (h : HP K P W) (hG : Good W) (hr : RowI K c4 8 (c4R W)) : ∀ (n N : Nat) (s : Int × Int), n < N → (n : Int) < i_shl 1 (frm W) →
    lp (fun go q => lb2_Law_forms_415 (pT P) a2 c4 k go q.1 q.2.1 q.2.2.1 q.2.2.2.1 q.2.2.2.2) N (s.1, s.2, (n : Int), (S, K)) = some (((dnN (okBc W k) (lefS W) n s).1, (S, K)), 0, 0)
  | 0, N + 1, s, _, _ => by
    rw [lp_succ]
    show lb2_Law_forms_415 (pT P) a2 c4 k _ s.1 s.2 ((0 : Nat) : Int) S K = _
    unfold lb2_Law_forms_415
    rw [if_pos (by omega)]; rfl
  | n + 1, N + 1, s, hN, hm => by
    have hV := hG.1
    have efv := frm_v hV
    have hm2 : 0 ≤ ((n + 1 : Nat) : Int) ∧ ((n + 1 : Nat) : Int) < 256 := by omega
    have i1 : wr (((n + 1 : Nat) : Int) + -1) = (n : Int) := by rw [wr_s (by omega) (by omega)]; omega
    have ih := l_fm415 (a2 := a2) (k := k) h hG hr n N (dnF (okBc W k) (lefS W) (n + 1 : Nat) s) (by omega) (by omega)
    have ebc := bc_m (S := S) hm2
    rw [bc_S hV (by omega) hm] at ebc
    have hun : ∀ gg : Int × Int × Int × LZ → Option ((Int × LZ) × Nat × Nat), lb2_Law_forms_415 (pT P) a2 c4 k gg s.1 s.2 ((n + 1 : Nat) : Int) S K = gg ((dnF (okBc W k) (lefS W) (n + 1 : Nat) s).1, (dnF (okBc W k) (lefS W) (n + 1 : Nat) s).2, (n : Int), (S, K)) := fun gg => by
      unfold lb2_Law_forms_415 dnF okBc
      rw [if_neg (by omega), ebc, bnO_s]
      by_cases c : bcS W ((n + 1 : Nat) : Int) = k
      · have q := l_fm443' (S := S) (a2 := a2) (a3 := s.1) (a5 := k) (a6 := s.2) h hG hr hm2 true
        rw [if_pos c, show ((0 : Int), (1 : Int), (0 : Int)) = (0, bi true, 0) from rfl, q, bnO_s, decide_eq_true c, Bool.true_and]
        cases d : badS W ((n + 1 : Nat) : Int) with
        | true =>
          rw [if_pos (show bi (!true) = 0 from rfl), nm_x, i1, if_neg (fun z => absurd z.1 (by decide))]
        | false =>
          rw [if_neg (show ¬ bi (!false) = 0 by decide)]
          by_cases e : s.2 ≤ lefS W ((n + 1 : Nat) : Int)
          · rw [if_pos e, nm_x, i1, if_pos ⟨rfl, e⟩]
          · rw [if_neg e, nm_x, i1, if_neg (fun z => e z.2)]
      · have q := l_fm443' (S := S) (a2 := a2) (a3 := s.1) (a5 := k) (a6 := s.2) h hG hr hm2 false
        rw [if_neg c, show ((0 : Int), (0 : Int), (0 : Int)) = (0, bi false, 0) from rfl, q, bnO_s, decide_eq_false c, Bool.false_and]
        rw [if_pos (show bi false = 0 from rfl), nm_x, i1, if_neg (fun z => absurd z.1 Bool.false_ne_true)]
    show lb2_Law_forms_415 (pT P) a2 c4 k (lp (fun go q => lb2_Law_forms_415 (pT P) a2 c4 k go q.1 q.2.1 q.2.2.1 q.2.2.2.1 q.2.2.2.2) N) s.1 s.2 ((n + 1 : Nat) : Int) S K = some (((dnN (okBc W k) (lefS W) n (dnF (okBc W k) (lefS W) (n + 1 : Nat) s)).1, (S, K)), 0, 0)
    rw [hun, ih]
theorem bcN_dn (hG : Good W) {k : Int} : bcN W k = (dnN (okBc W k) (lefS W) (i_shl 1 (frm W) - 1).toNat (0, -1)).1 := by
  have hv : ∀ z, 0 ≤ lefS W z := fun z => (lefS_bd hG (m := z)).1
  have e : bcF W k = fun z s => if okBc W k z = true ∧ s.2 < lefS W z then (z, lefS W z) else s := by
    funext z s
    unfold bcF okBc
    by_cases c : bcS W z = k ∧ badS W z = false ∧ s.2 < lefS W z
    · rw [if_pos c, if_pos ⟨by rw [decide_eq_true c.1, c.2.1]; rfl, c.2.2⟩]
    · rw [if_neg c, if_neg]
      rintro ⟨y1, y2⟩
      rw [Bool.and_eq_true, decide_eq_true_eq] at y1
      exact c ⟨y1.1, Bool.not_eq_true' _ |>.mp y1.2, y2⟩
  have q1 := up_spec (ok := okBc W k) (v := lefS W) hv (i_shl 1 (frm W) - 1).toNat
  have q2 := dn_spec (ok := okBc W k) (v := lefS W) hv (hi := ((i_shl 1 (frm W) - 1).toNat : Int) + 1) (i_shl 1 (frm W) - 1).toNat (0, -1) (.inl ⟨rfl, fun z y1 y2 => by omega⟩) (by omega)
  unfold bcN
  rw [e]
  exact q1.uni q2
theorem l_fm392 {a2 : Int} {c4 : Nat} (h : HP K P W) (hG : Good W) (hT : PT S 5 W) (hr : RowI K c4 8 (c4R W)) : ∀ (n N : Nat) (k : Int), k + n = 4 → 1 ≤ k → n < N →
    Ok (lp (fun go q => lb2_Law_forms_392 (pT P) a2 c4 go q.1 q.2.1 q.2.2) N (k, (S, K))) n (6 * n) (fun v => v = .inr (S, K))
  | 0, N + 1, k, hk, h1, _ => by
    rw [lp_succ]
    show Ok (lb2_Law_forms_392 (pT P) a2 c4 _ k S K) _ _ _
    unfold lb2_Law_forms_392
    rw [if_pos (by omega)]
    exact Ok.ret rfl
  | n + 1, N + 1, k, hk, h1, hN => by
    have hV := hG.1
    have bz := hV.z
    have efv := frm_v hV
    have ef : frm W = 2 * sg W := rfl
    have ih := l_fm392 (a2 := a2) h hG hT hr n N (k + 1) (by omega) (by omega) (by omega)
    have q := l_fm415 (S := S) (a2 := a2) (k := k) h hG hr (i_shl 1 (frm W) - 1).toNat FU (0, -1) (FU_big (by omega)) (by omega)
    rw [← bcN_dn hG, show (((i_shl 1 (frm W) - 1).toNat : Nat) : Int) = i_shl 1 (frm W) - 1 by omega] at q
    have ec : fn_FP_bestColor 0 k S = some (0, bcN W k) := by
      unfold fn_FP_bestColor
      rw [if_neg (by omega : ¬ k < 1), if_pos (by omega), tg_0_2, bc_class hT hG]
      rfl
    generalize bcN W k = bn at q ec
    rw [lp_succ]
    show Ok (lb2_Law_forms_392 (pT P) a2 c4 _ k S K) _ _ _
    unfold lb2_Law_forms_392
    rw [if_neg (by omega), h.gg hV, bnO_s, nm_x, ← ef, wr_s (z := i_shl 1 (frm W) - 1) (by omega) (by omega), show lo2_Law_forms_415 (pT P) a2 c4 k FU (0, -1, i_shl 1 (frm W) - 1, (S, K)) = _ from q, bnO_s]
    refine Ok.ad (c := 0) (s := 0) (Nat.zero_le _) (Nat.zero_le _) ?_
    dsimp only
    rw [ec, bnO_s]
    dsimp only
    rw [if_pos rfl]
    refine Ok.ad (c := 1) (s := 6) (by omega) (by omega) ?_
    rw [if_pos rfl, nm_x, wr_s (z := k + 1) (by omega) (by omega)]
    exact ih.mono (by omega) (by omega) (fun _ z => z)
theorem l_fm577 {a2 : Int} {P' : PA} (h : HP K P W) (h' : HP K P' W) (hV : Val W) (hC : ∀ f, 0 ≤ f → f < frm W → at_ W 16 f ≤ 500) : ∀ (n N : Nat) (f M : Int), f + n = frm W → 0 ≤ f → n < N → 0 ≤ M → M ≤ 500 →
    ∃ M', lp (fun go q => lb2_Law_forms_577 (pT P) a2 (pT P') S K go q.1 q.2) N (M, f) = some M' ∧ M ≤ M' ∧ M' ≤ 500 ∧ ∀ f', f ≤ f' → f' < frm W → at_ W 15 f' = 0 → at_ W 16 f' ≤ M'
  | 0, N + 1, f, M, hk, h0, _, m0, m1 => by
    have bz := hV.z
    have ef : frm W = 2 * sg W := rfl
    refine ⟨M, ?_, Int.le_refl _, m1, fun f' _ _ _ => by omega⟩
    rw [lp_succ]
    show lb2_Law_forms_577 (pT P) a2 (pT P') S K _ M f = _
    unfold lb2_Law_forms_577
    rw [h.gg hV, bnO_s, nm_x, wr_s (z := 2 * sg W) (by omega) (by omega), if_pos (by omega)]
  | n + 1, N + 1, f, M, hk, h0, hN, m0, m1 => by
    have bz := hV.z
    have ef : frm W = 2 * sg W := rfl
    have cf := hC f h0 (by omega)
    have i1 : wr (f + 1) = f + 1 := wr_s (by omega) (by omega)
    have mx : ∀ z, z ≤ 500 → M ≤ i_max M z ∧ z ≤ i_max M z ∧ i_max M z ≤ 500 := fun z hz => by unfold i_max; split <;> omega
    by_cases c : at_ W 15 f = 0
    · have y := mx (at_ W 16 f) cf
      obtain ⟨M', e, q1, q2, q3⟩ := l_fm577 (a2 := a2) h h' hV hC n N (f + 1) (i_max M (at_ W 16 f)) (by omega) (by omega) (by omega) (by omega) y.2.2
      refine ⟨M', ?_, by omega, q2, fun f' f1 f2 f3 => ?_⟩
      · rw [lp_succ, ← e]
        show lb2_Law_forms_577 (pT P) a2 (pT P') S K _ M f = _
        unfold lb2_Law_forms_577
        rw [h.gg hV, bnO_s, nm_x, wr_s (z := 2 * sg W) (by omega) (by omega), if_neg (by omega), h'.fP, bnO_s, rfB_r, h'.pr hV ⟨h0, by omega⟩, bnO_s, if_pos c, h'.fK, bnO_s, rfB_r, h'.cl hV ⟨h0, by omega⟩, bnO_s, nm_x, i1]
      · by_cases d : f' = f
        · rw [d]; omega
        · exact q3 f' (by omega) f2 f3
    · have y := mx 0 (by decide)
      obtain ⟨M', e, q1, q2, q3⟩ := l_fm577 (a2 := a2) h h' hV hC n N (f + 1) (i_max M 0) (by omega) (by omega) (by omega) (by omega) y.2.2
      refine ⟨M', ?_, by omega, q2, fun f' f1 f2 f3 => ?_⟩
      · rw [lp_succ, ← e]
        show lb2_Law_forms_577 (pT P) a2 (pT P') S K _ M f = _
        unfold lb2_Law_forms_577
        rw [h.gg hV, bnO_s, nm_x, wr_s (z := 2 * sg W) (by omega) (by omega), if_neg (by omega), h'.fP, bnO_s, rfB_r, h'.pr hV ⟨h0, by omega⟩, bnO_s, if_neg c, nm_x, i1]
      · by_cases d : f' = f
        · rw [d] at f3; exact absurd f3 c
        · exact q3 f' (by omega) f2 f3
theorem l_forms (h : HP L P W) (hG : Good W) (hT : PT S 5 W) (hC : ∀ f, 0 ≤ f → f < frm W → at_ W 16 f ≤ 500) (ht : tm W ≤ 500) (hL : L.length < 100000000) :
    Ok (gn_Law_forms (pT P) S L) 931 5052 (fun v => ∃ L', v = (true, (S, L')) ∧ HP L' P W ∧ Sf F0_ L L' ∧ L'.length ≤ L.length + 3000) := by
  have hV := hG.1
  have bz := hV.z
  obtain ⟨n1, r1⟩ := RowI.new (K := L) (m := 8) (by omega)
  have s1 : Sf F0_ L (L ++ [(100, List.replicate 8 (.int 0))]) := n1.sf0
  have l1 : (L ++ [(100, List.replicate 8 (Value.int 0))]).length = L.length + 1 := n1.2.1
  have q13 := l_fm13 (S := S) (c4 := nCell + L.length) h hG hT (Nat.le_refl _) (frm W).toNat FU 0 (L ++ [(100, List.replicate 8 (.int 0))]) (by omega) (Int.le_refl _) (FU_big (by omega)) s1 (r1.eq (fun w _ => by
    unfold lfR
    split
    · rfl
    · rw [if_neg (by omega)])) (by omega)
  rw [show nxP W 0 = -1 from rfl] at q13
  unfold gn_Law_forms
  rw [if_pos (by decide), if_pos (by omega), show (8 : Int).toNat = 8 from rfl, nw_x]
  refine Ok.ad (c := 1) (s := 8) (by omega) (by omega) ?_
  refine Ok.bindT (C1 := 392) (T1 := 2248) (o := lo2_Law_forms_13 (pT P) (nCell + L.length) FU (-1, 0, (S, L ++ [(100, List.replicate 8 (Value.int 0))]))) (Q := fun e => ∃ K', e = (nxt W, (S, K')) ∧ Sf F0_ L K' ∧ RowI K' (nCell + L.length) 8 (c4R W) ∧ K'.length ≤ L.length + 1601) (q13.mono (by omega) (by omega) (fun v z => ?_)) (by omega) (by omega) ?_
  · obtain ⟨K', y1, y2, y3, y4⟩ := z
    exact ⟨_, y1, K', rfl, y2, y3, by omega⟩
  rintro e ⟨K1, rfl, s2, r2, l2⟩
  dsimp only
  have h2 := h.sf0 s2
  have q392 := l_fm392 (S := S) (a2 := nxt W) h2 hG hT r2 3 FU 1 (by decide) (Int.le_refl _) (FU_big (by decide))
  refine Ok.bindT (C1 := 3) (T1 := 18) (o := lo2_Law_forms_392 (pT P) (nxt W) (nCell + L.length) FU (1, (S, K1))) (Q := fun e => e = (S, K1)) (q392.mono (by decide) (by decide) (fun v z => ⟨_, z, rfl⟩)) (by omega) (by omega) ?_
  rintro e rfl
  dsimp only
  rw [if_pos h2.k]
  refine Ok.bind (l_copy (S := S) h2 hV (by omega)) (by omega) (by omega) ?_
  rintro v cc ss ⟨K3, P', rfl, h3', s3, n3, l3⟩
  dsimp only
  have h3 := h2.sf0 s3
  obtain ⟨M, e4, m1, m2, m3⟩ := l_fm577 (S := S) (a2 := nxt W) h3 h3' hV hC (frm W).toNat FU 0 (tm W) (by omega) (Int.le_refl _) (FU_big (by omega)) (by omega) ht
  rw [rfB_r, h3'.ti hV, bnO_s, show lo2_Law_forms_577 (pT P) (nxt W) (pT P') S K3 FU (tm W, 0) = some M from e4, bnO_s, bnO_s, nm_x, wr_s (z := M - tm W) (by omega) (by omega), if_pos h3'.k]
  have p8 := psN_8 hG (a := M - tm W) (by omega) (by omega)
  refine Ok.bind (C1 := 456) (T1 := 2144) ((l_pass (S := S) (a := M - tm W) h3' hG (by omega) (by omega) (by omega)).mono (by omega) (by omega) (fun _ z => z)) (by omega) (by omega) ?_
  rintro v cc ss ⟨K5, rfl, h5', s5, l5⟩
  dsimp only
  have h5 := h3.apart h2 s5 n3 (by omega)
  have eE : fn_FP_endangered 0 S = some (wr (endW W)) := by
    unfold fn_FP_endangered
    rw [tg_0_3, tg_5_0, tg_6_0, tg_6_3, F_end hT, bnO_s]
  have eL := lost_all hG (a := M - tm W) (by omega) (by omega) (fun f f0 f1 f2 => by have := m3 f f0 f1 f2; omega)
  rw [cl_nextClosing hT hG, bnO_s, if_pos rfl, eE, bnO_s, h5'.lo, bnO_s, h5.lo, bnO_s, nm_x, eL, if_pos rfl]
  exact Ok.ret ⟨K5, rfl, h5, (s2.trans s3).tr0 s5 (fun b hb => by have := n3 b hb; have := s2.1; omega), by omega⟩
end Forms5
