/-! matching: the class's answer -/
section Match5
variable {W : Vw} {M : Int → Bool} {k a0 q i y : Int} {S S' : St}
theorem AllR.next (h : AllR W S i (pgs W + 1)) : AllR W S (i + 1) 1 := ⟨fun l q l0 l1 q1 q2 ha => by
  by_cases e : l = i
  · rw [e] at ha; exact h.2 q q1 (by omega) ha
  · exact h.1 l q l0 (by omega) q1 q2 ha, fun q q1 q2 _ => by omega⟩
theorem mo19 (hV : Val W) (hM0 : M a0 = false) : ∀ (m : Nat) (k i : Int) (S : St) (n : Nat), 41 - i ≤ m → 0 ≤ i → i ≤ k → m < n → PT S 5 W → MC W S M → BfW W S M a0 k → AllR W S i 1 →
    (∃ S', lp (fun go p0 => lb_Searches_matchOneMore_19 505 go p0.1 p0.2.1 p0.2.2) n (k, i, S) = some (.inl (true, S')) ∧ Off S S' 508 512 ∧ MC W S' (fun x => M x || decide (x = a0))) ∨
    (∃ k' S', lp (fun go p0 => lb_Searches_matchOneMore_19 505 go p0.1 p0.2.1 p0.2.2) n (k, i, S) = some (.inr S') ∧ Off S S' 508 512 ∧ MC W S' M ∧ BfW W S' M a0 k' ∧ AllR W S' k' 1)
  | 0, k, i, S, n + 1, h1, h2, h3, _, hP, hC, hB, hA => by
    have kb := hB.1.1
    omega
  | m + 1, k, i, S, n + 1, h1, h2, h3, h4, hP, hC, hB, hA => by
    have b := hV.pg
    have kb := hB.1.1
    rw [lp_succ]
    by_cases c : i = k
    · refine .inr ⟨k, S, ?_, Off.refl, hC, hB, ?_⟩
      · show lb_Searches_matchOneMore_19 505 _ k i S = _
        unfold lb_Searches_matchOneMore_19
        rw [if_pos (by omega)]
      · rw [← c]; exact hA
    · rcases mo27 (i := i) hV hM0 (pgs W).toNat k 1 S FU (by omega) (Int.le_refl _) h2 (by omega) (FU_lt (by omega)) hP hC hB hA with ⟨S', r1, r2, r3⟩ | ⟨k', S', r1, r2, r3, r4, r5, r6⟩
      · refine .inl ⟨S', ?_, r2, r3⟩
        show lb_Searches_matchOneMore_19 505 _ k i S = _
        unfold lb_Searches_matchOneMore_19
        have r1' : lo_Searches_matchOneMore_33 505 i FU (k, 1, S) = _ := r1
        rw [if_neg (by omega), if_neg (by omega), r1', bnS_l]
      · have r1' : lo_Searches_matchOneMore_33 505 i FU (k, 1, S) = _ := r1
        have body : ∀ go, lb_Searches_matchOneMore_19 505 go k i S = go (k', i + 1, S') := fun go => by
          unfold lb_Searches_matchOneMore_19
          rw [if_neg (by omega), if_neg (by omega), r1', bnS_r, nm_x, wr_s (by omega) (by omega)]
        have body' : lb_Searches_matchOneMore_19 505 (lp (fun go p0 => lb_Searches_matchOneMore_19 505 go p0.1 p0.2.1 p0.2.2) n) (k, i, S).1 (k, i, S).2.1 (k, i, S).2.2 = _ := body _
        rw [body']
        rcases mo19 hV hM0 m k' (i + 1) S' n (by omega) (by omega) (by omega) (by omega) (hP.off r2 (by omega)) r4 r5 r6.next with ⟨S'', s1, s2, s3⟩ | ⟨k'', S'', s1, s2, s3⟩
        · exact .inl ⟨S'', s1, r2.trans s2, s3⟩
        · exact .inr ⟨k'', S'', s1, r2.trans s2, s3⟩
theorem mo_stuck (hV : Val W) (hM0 : M a0 = false) (ha0 : 0 ≤ a0 ∧ a0 < nA W) (hC : MC W S M) (hB : BfW W S M a0 k) (hA : AllR W S k 1) (m : Int → Int) : ¬ Mtc (adjW W) (nA W) (pgs W) (fun x => M x || decide (x = a0)) m := by
  have b := hV.1.1
  have bp := hV.pg
  obtain ⟨⟨kb, w0, wb, wd, wt⟩, hp⟩ := hB
  refine no_match (R := fun a => anyR (fun l => decide (g S 511 l.toNat = a)) 0 k.toNat) (P := fun q => decide (g S 510 q.toNat ≠ -1)) (pt := fun q => g S 508 q.toNat) (a0 := a0) (by omega) (by omega) ha0 ?_ (fun a a1 a2 hr => ?_) (fun a q a1 a2 hr q1 q2 ha => ?_) (fun q q1 q2 hr => ?_) (fun q q' q1 q2 q3 q4 hr hr' e => ?_)
  · exact anyR_iff.mpr ⟨0, Int.le_refl _, by omega, decide_eq_true w0⟩
  · obtain ⟨l, l0, l1, l2⟩ := anyR_iff.mp hr
    have l2 := of_decide_eq_true l2
    show (M a || decide (a = a0)) = true
    by_cases z : l = 0
    · rw [z] at l2
      have e : a0 = a := by rw [← w0]; exact l2
      rw [decide_eq_true e.symm, Bool.or_true]
    · rw [← l2, (wt l (by omega) (by omega)).1]; rfl
  · obtain ⟨l, l0, l1, l2⟩ := anyR_iff.mp hr
    have l2 := of_decide_eq_true l2
    refine decide_eq_true ?_
    exact hA.1 l q l0 (by omega) q1 q2 (by rw [l2]; exact ha)
  · rcases hp q q1 q2 with z | ⟨-, j, j0, j1, j2⟩
    · exact absurd z (of_decide_eq_true hr)
    · have := wb j (by omega) j1
      refine ⟨?_, ?_, ?_⟩
      · show 0 ≤ g S 508 q.toNat ∧ g S 508 q.toNat < nA W
        rw [← j2]; exact this
      · exact anyR_iff.mpr ⟨j, by omega, by omega, decide_eq_true j2⟩
      · show g S 508 q.toNat ≠ a0
        rw [← j2, ← w0]
        exact fun e => wd 0 j (Int.le_refl _) (by omega) j1 e.symm
  · have e' : g S 508 q.toNat = g S 508 q'.toNat := e
    have key : ∀ p, 1 ≤ p → p ≤ pgs W → decide (g S 510 p.toNat ≠ -1) = true → g S 509 (g S 508 p.toNat).toNat = p := fun p p1 p2 hr => by
      rcases hp p p1 p2 with z | ⟨-, j, j0, j1, j2⟩
      · exact absurd z (of_decide_eq_true hr)
      · have := wb j (by omega) j1
        rcases hC.2 p p1 p2 with r | r
        · omega
        · exact r.2.2
    rw [← key q q1 q2 hr, ← key q' q3 q4 hr', e']
def JnW (W : Vw) (jn : (Int → Bool) → Int → Bool) : Prop := ∀ M a, jn M a = true ↔ ∃ m, Mtc (adjW W) (nA W) (pgs W) (fun x => M x || decide (x = a)) m
theorem JnW.ex : ∃ jn, JnW W jn := by
  have ex : ∀ p : (Int → Bool) × Int, ∃ b : Bool, b = true ↔ ∃ m, Mtc (adjW W) (nA W) (pgs W) (fun x => p.1 x || decide (x = p.2)) m := fun p => by
    by_cases c : ∃ m, Mtc (adjW W) (nA W) (pgs W) (fun x => p.1 x || decide (x = p.2)) m
    · exact ⟨true, fun _ => c, fun _ => rfl⟩
    · exact ⟨false, fun h => absurd h Bool.false_ne_true, fun h => absurd h c⟩
  obtain ⟨f, hf⟩ := Classical.axiomOfChoice ex
  exact ⟨fun M a => f (M, a), fun M a => hf (M, a)⟩
theorem S_oneMore {jn : (Int → Bool) → Int → Bool} (hj : JnW W jn) (hP : PT S 5 W) (hM0 : M a0 = false) (ha0 : 0 ≤ a0 ∧ a0 < nA W) (hC : MC W S M) : ∃ S', fn_Searches_matchOneMore 505 a0 S = some (jn M a0, S') ∧ Off S S' 508 512 ∧ MC W S' (if jn M a0 = true then (fun x => M x || decide (x = a0)) else M) := by
  have hV := hP.v
  have b := hV.1.1
  have bp := hV.pg
  obtain ⟨S1, f1, o1, f2⟩ := A_fill (S := S) (N := 65) (c := 510) (z := -1) (by decide)
  obtain ⟨S2, hS2⟩ : ∃ S2, S2 = u S1 511 0 a0 := ⟨_, rfl⟩
  have o2 : Off S S2 510 512 := by rw [hS2]; exact (o1.mono (by omega) (by omega)).tu (by omega) (by omega)
  have e0 : ∀ q : Int, 1 ≤ q → q ≤ pgs W → g S2 510 q.toNat = -1 := fun q q1 q2 => by
    rw [hS2, g_ne (by omega), f2 q.toNat (by omega)]; exact wr_s (by decide) (by decide)
  have w0 : g S2 511 0 = a0 := by rw [hS2, g_eq]; exact wr_s (by omega) (by omega)
  have hC2 : MC W S2 M := hC.eqv (fun f => o2.rd (by omega)) (fun f => o2.rd (by omega))
  have hB : BfW W S2 M a0 1 := by
    refine ⟨⟨by omega, w0, fun j j0 j1 => ?_, fun l j l0 l1 l2 => by omega, fun j j0 j1 => by omega⟩, fun p p1 p2 => .inl (e0 p p1 p2)⟩
    have ej : j = 0 := by omega
    rw [ej]
    show 0 ≤ g S2 511 0 ∧ g S2 511 0 < nA W
    rw [w0]; exact ha0
  have hA : AllR W S2 0 1 := ⟨fun l q l0 l1 => by omega, fun q q1 q2 => by omega⟩
  have oS : Off S S2 508 512 := o2.mono (by omega) (by omega)
  unfold fn_Searches_matchOneMore
  rw [tg_505_6, f1, bnO_s, nm_x, tg_505_7, ← hS2]
  rcases mo19 hV hM0 41 1 0 S2 FU (by omega) (Int.le_refl _) (by omega) (FU_lt (by omega)) (hP.off o2 (by omega)) hC2 hB hA with ⟨S', r1, r2, r3⟩ | ⟨k', S', r1, r2, r3, r4, r5⟩
  · have r1' : lo_Searches_matchOneMore_19 505 FU (1, 0, S2) = _ := r1
    have ht : jn M a0 = true := (hj M a0).mpr ⟨_, r3.mtc hV⟩
    rw [r1', bnS_l, ht, if_pos rfl]
    exact ⟨S', rfl, oS.trans r2, r3⟩
  · have r1' : lo_Searches_matchOneMore_19 505 FU (1, 0, S2) = _ := r1
    have hf : jn M a0 = false := by
      cases e : jn M a0
      · rfl
      · obtain ⟨m, hm⟩ := (hj M a0).mp e
        exact absurd hm (mo_stuck hV hM0 ha0 r3 r4 r5 m)
    rw [r1', bnS_r, hf, if_neg Bool.false_ne_true]
    exact ⟨S', rfl, oS.trans r2, r3⟩
def mtS (W : Vw) (jn : (Int → Bool) → Int → Bool) (a : Int) (s : Int × (Int → Bool)) : Int × (Int → Bool) := if (decide (at_ W 0 a = 4 ∧ at_ W 6 a = 0) && jn s.2 a) = true then (s.1 + 1, fun x => s.2 x || decide (x = a)) else s
def mtN (W : Vw) (jn : (Int → Bool) → Int → Bool) (i : Int) : Int × (Int → Bool) := itR (mtS W jn) 0 i.toNat (0, fun _ => false)
theorem mtN_s {jn : (Int → Bool) → Int → Bool} (hi : 0 ≤ i) : mtN W jn (i + 1) = mtS W jn i (mtN W jn i) := by
  unfold mtN
  rw [show (i + 1).toNat = i.toNat + 1 by omega, itR_snoc, show (0 : Int) + (i.toNat : Int) = i by omega]
theorem mtN_i {jn : (Int → Bool) → Int → Bool} (hi : 0 ≤ i) : (0 ≤ (mtN W jn i).1 ∧ (mtN W jn i).1 ≤ i) ∧ ∀ x, i ≤ x → (mtN W jn i).2 x = false := by
  have q := itR_inv (f := mtS W jn) (n := i.toNat) (i := 0) (s := (0, fun _ => false)) (I := fun j s => (0 ≤ s.1 ∧ s.1 ≤ j) ∧ ∀ x, j ≤ x → s.2 x = false) (fun j s j1 j2 h => by
    show (0 ≤ (mtS W jn j s).1 ∧ (mtS W jn j s).1 ≤ j + 1) ∧ ∀ x, j + 1 ≤ x → (mtS W jn j s).2 x = false
    unfold mtS
    split
    · refine ⟨⟨by show 0 ≤ s.1 + 1; omega, by show s.1 + 1 ≤ j + 1; omega⟩, fun x x1 => ?_⟩
      show (s.2 x || decide (x = j)) = false
      rw [h.2 x (by omega), decide_eq_false (by omega)]
      rfl
    · exact ⟨⟨h.1.1, by omega⟩, fun x x1 => h.2 x (by omega)⟩) ⟨⟨Int.le_refl _, Int.le_refl _⟩, fun _ _ => rfl⟩
  rw [show (0 : Int) + (i.toNat : Int) = i by omega] at q
  exact q
theorem S_matched {jn : (Int → Bool) → Int → Bool} (hj : JnW W jn) (hP : PT S 5 W) : ∃ S', fn_Searches_matchedAds 505 S = some ((mtN W jn (nA W)).1, S') ∧ Off S S' 508 512 := by
  have hV := hP.v
  have b := hV.1.1
  have bp := hV.pg
  obtain ⟨S1, f1, o1, f2⟩ := A_fill (S := S) (N := 65) (c := 508) (z := -1) (by decide)
  obtain ⟨S2, f3, o2, f4⟩ := A_fill (S := S1) (N := 40) (c := 509) (z := 0) (by decide)
  have oS : Off S S2 508 512 := (o1.mono (by omega) (by omega)).trans (o2.mono (by omega) (by omega))
  have hC0 : MC W S2 (fun _ => false) := by
    refine ⟨fun a a1 a2 => ?_, fun q q1 q2 => .inl ?_⟩
    · rw [if_neg Bool.false_ne_true, f4 a.toNat (by omega)]; exact wr_s (by decide) (by decide)
    · rw [o2.rd (by omega), f2 q.toNat (by omega)]; exact wr_s (by decide) (by decide)
  obtain ⟨⟨c, S3⟩, e, hI⟩ := lp_inv (body := fun go p0 => lb_Searches_matchedAds_20 505 go p0.1 p0.2.1 p0.2.2) (fun i (s : Int × St) => (s.1, i, s.2)) (fun s => s)
    (fun i s => 0 ≤ i ∧ s.1 = (mtN W jn i).1 ∧ Off S s.2 508 512 ∧ MC W s.2 (mtN W jn i).2) (nA W)
    (fun go i s h hi => by
      have h7 : g s.2 7 7 = nA W := (hP.off h.2.2.1 (by omega)).pl.mA
      show lb_Searches_matchedAds_20 505 go s.1 i s.2 = _
      unfold lb_Searches_matchedAds_20
      rw [tg_505_1, tg_6_0, h7, if_pos hi])
    (fun go i s h hi => by
      have hP' := hP.off h.2.2.1 (by omega)
      have h7 : g s.2 7 7 = nA W := hP'.pl.mA
      have e0 : g s.2 8 i.toNat = at_ W 0 i := hP'.pl.a0 ⟨h.1, hi⟩
      have e6 : g s.2 14 i.toNat = at_ W 6 i := hP'.pl.a6 ⟨h.1, hi⟩
      have sp := mtN_s (W := W) (jn := jn) h.1
      have mi := mtN_i (W := W) (jn := jn) h.1
      rw [sp]
      by_cases c1 : at_ W 0 i = 4
      · by_cases c2 : at_ W 6 i = 0
        · obtain ⟨T', t1, t2, t3⟩ := S_oneMore hj hP' (mi.2 i (Int.le_refl _)) ⟨h.1, hi⟩ h.2.2.2
          cases ej : jn (mtN W jn i).2 i with
          | true =>
            have es : mtS W jn i (mtN W jn i) = ((mtN W jn i).1 + 1, fun x => (mtN W jn i).2 x || decide (x = i)) := by unfold mtS; rw [decide_eq_true ⟨c1, c2⟩, ej]; rfl
            rw [es]
            rw [ej] at t1
            rw [ej, if_pos rfl] at t3
            refine ⟨(s.1 + 1, T'), ?_, by omega, by rw [h.2.1], h.2.2.1.trans t2, t3⟩
            show lb_Searches_matchedAds_20 505 go s.1 i s.2 = go (s.1 + 1, i + 1, T')
            unfold lb_Searches_matchedAds_20
            rw [tg_505_1, tg_6_0, tg_7_0, tg_7_6, h7, if_neg (by omega), if_pos (by omega : 0 ≤ i ∧ i < 40), e0, if_pos c1, e6, if_pos c2, t1, bnO_s, if_pos rfl, nm_x, nm_x, wr_s (z := s.1 + 1) (by omega) (by omega), wr_s (z := i + 1) (by omega) (by omega)]
          | false =>
            have es : mtS W jn i (mtN W jn i) = mtN W jn i := by unfold mtS; rw [ej, Bool.and_false, if_neg Bool.false_ne_true]
            rw [es]
            rw [ej] at t1
            rw [ej, if_neg Bool.false_ne_true] at t3
            refine ⟨(s.1, T'), ?_, by omega, h.2.1, h.2.2.1.trans t2, t3⟩
            show lb_Searches_matchedAds_20 505 go s.1 i s.2 = go (s.1, i + 1, T')
            unfold lb_Searches_matchedAds_20
            rw [tg_505_1, tg_6_0, tg_7_0, tg_7_6, h7, if_neg (by omega), if_pos (by omega : 0 ≤ i ∧ i < 40), e0, if_pos c1, e6, if_pos c2, t1, bnO_s, if_neg Bool.false_ne_true, nm_x, wr_s (z := i + 1) (by omega) (by omega)]
        · have es : mtS W jn i (mtN W jn i) = mtN W jn i := by unfold mtS; rw [decide_eq_false (fun z => c2 z.2), Bool.false_and, if_neg Bool.false_ne_true]
          rw [es]
          refine ⟨s, ?_, by omega, h.2⟩
          show lb_Searches_matchedAds_20 505 go s.1 i s.2 = go (s.1, i + 1, s.2)
          unfold lb_Searches_matchedAds_20
          rw [tg_505_1, tg_6_0, tg_7_0, tg_7_6, h7, if_neg (by omega), if_pos (by omega : 0 ≤ i ∧ i < 40), e0, if_pos c1, e6, if_neg c2, nm_x, wr_s (z := i + 1) (by omega) (by omega)]
      · have es : mtS W jn i (mtN W jn i) = mtN W jn i := by unfold mtS; rw [decide_eq_false (fun z => c1 z.1), Bool.false_and, if_neg Bool.false_ne_true]
        rw [es]
        refine ⟨s, ?_, by omega, h.2⟩
        show lb_Searches_matchedAds_20 505 go s.1 i s.2 = go (s.1, i + 1, s.2)
        unfold lb_Searches_matchedAds_20
        rw [tg_505_1, tg_6_0, tg_7_0, h7, if_neg (by omega), if_pos (by omega : 0 ≤ i ∧ i < 40), e0, if_neg c1, nm_x, wr_s (z := i + 1) (by omega) (by omega)])
    (nA W - 0).toNat FU 0 (0, S2) ⟨Int.le_refl _, rfl, oS, hC0⟩ b.1 rfl (FU_lt (by omega))
  refine ⟨S3, ?_, hI.2.2.1⟩
  unfold fn_Searches_matchedAds
  have e' : lo_Searches_matchedAds_20 505 FU (0, 0, S2) = some (c, S3) := e
  rw [tg_505_4, f1, bnO_s, tg_505_5, f3, bnO_s, e', bnO_s]
  have hc : c = (mtN W jn (nA W)).1 := hI.2.1
  rw [hc]
end Match5

