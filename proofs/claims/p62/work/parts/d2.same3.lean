/-! THE SAME STATE: the stories -/
section SameS0
variable {S : St} {L K K1 : List PC} {P : PA} {W : Vw} {r n : Nat} {f : Nat → Int}
theorem told_s {z : Int} {S : St} (M : List PC) : gn_Law_told z S M = some (clo z) := by
  unfold gn_Law_told clo
  by_cases c : z = 0
  · rw [if_pos c, if_pos c]
  · rw [if_neg c, if_neg c]
/-- its seven numbers compared -/
theorem l_same498 {c1 c3 c9 : Nat} {a2 a4 a5 a6 a7 : Int} {q : Int → Int} (hr : RowI L c9 7 f) (hq : ∀ w : Nat, w < 7 → f w = q w ∧ inR (f w)) (hc : ∀ w : Nat, w < 7 → fn_FP_story 0 a7 w S = some (0, q w)) : ∀ (m N : Nat) (w : Nat), w + m = 7 → m < N → lp (fun go p => lb2_Law_same_498 c1 a2 c3 a4 a5 a6 a7 c9 go p.1 p.2.1 p.2.2) N ((w : Int), (S, L)) = some (.inr (S, L), m, 6 * m)
  | 0, N + 1, w, hw, _ => by
    rw [lp_succ]
    show lb2_Law_same_498 c1 a2 c3 a4 a5 a6 a7 c9 _ (w : Int) S L = _
    unfold lb2_Law_same_498
    rw [if_pos (by omega)]
  | m + 1, N + 1, w, hw, hN => by
    have ih := l_same498 (c1 := c1) (c3 := c3) (a2 := a2) (a4 := a4) (a5 := a5) (a6 := a6) hr hq hc m N (w + 1) (by omega) (by omega)
    have q1 := hq w (by omega)
    have q2 := hr.at (w := (w : Int)) ⟨by omega, by omega⟩ (by rw [Int.toNat_natCast]; exact q1.2)
    rw [Int.toNat_natCast] at q2
    have hun : ∀ gg, lb2_Law_same_498 c1 a2 c3 a4 a5 a6 a7 c9 gg (w : Int) S L = adC 1 6 (gg ((w : Int) + 1, (S, L))) := fun gg => by
      unfold lb2_Law_same_498
      rw [if_neg (by omega), hc w (by omega), bnO_s, if_pos rfl, q2, bnO_s, if_pos q1.1.symm, nm_x, wr_s (by omega) (by omega)]
    rw [lp_succ]
    show lb2_Law_same_498 c1 a2 c3 a4 a5 a6 a7 c9 _ (w : Int) S L = _
    rw [hun]
    rw [show ((w : Int) + 1) = ((w + 1 : Nat) : Int) by omega]
    show adC 1 6 (lp (fun go p => lb2_Law_same_498 c1 a2 c3 a4 a5 a6 a7 c9 go p.1 p.2.1 p.2.2) N (((w + 1 : Nat) : Int), (S, L))) = _
    rw [ih]
    show some (_, m + 1, 6 * m + 6) = _
    rw [show 6 * m + 6 = 6 * (m + 1) by omega]
def itS (c1 : Nat) (a2 : Int) (c3 : Nat) (a5 a6 : Int) (go : Int × Int × LZ → Option (((Bool × LZ) ⊕ (Int × LZ)) × Nat × Nat)) (v141 a7 : Int) (c8 : Nat) (S : St) (L : List PC) : Option (((Bool × LZ) ⊕ (Int × LZ)) × Nat × Nat) := if (0 : Int) ≤ 7 ∧ (7 : Int) ≤ 16384 then (if L.length < 900000000 then adC 1 (7 : Int).toNat (nw L (100, List.replicate (7 : Int).toNat (.int 0)) fun r145 L146 => bnO (gfI L146 c8 11 0) fun v147 => bnO (ast L146 100 r145 0 (V v147)) fun L148 => bnO (gfI L148 c8 11 6) fun v149 => if v149 = 0 then (jf2_Law_same_440_354 c1 a2 c3 a5 a6 go v141 a7 c8 0 1 r145 r145 S L148) else (jf2_Law_same_440_354 c1 a2 c3 a5 a6 go v141 a7 c8 1 1 r145 r145 S L148)) else none) else none
theorem l_itsS {c3 : Nat} {a2 a5 a6 v141 : Int} {k x C T : Nat} {R : (Bool × LZ) ⊕ (Int × LZ) → Prop} {go : Int × Int × LZ → Option (((Bool × LZ) ⊕ (Int × LZ)) × Nat × Nat)} (h : HP L P W) (hV : Val W) (hs : Sf F0_ L K) (hk : (k : Int) < nS W) (hx : (xS P)[k]? = some x) (hc : ∀ w : Nat, w < 7 → fn_FP_story 0 k w S = some (0, q_story W k w)) (hK : K.length < 800000000)
    (hgo : ∀ K', Sf F0_ L K' → Sf F0_ K K' → K'.length = K.length + 1 → Ok (go (v141, (k : Int) + 1, (S, K'))) C T R) : Ok (itS (pT P) a2 c3 a5 a6 go v141 k x S K) (C + 8) (T + 49) R := by
  have b := hV.z
  have v := hV.2.2.1 k (by omega) hk
  obtain ⟨n1, r0⟩ := RowI.new (m := 7) (K := K) (by omega)
  have t1 : Sf F0_ L (K ++ [(100, List.replicate 7 (.int 0))]) := hs.n n1
  have f1 := st_f hV ⟨by omega, hk⟩ ((h.sf0 t1).1.2.2.2.1 _ _ hx)
  have fr : nCell + L.length ≤ nCell + K.length := by have := hs.1; omega
  obtain ⟨K1, e1, r1, c1, w1⟩ := r0.put (w := 0) (by omega) (at_ W 7 k)
  have t2 := t1.w w1 (.inr fr)
  have f2 := st_f hV ⟨by omega, hk⟩ ((h.sf0 t2).1.2.2.2.1 _ _ hx)
  obtain ⟨K2, e2, r2, c2, w2⟩ := r1.put (w := 1) (by omega) (at_ W 8 k)
  have t3 := t2.w w2 (.inr fr)
  have f3 := st_f hV ⟨by omega, hk⟩ ((h.sf0 t3).1.2.2.2.1 _ _ hx)
  obtain ⟨K3, e3, r3, c3', w3⟩ := r2.put (w := 2) (by omega) (at_ W 9 k)
  have t4 := t3.w w3 (.inr fr)
  have f4 := st_f hV ⟨by omega, hk⟩ ((h.sf0 t4).1.2.2.2.1 _ _ hx)
  obtain ⟨K4, e4, r4, c4, w4⟩ := r3.put (w := 3) (by omega) (at_ W 10 k)
  have t5 := t4.w w4 (.inr fr)
  have f5 := st_f hV ⟨by omega, hk⟩ ((h.sf0 t5).1.2.2.2.1 _ _ hx)
  obtain ⟨K5, e5, r5, c5, w5⟩ := r4.put (w := 4) (by omega) (clo (at_ W 11 k))
  have t6 := t5.w w5 (.inr fr)
  have h6 := h.sf0 t6
  have f6 := st_f hV ⟨by omega, hk⟩ (h6.1.2.2.2.1 _ _ hx)
  obtain ⟨K6, e6, r6, c6, w6⟩ := r5.put (w := 5) (by omega) (if laS W k = true then 1 else 0)
  have t7 := t6.w w6 (.inr fr)
  obtain ⟨K7, e7, r7, c7, w7⟩ := r6.put (w := 6) (by omega) (-1)
  have t8 := t7.w w7 (.inr fr)
  have l7 : K7.length = K.length + 1 := by rw [w7.1, w6.1, w5.1, w4.1, w3.1, w2.1, w1.1, n1.2.1]
  have rq : RowI K7 (nCell + K.length) 7 (fun w => q_story W k w) := r7.eq (fun w hw => by
    rcases (show w = 0 ∨ w = 1 ∨ w = 2 ∨ w = 3 ∨ w = 4 ∨ w = 5 ∨ w = 6 by omega) with rfl | rfl | rfl | rfl | rfl | rfl | rfl <;> rfl)
  have told := fun M : List PC => told_s (z := at_ W 11 k) (S := S) M
  have qin : ∀ w : Nat, w < 7 → q_story W k w = q_story W k w ∧ inR (q_story W k w) := fun w hw => ⟨rfl, by
    unfold inR q_story clo
    repeat' split
    all_goals omega⟩
  have cmp := l_same498 (S := S) (c1 := pT P) (c3 := c3) (c9 := nCell + K.length) (a2 := a2) (a4 := v141) (a5 := a5) (a6 := a6) (a7 := (k : Int)) (q := fun w => q_story W k w) rq qin hc 7 FU 0 rfl (FU_big (by omega))
  have fin : Ok (bnT (lo2_Law_same_498 (pT P) a2 c3 v141 a5 a6 k (nCell + K.length) FU (0, (S, K7))) (fun r168 => some (.inl (r168.1, (r168.2.1, r168.2.2)), 0, 0)) fun e169 => nm (wr ((k : Int) + 1)) fun v170 => go (v141, v170, (e169.1, e169.2))) (C + 7) (T + 42) R := by
    unfold bnT
    rw [show lo2_Law_same_498 (pT P) a2 c3 v141 a5 a6 k (nCell + K.length) FU (0, (S, K7)) = _ from cmp, bnO_s]
    refine Ok.ad (c := 7) (s := 6 * 7) (by omega) (by omega) ?_
    show Ok (nm (wr ((k : Int) + 1)) fun v170 => go (v141, v170, (S, K7))) _ _ _
    rw [nm_x, wr_s (by omega) (by omega)]
    refine (hgo K7 t8 ⟨by omega, fun b' hb _ => ?_⟩ l7).mono (by omega) (by omega) (fun _ z => z)
    have hne : b' ≠ nCell + K.length := by omega
    rw [w7.ne hne, w6.ne hne, w5.ne hne, w4.ne hne, w3.ne hne, w2.ne hne, w1.ne hne, n1.2.2, if_neg hne]
  have jn : ∀ st0, st0 = at_ W 8 k → Ok (jf2_Law_same_440_354 (pT P) a2 c3 a5 a6 go v141 k x st0 1 (nCell + K.length) (nCell + K.length) S K1) (C + 7) (T + 42) R := fun st0 hst => by
    subst hst
    unfold jf2_Law_same_440_354
    rw [e2, bnO_s, f3.2.2.2.1, bnO_s, e3, bnO_s, f4.2.2.2.2.2.1, bnO_s, e4, bnO_s, f5.2.2.2.2.2.2.1, bnO_s, told, bnO_s, e5, bnO_s, f6.2.2.2.2.2.1, bnO_s, h6.ti hV, bnO_s]
    by_cases c : at_ W 10 k ≤ tm W
    · rw [if_pos c]
      have e : (if laS W k = true then (1 : Int) else 0) = 0 := by unfold laS; rw [decide_eq_false (by omega), if_neg Bool.false_ne_true]
      rw [e] at e6
      rw [e6, bnO_s, e7, bnO_s]
      exact fin
    · rw [if_neg c]
      have e : (if laS W k = true then (1 : Int) else 0) = 1 := by unfold laS; rw [decide_eq_true (by omega), if_pos rfl]
      rw [e] at e6
      rw [e6, bnO_s, e7, bnO_s]
      exact fin
  unfold itS
  rw [if_pos (by decide), if_pos (by omega), nw_x]
  refine Ok.ad (c := 1) (s := 7) (by omega) (by omega) ?_
  show Ok (bnO (gfI (K ++ [(100, List.replicate 7 (Value.int 0))]) x 11 0) fun v62 => bnO (ast (K ++ [(100, List.replicate 7 (Value.int 0))]) 100 (nCell + K.length) 0 (V v62)) _) _ _ _
  rw [f1.2.1, bnO_s, e1, bnO_s, f2.2.2.2.2.2.2.2, bnO_s]
  by_cases c : at_ W 8 k = 0
  · rw [if_pos c]
    exact (jn 0 c.symm).mono (by omega) (by omega) (fun _ z => z)
  · rw [if_neg c]
    exact (jn 1 (by omega)).mono (by omega) (by omega) (fun _ z => z)
end SameS0
section SameS
variable {S : St} {L K K0 : List PC} {P : PA} {W : Vw}
def digG (W : Vw) (c k : Nat) (d : Int) : Int := itR (fun i z => wr (31 * z + at_ W c i)) 0 k d
theorem digG_s {W : Vw} {c k : Nat} {d : Int} : digG W c (k + 1) d = wr (31 * digG W c k d + at_ W c k) := by
  unfold digG
  rw [itR_snoc, Int.zero_add]
theorem l_sameS (h : HP L P W) (hG : Good W) (hT : PT S 5 W) (hs : Sf F0_ L K0) {c3 : Nat} (hc3 : nCell + L.length ≤ c3) {g : Nat → Int} (hr : RowI K0 c3 13 (rowD g 8 0)) {a2 a5 a6 d : Int} (hK : K0.length < 700000000) :
    Ok (lo2_Law_same_354 (pT P) a2 c3 a5 a6 FU (d, 0, (S, K0))) (8 * (nS W).toNat) (49 * (nS W).toNat) (fun v => ∃ K, v = .inr (digG W 11 (nS W).toNat d, (S, K)) ∧ RowI K c3 13 (rowD g 8 (plS' W 11 18 (nS W).toNat)) ∧ Sf F0_ L K ∧ K.length = K0.length + (nS W).toNat) := by
  have hV := hG.1
  have b := hV.z
  have hS : ((xS P).length : Int) = nS W := h.2.1.2.1
  have bd : ∀ k : Nat, k ≤ (nS W).toNat → 0 ≤ plS' W 11 18 k ∧ plS' W 11 18 k ≤ (k : Int) * 1 := fun k hk => plS'_bd (fun i hi => by
    unfold plW
    rw [if_pos (c := (18 : Nat) = 18) rfl]
    split <;> omega)
  have q := lp_Ok (body := fun go p => lb2_Law_same_354 (pT P) a2 c3 a5 a6 go p.1 p.2.1 p.2.2.1 p.2.2.2) (R := fun v : (Bool × LZ) ⊕ (Int × LZ) => ∃ K, v = .inr (digG W 11 (nS W).toNat d, (S, K)) ∧ RowI K c3 13 (rowD g 8 (plS' W 11 18 (nS W).toNat)) ∧ Sf F0_ L K ∧ K.length = K0.length + (nS W).toNat)
    (fun n z => ∃ (K : List PC) (k : Nat), z = (digG W 11 k d, (k : Int), (S, K)) ∧ k + n = (nS W).toNat ∧ RowI K c3 13 (rowD g 8 (plS' W 11 18 k)) ∧ Sf F0_ L K ∧ K.length = K0.length + k) (fun n => 8 * n) (fun n => 49 * n)
    (fun go z hz => by
      obtain ⟨K, k, rfl, k1, k2, k3, k4⟩ := hz
      show Ok (lb2_Law_same_354 (pT P) a2 c3 a5 a6 go (digG W 11 k d) (k : Int) S K) _ _ _
      have hK := h.sf0 k3
      unfold lb2_Law_same_354
      rw [hK.fS, bnO_s, rfB_r, if_pos hK.kS, hK.cS, bnO_s, if_pos (by omega)]
      rw [show k = (nS W).toNat by omega] at k2 k4 ⊢
      exact Ok.ret ⟨K, rfl, k2, k3, k4⟩)
    (fun go n z hz hgo => by
      obtain ⟨K, k, rfl, k1, k2, k3, k4⟩ := hz
      show Ok (lb2_Law_same_354 (pT P) a2 c3 a5 a6 go (digG W 11 k d) (k : Int) S K) (8 * (n + 1)) (49 * (n + 1)) _
      have hK := h.sf0 k3
      have hkA : 0 ≤ (k : Int) ∧ (k : Int) < nS W := by omega
      have v := hV.2.2.1 k hkA.1 hkA.2
      have bk := bd k (by omega)
      obtain ⟨x, hx, hg, hx1⟩ := hK.st hkA
      rw [Int.toNat_natCast] at hx
      obtain ⟨kk, f0, -, -, -, -, f5, -⟩ := st_f hV hkA hx1
      have e7 : rowD g 8 (plS' W 11 18 k) 8 = plS' W 11 18 k := if_pos rfl
      have q7 := k2.at (w := 8) (by omega) (by show inR (rowD g 8 (plS' W 11 18 k) 8); rw [e7]; unfold inR; omega)
      have q7 : ald K 0 c3 8 = some (plS' W 11 18 k) := q7.trans (congrArg some e7)
      obtain ⟨K1, e1, r1, cc, w1⟩ := k2.put (w := 8) (by omega) (plS' W 11 18 (k + 1))
      have r1' : RowI K1 c3 13 (rowD g 8 (plS' W 11 18 (k + 1))) := r1.eq (fun w hw => by
        show (if w = (8 : Int).toNat then _ else rowD g 8 (plS' W 11 18 k) w) = rowD g 8 (plS' W 11 18 (k + 1)) w
        unfold rowD
        by_cases c : w = 8
        · subst c; rfl
        · rw [if_neg (show ¬ w = (8 : Int).toNat from c), if_neg c, if_neg c])
      have s1 : Sf F0_ L K1 := k3.w w1 (.inr hc3)
      have hK1 := h.sf0 s1
      obtain ⟨kk', f0', -, -, -, -, f5', -⟩ := st_f hV hkA (hK1.1.2.2.2.1 _ _ hx)
      have l1 := w1.1
      have d7 := plS'_s (W := W) (c := 11) (j := 18) (k := k)
      have hc : ∀ w : Nat, w < 7 → fn_FP_story 0 k w S = some (0, q_story W k w) := fun w hw => c_story hT hG (by unfold inR; omega) (by unfold inR; omega) hkA
      have hgo' : ∀ K', Sf F0_ L K' → Sf F0_ K1 K' → K'.length = K1.length + 1 → Ok (go (digG W 11 (k + 1) d, (k : Int) + 1, (S, K'))) (8 * n) (49 * n) (fun v : (Bool × LZ) ⊕ (Int × LZ) => ∃ K, v = .inr (digG W 11 (nS W).toNat d, (S, K)) ∧ RowI K c3 13 (rowD g 8 (plS' W 11 18 (nS W).toNat)) ∧ Sf F0_ L K ∧ K.length = K0.length + (nS W).toNat) := fun K' z1 z2 z3 => by
        rw [show (k : Int) + 1 = ((k + 1 : Nat) : Int) by omega]
        exact hgo _ ⟨K', k + 1, rfl, by omega, r1'.sf0 z2, z1, by omega⟩
      have fin := l_itsS (c3 := c3) (a2 := a2) (a5 := a5) (a6 := a6) (v141 := digG W 11 (k + 1) d) h hV s1 hkA.2 hx hc (by omega) hgo'
      have fin := fin.mono (C' := 8 * (n + 1)) (T' := 49 * (n + 1)) (by omega) (by omega) (fun _ z => z)
      have ed : wr (31 * digG W 11 k d + at_ W 11 k) = digG W 11 (k + 1) d := digG_s.symm
      unfold lb2_Law_same_354
      rw [hK.fS, bnO_s, rfB_r, if_pos hK.kS, hK.cS, bnO_s, if_neg (by omega), bnO_s, rfB_r, if_pos hK.kS, hg, bnO_s, rfB_r, if_pos kk, q7, bnO_s, f5, bnO_s]
      by_cases c : at_ W 11 k ≤ 0
      · have p7 : plW W 11 18 k = 0 := if_pos c
        rw [p7] at d7
        have i7 : wr (plS' W 11 18 k + 0) = plS' W 11 18 (k + 1) := by rw [wr_s (by omega) (by omega)]; omega
        rw [if_pos c, nm_x, i7, e1, bnO_s, f5', bnO_s, nm_x, ed]
        exact fin
      · have p7 : plW W 11 18 k = 1 := by unfold plW; rw [if_neg c, if_pos rfl]
        rw [p7] at d7
        have i7 : wr (plS' W 11 18 k + 1) = plS' W 11 18 (k + 1) := by rw [wr_s (by omega) (by omega)]; omega
        rw [if_neg c, nm_x, i7, e1, bnO_s, f5', bnO_s, nm_x, ed]
        exact fin)
    (nS W).toNat FU (d, 0, (S, K0)) ⟨K0, 0, rfl, Nat.zero_add _, hr, hs, rfl⟩ (FU_big (by omega))
  exact q
end SameS
