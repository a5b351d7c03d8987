/-! THE SAME STATE: rows of numbers; an ad's -/
def RowI (L : List PC) (r n : Nat) (f : Nat → Int) : Prop := ∃ vs, hp L r = some (100, vs) ∧ vs.length = n ∧ ∀ w : Nat, w < n → vs[w]? = some (V (f w))
section Rows
variable {S : St} {L K K1 : List PC} {P : PA} {W : Vw} {r n : Nat} {f : Nat → Int}
theorem RowI.at (h : RowI K r n f) {w : Int} (hw : 0 ≤ w ∧ w < n) (hi : inR (f w.toNat)) : ald K 0 r w = some (f w.toNat) := by
  obtain ⟨vs, h1, h2, h3⟩ := h
  exact ald_s (t := 0) h1 hw.1 (h3 _ (by omega)) hi
theorem RowI.put (h : RowI K r n f) {w : Int} (hw : 0 ≤ w ∧ w < n) (z : Int) : ∃ K1, ast K 100 r w (V z) = some K1 ∧ RowI K1 r n (fun j => if j = w.toNat then z else f j) ∧ ∃ c, W1 K K1 r c := by
  obtain ⟨vs, h1, h2, h3⟩ := h
  obtain ⟨K1, e, w1⟩ := ast_s h1 (i := w) hw.1 (by omega) (V z)
  refine ⟨K1, e, ⟨_, w1.at, by rw [List.length_set]; exact h2, fun j hj => ?_⟩, _, w1⟩
  by_cases c : w.toNat = j
  · subst c
    show _ = some (V (if w.toNat = w.toNat then z else f w.toNat))
    rw [List.getElem?_set, if_pos rfl, if_pos (by omega), if_pos rfl]
  · show _ = some (V (if j = w.toNat then z else f j))
    rw [List.getElem?_set, if_neg c, if_neg (Ne.symm c)]
    exact h3 j hj
theorem RowI.w1 (h : RowI K r n f) {r' : Nat} {c : PC} (hw : W1 K K1 r' c) (hne : r ≠ r') : RowI K1 r n f := by
  obtain ⟨vs, h1, h2⟩ := h
  exact ⟨vs, by rw [hw.ne hne]; exact h1, h2⟩
theorem RowI.sf0 (h : RowI K r n f) (hs : Sf F0_ K K1) : RowI K1 r n f := by
  obtain ⟨vs, h1, h2⟩ := h
  exact ⟨vs, hs.at0 h1, h2⟩
theorem RowI.lt (h : RowI K r n f) : r < nCell + K.length := by
  obtain ⟨vs, h1, -⟩ := h
  exact hp_lt h1
theorem RowI.eq (h : RowI K r n f) {g : Nat → Int} (e : ∀ w : Nat, w < n → f w = g w) : RowI K r n g := by
  obtain ⟨vs, h1, h2, h3⟩ := h
  exact ⟨vs, h1, h2, fun w hw => by rw [← e w hw]; exact h3 w hw⟩
theorem RowI.new {m : Nat} (hL : K.length < 900000000) : N1 K (K ++ [(100, List.replicate m (.int 0))]) (nCell + K.length) (100, List.replicate m (.int 0)) ∧ RowI (K ++ [(100, List.replicate m (.int 0))]) (nCell + K.length) m (fun _ => 0) := by
  have q := N1.of (L := K) (c := (100, List.replicate m (.int 0))) hL
  refine ⟨q, _, q.at, List.length_replicate, fun w hw => ?_⟩
  rw [List.getElem?_replicate, if_pos hw]
  rfl
/-- its nine numbers compared -/
theorem l_same314 {c1 c3 c9 : Nat} {a2 a4 a5 a6 a7 : Int} {q : Int → Int} (hr : RowI L c9 9 f) (hq : ∀ w : Nat, w < 9 → f w = q w ∧ inR (f w)) (hc : ∀ w : Nat, w < 9 → fn_FP_ad 0 a7 w S = some (0, q w)) : ∀ (m N : Nat) (w : Nat), w + m = 9 → m < N → lp (fun go p => lb2_Law_same_314 c1 a2 c3 a4 a5 a6 a7 c9 go p.1 p.2.1 p.2.2) N ((w : Int), (S, L)) = some (.inr (S, L), m, 6 * m)
  | 0, N + 1, w, hw, _ => by
    rw [lp_succ]
    show lb2_Law_same_314 c1 a2 c3 a4 a5 a6 a7 c9 _ (w : Int) S L = _
    unfold lb2_Law_same_314
    rw [if_pos (by omega)]
  | m + 1, N + 1, w, hw, hN => by
    have ih := l_same314 (c1 := c1) (c3 := c3) (a2 := a2) (a4 := a4) (a5 := a5) (a6 := a6) hr hq hc m N (w + 1) (by omega) (by omega)
    have q1 := hq w (by omega)
    have q2 := hr.at (w := (w : Int)) ⟨by omega, by omega⟩ (by rw [Int.toNat_natCast]; exact q1.2)
    rw [Int.toNat_natCast] at q2
    have hun : ∀ gg, lb2_Law_same_314 c1 a2 c3 a4 a5 a6 a7 c9 gg (w : Int) S L = adC 1 6 (gg ((w : Int) + 1, (S, L))) := fun gg => by
      unfold lb2_Law_same_314
      rw [if_neg (by omega), hc w (by omega), bnO_s, if_pos rfl, q2, bnO_s, if_pos q1.1.symm, nm_x, wr_s (by omega) (by omega)]
    rw [lp_succ]
    show lb2_Law_same_314 c1 a2 c3 a4 a5 a6 a7 c9 _ (w : Int) S L = _
    rw [hun]
    rw [show ((w : Int) + 1) = ((w + 1 : Nat) : Int) by omega]
    show adC 1 6 (lp (fun go p => lb2_Law_same_314 c1 a2 c3 a4 a5 a6 a7 c9 go p.1 p.2.1 p.2.2) N (((w + 1 : Nat) : Int), (S, L))) = _
    rw [ih]
    show some (_, m + 1, 6 * m + 6) = _
    rw [show 6 * m + 6 = 6 * (m + 1) by omega]
def itE (c1 : Nat) (a2 : Int) (c3 : Nat) (go : Int × Int × Int × Int × LZ → Option (((Bool × LZ) ⊕ (Int × Int × Int × LZ)) × Nat × Nat)) (a4 v54 v56 a7 : Int) (c8 : Nat) (S : St) (L : List PC) : Option (((Bool × LZ) ⊕ (Int × Int × Int × LZ)) × Nat × Nat) := if (0 : Int) ≤ 9 ∧ (9 : Int) ≤ 16384 then (if L.length < 900000000 then adC 1 (9 : Int).toNat (nw L (100, List.replicate (9 : Int).toNat (.int 0)) fun r60 L61 => bnO (gfI L61 c8 11 0) fun v62 => bnO (ast L61 100 r60 0 (V v62)) fun L63 => bnO (gfI L63 c8 11 1) fun v64 => bnO (ast L63 100 r60 1 (V v64)) fun L65 => bnO (gfI L65 c8 11 6) fun v66 => if v66 = 0 then (jf2_Law_same_246_108 c1 a2 c3 go a4 v54 v56 a7 c8 0 2 r60 r60 S L65) else (jf2_Law_same_246_108 c1 a2 c3 go a4 v54 v56 a7 c8 1 2 r60 r60 S L65)) else none) else none
theorem l_its {c3 : Nat} {a2 a4 v54 v56 : Int} {k x C T : Nat} {R : (Bool × LZ) ⊕ (Int × Int × Int × LZ) → Prop} {go : Int × Int × Int × Int × LZ → Option (((Bool × LZ) ⊕ (Int × Int × Int × LZ)) × Nat × Nat)} (h : HP L P W) (hV : Val W) (hs : Sf F0_ L K) (hk : (k : Int) < nA W) (hx : (xA P)[k]? = some x) (hc : ∀ w : Nat, w < 9 → fn_FP_ad 0 k w S = some (0, q_ad W k w)) (hK : K.length < 800000000)
    (hgo : ∀ K', Sf F0_ L K' → Sf F0_ K K' → K'.length = K.length + 1 → Ok (go (a4, v54, v56, (k : Int) + 1, (S, K'))) C T R) : Ok (itE (pT P) a2 c3 go a4 v54 v56 k x S K) (C + 10) (T + 63) R := by
  have b := hV.z
  have v := hV.2.1 k (by omega) hk
  obtain ⟨n1, r0⟩ := RowI.new (m := 9) (K := K) (by omega)
  have t1 : Sf F0_ L (K ++ [(100, List.replicate 9 (.int 0))]) := hs.n n1
  have f1 := ad_f hV ⟨by omega, hk⟩ ((h.sf0 t1).1.2.2.1 _ _ hx)
  have fr : nCell + L.length ≤ nCell + K.length := by have := hs.1; omega
  obtain ⟨K1, e1, r1, c1, w1⟩ := r0.put (w := 0) (by omega) (at_ W 0 k)
  have t2 := t1.w w1 (.inr fr)
  have f2 := ad_f hV ⟨by omega, hk⟩ ((h.sf0 t2).1.2.2.1 _ _ hx)
  obtain ⟨K2, e2, r2, c2, w2⟩ := r1.put (w := 1) (by omega) (at_ W 1 k)
  have t3 := t2.w w2 (.inr fr)
  have f3 := ad_f hV ⟨by omega, hk⟩ ((h.sf0 t3).1.2.2.1 _ _ hx)
  obtain ⟨K3, e3, r3, c3', w3⟩ := r2.put (w := 2) (by omega) (at_ W 2 k)
  have t4 := t3.w w3 (.inr fr)
  have f4 := ad_f hV ⟨by omega, hk⟩ ((h.sf0 t4).1.2.2.1 _ _ hx)
  obtain ⟨K4, e4, r4, c4, w4⟩ := r3.put (w := 3) (by omega) (at_ W 3 k)
  have t5 := t4.w w4 (.inr fr)
  have f5 := ad_f hV ⟨by omega, hk⟩ ((h.sf0 t5).1.2.2.1 _ _ hx)
  obtain ⟨K5, e5, r5, c5, w5⟩ := r4.put (w := 4) (by omega) (at_ W 4 k)
  have t6 := t5.w w5 (.inr fr)
  have f6 := ad_f hV ⟨by omega, hk⟩ ((h.sf0 t6).1.2.2.1 _ _ hx)
  obtain ⟨K6, e6, r6, c6, w6⟩ := r5.put (w := 5) (by omega) (at_ W 5 k)
  have t7 := t6.w w6 (.inr fr)
  have f7 := ad_f hV ⟨by omega, hk⟩ ((h.sf0 t7).1.2.2.1 _ _ hx)
  obtain ⟨K7, e7, r7, c7, w7⟩ := r6.put (w := 6) (by omega) (clo (at_ W 6 k))
  have t8 := t7.w w7 (.inr fr)
  have h8 := h.sf0 t8
  have f8 := ad_f hV ⟨by omega, hk⟩ (h8.1.2.2.1 _ _ hx)
  obtain ⟨K8, e8, r8, c8, w8⟩ := r7.put (w := 7) (by omega) (if laA W k = true then 1 else 0)
  have t9 := t8.w w8 (.inr fr)
  obtain ⟨K9, e9, r9, c9, w9⟩ := r8.put (w := 8) (by omega) (-1)
  have t10 := t9.w w9 (.inr fr)
  have l9 : K9.length = K.length + 1 := by rw [w9.1, w8.1, w7.1, w6.1, w5.1, w4.1, w3.1, w2.1, w1.1, n1.2.1]
  have rq : RowI K9 (nCell + K.length) 9 (fun w => q_ad W k w) := r9.eq (fun w hw => by
    rcases (show w = 0 ∨ w = 1 ∨ w = 2 ∨ w = 3 ∨ w = 4 ∨ w = 5 ∨ w = 6 ∨ w = 7 ∨ w = 8 by omega) with rfl | rfl | rfl | rfl | rfl | rfl | rfl | rfl | rfl <;> rfl)
  have told : ∀ M, gn_Law_told (at_ W 6 k) S M = some (clo (at_ W 6 k)) := fun M => by
    unfold gn_Law_told clo
    by_cases c : at_ W 6 k = 0
    · rw [if_pos c]
      first
        | rw [if_pos c]
        | rw [if_neg (by omega)]
        | rw [if_pos (by omega)]
    · rw [if_neg c]
      first
        | rw [if_neg c]
        | rw [if_pos (by omega)]
        | rw [if_neg (by omega)]
  have qin : ∀ w : Nat, w < 9 → q_ad W k w = q_ad W k w ∧ inR (q_ad W k w) := fun w hw => ⟨rfl, by
    unfold inR q_ad clo
    repeat' split
    all_goals omega⟩
  have cmp := l_same314 (S := S) (c1 := pT P) (c3 := c3) (c9 := nCell + K.length) (a2 := a2) (a4 := a4) (a5 := v54) (a6 := v56) (a7 := (k : Int)) (q := fun w => q_ad W k w) rq qin hc 9 FU 0 rfl (FU_big (by omega))
  have jn : ∀ st0, st0 = at_ W 2 k → Ok (jf2_Law_same_246_108 (pT P) a2 c3 go a4 v54 v56 k x st0 2 (nCell + K.length) (nCell + K.length) S K2) (C + 9) (T + 54) R := fun st0 hst => by
    subst hst
    unfold jf2_Law_same_246_108
    rw [e3, bnO_s, f4.2.2.2.1, bnO_s, e4, bnO_s, f5.2.2.2.2.1, bnO_s, e5, bnO_s, f6.2.2.2.2.2.1, bnO_s, e6, bnO_s, f7.2.2.2.2.2.2.1, bnO_s, told, bnO_s, e7, bnO_s, f8.2.2.2.2.2.1, bnO_s, h8.ti hV, bnO_s]
    have fin : Ok (bnT (lo2_Law_same_314 (pT P) a2 c3 a4 v54 v56 k (nCell + K.length) FU (0, (S, K9))) (fun r87 => some (.inl (r87.1, (r87.2.1, r87.2.2)), 0, 0)) fun e88 => nm (wr ((k : Int) + 1)) fun v89 => go (a4, v54, v56, v89, (e88.1, e88.2))) (C + 9) (T + 54) R := by
      unfold bnT
      rw [show lo2_Law_same_314 (pT P) a2 c3 a4 v54 v56 k (nCell + K.length) FU (0, (S, K9)) = _ from cmp, bnO_s]
      refine Ok.ad (c := 9) (s := 6 * 9) (by omega) (by omega) ?_
      show Ok (nm (wr ((k : Int) + 1)) fun v89 => go (a4, v54, v56, v89, (S, K9))) _ _ _
      rw [nm_x, wr_s (by omega) (by omega)]
      refine (hgo K9 t10 ⟨by omega, fun b' hb _ => ?_⟩ l9).mono (by omega) (by omega) (fun _ z => z)
      have hne : b' ≠ nCell + K.length := by omega
      rw [w9.ne hne, w8.ne hne, w7.ne hne, w6.ne hne, w5.ne hne, w4.ne hne, w3.ne hne, w2.ne hne, w1.ne hne, n1.2.2, if_neg hne]
    by_cases c : at_ W 5 k ≤ tm W
    · rw [if_pos c]
      have e : (if laA W k = true then (1 : Int) else 0) = 0 := by unfold laA; rw [decide_eq_false (by omega), if_neg Bool.false_ne_true]
      rw [e] at e8
      rw [e8, bnO_s, e9, bnO_s]
      exact fin
    · rw [if_neg c]
      have e : (if laA W k = true then (1 : Int) else 0) = 1 := by unfold laA; rw [decide_eq_true (by omega), if_pos rfl]
      rw [e] at e8
      rw [e8, bnO_s, e9, bnO_s]
      exact fin
  unfold itE
  rw [if_pos (by decide), if_pos (by omega), nw_x]
  refine Ok.ad (c := 1) (s := 9) (by omega) (by omega) ?_
  show Ok (bnO (gfI (K ++ [(100, List.replicate 9 (Value.int 0))]) x 11 0) fun v62 => bnO (ast (K ++ [(100, List.replicate 9 (Value.int 0))]) 100 (nCell + K.length) 0 (V v62)) _) _ _ _
  rw [f1.2.1, bnO_s, e1, bnO_s, f2.2.2.1, bnO_s, e2, bnO_s, f3.2.2.2.2.2.2.2, bnO_s]
  by_cases c : at_ W 2 k = 0
  · rw [if_pos c]
    exact (jn 0 c.symm).mono (by omega) (by omega) (fun _ z => z)
  · rw [if_neg c]
    exact (jn 1 (by omega)).mono (by omega) (by omega) (fun _ z => z)
end Rows
