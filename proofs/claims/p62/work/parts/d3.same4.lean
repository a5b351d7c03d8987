/-! THE SAME STATE: the standbys, the forms, the counts -/
section SameB
variable {S : St} {L K K0 : List PC} {P : PA} {W : Vw}
theorem l_sameB (h : HP L P W) (hG : Good W) (hT : PT S 5 W) (hs : Sf F0_ L K0) {c3 : Nat} (hc3 : nCell + L.length ≤ c3) {g : Nat → Int} (hr : RowI K0 c3 13 (rowD g 9 0)) {a2 a5 a6 d : Int} :
    Ok (lo2_Law_same_538 (pT P) a2 c3 a5 a6 FU (d, 0, (S, K0))) (3 * (nB W).toNat) (18 * (nB W).toNat) (fun v => ∃ K, v = .inr (digG W 13 (nB W).toNat d, (S, K)) ∧ RowI K c3 13 (rowD g 9 (plS' W 13 18 (nB W).toNat)) ∧ Sf F0_ L K ∧ K.length = K0.length) := by
  have hV := hG.1
  have b := hV.z
  have hB : ((xB P).length : Int) = nB W := h.2.1.2.2
  have bd : ∀ k : Nat, k ≤ (nB W).toNat → 0 ≤ plS' W 13 18 k ∧ plS' W 13 18 k ≤ (k : Int) * 1 := fun k hk => plS'_bd (fun i hi => by
    unfold plW
    rw [if_pos (c := (18 : Nat) = 18) rfl]
    split <;> omega)
  have q := lp_Ok (body := fun go p => lb2_Law_same_538 (pT P) a2 c3 a5 a6 go p.1 p.2.1 p.2.2.1 p.2.2.2) (R := fun v : (Bool × LZ) ⊕ (Int × LZ) => ∃ K, v = .inr (digG W 13 (nB W).toNat d, (S, K)) ∧ RowI K c3 13 (rowD g 9 (plS' W 13 18 (nB W).toNat)) ∧ Sf F0_ L K ∧ K.length = K0.length)
    (fun n z => ∃ (K : List PC) (k : Nat), z = (digG W 13 k d, (k : Int), (S, K)) ∧ k + n = (nB W).toNat ∧ RowI K c3 13 (rowD g 9 (plS' W 13 18 k)) ∧ Sf F0_ L K ∧ K.length = K0.length) (fun n => 3 * n) (fun n => 18 * n)
    (fun go z hz => by
      obtain ⟨K, k, rfl, k1, k2, k3, k4⟩ := hz
      show Ok (lb2_Law_same_538 (pT P) a2 c3 a5 a6 go (digG W 13 k d) (k : Int) S K) _ _ _
      have hK := h.sf0 k3
      unfold lb2_Law_same_538
      rw [hK.fB, bnO_s, rfB_r, if_pos hK.kB, hK.cB, bnO_s, if_pos (by omega)]
      rw [show k = (nB W).toNat by omega] at k2 ⊢
      exact Ok.ret ⟨K, rfl, k2, k3, k4⟩)
    (fun go n z hz hgo => by
      obtain ⟨K, k, rfl, k1, k2, k3, k4⟩ := hz
      show Ok (lb2_Law_same_538 (pT P) a2 c3 a5 a6 go (digG W 13 k d) (k : Int) S K) (3 * (n + 1)) (18 * (n + 1)) _
      have hK := h.sf0 k3
      have hkA : 0 ≤ (k : Int) ∧ (k : Int) < nB W := by omega
      have v := hV.2.2.2.1 k hkA.1 hkA.2
      have bk := bd k (by omega)
      obtain ⟨x, hx, hg, hx1⟩ := hK.sb hkA
      rw [Int.toNat_natCast] at hx
      obtain ⟨kk, f0, f5⟩ := sb_f hV hkA hx1
      have e7 : rowD g 9 (plS' W 13 18 k) 9 = plS' W 13 18 k := if_pos rfl
      have q7 := k2.at (w := 9) (by omega) (by show inR (rowD g 9 (plS' W 13 18 k) 9); rw [e7]; unfold inR; omega)
      have q7 : ald K 0 c3 9 = some (plS' W 13 18 k) := q7.trans (congrArg some e7)
      obtain ⟨K1, e1, r1, cc, w1⟩ := k2.put (w := 9) (by omega) (plS' W 13 18 (k + 1))
      have r1' : RowI K1 c3 13 (rowD g 9 (plS' W 13 18 (k + 1))) := r1.eq (fun w hw => by
        show (if w = (9 : Int).toNat then _ else rowD g 9 (plS' W 13 18 k) w) = rowD g 9 (plS' W 13 18 (k + 1)) w
        unfold rowD
        by_cases c : w = 9
        · subst c; rfl
        · rw [if_neg (show ¬ w = (9 : Int).toNat from c), if_neg c, if_neg c])
      have s1 : Sf F0_ L K1 := k3.w w1 (.inr hc3)
      have hK1 := h.sf0 s1
      obtain ⟨kk', f0', f5'⟩ := sb_f hV hkA (hK1.1.2.2.2.2.1 _ _ hx)
      have l1 := w1.1
      have d7 := plS'_s (W := W) (c := 13) (j := 18) (k := k)
      have q0 : fn_FP_standby 0 k 0 S = some (0, at_ W 12 k) := c_standby hT hG (by unfold inR; omega) (by unfold inR; omega) hkA
      have q1 : fn_FP_standby 0 k 1 S = some (0, clo (at_ W 13 k)) := c_standby hT hG (by unfold inR; omega) (by unfold inR; omega) hkA
      have q2 : fn_FP_standby 0 k 2 S = some (0, -1) := c_standby hT hG (by unfold inR; omega) (by unfold inR; omega) hkA
      have ed : wr (31 * digG W 13 k d + at_ W 13 k) = digG W 13 (k + 1) d := digG_s.symm
      have told := told_s (z := at_ W 13 k) (S := S) K1
      have jn : ∀ st0, st0 = plW W 13 18 k → Ok (jf2_Law_same_582_538 (pT P) a2 c3 a5 a6 go (digG W 13 k d) k x st0 (plS' W 13 18 k) 9 c3 S K) (3 * (n + 1)) (18 * (n + 1)) (fun v : (Bool × LZ) ⊕ (Int × LZ) => ∃ K, v = .inr (digG W 13 (nB W).toNat d, (S, K)) ∧ RowI K c3 13 (rowD g 9 (plS' W 13 18 (nB W).toNat)) ∧ Sf F0_ L K ∧ K.length = K0.length) := fun st0 hst => by
        have bs : 0 ≤ st0 ∧ st0 ≤ 1 := by
          rw [hst]; unfold plW
          rw [if_pos (c := (18 : Nat) = 18) rfl]
          split <;> omega
        have i7 : wr (plS' W 13 18 k + st0) = plS' W 13 18 (k + 1) := by rw [wr_s (by omega) (by omega), d7, hst]
        unfold jf2_Law_same_582_538
        rw [nm_x, i7, e1, bnO_s, f5', bnO_s, nm_x, ed, q0, bnO_s, if_pos rfl]
        refine Ok.ad (c := 1) (s := 6) (by omega) (by omega) ?_
        rw [f0', bnO_s, if_pos rfl, q1, bnO_s, if_pos rfl]
        refine Ok.ad (c := 1) (s := 6) (by omega) (by omega) ?_
        rw [bnO_s, told, bnO_s, if_pos rfl, q2, bnO_s, if_pos rfl]
        refine Ok.ad (c := 1) (s := 6) (by omega) (by omega) ?_
        rw [if_pos rfl, nm_x, wr_s (by omega) (by omega), show (k : Int) + 1 = ((k + 1 : Nat) : Int) by omega]
        exact (hgo _ ⟨K1, k + 1, rfl, by omega, r1', s1, by omega⟩).mono (by omega) (by omega) (fun _ z => z)
      unfold lb2_Law_same_538
      rw [hK.fB, bnO_s, rfB_r, if_pos hK.kB, hK.cB, bnO_s, if_neg (by omega), bnO_s, rfB_r, if_pos hK.kB, hg, bnO_s, rfB_r, if_pos kk, q7, bnO_s, f5, bnO_s]
      by_cases c : at_ W 13 k ≤ 0
      · rw [if_pos c]
        exact jn 0 (by unfold plW; rw [if_pos c])
      · rw [if_neg c]
        exact jn 1 (by unfold plW; rw [if_neg c, if_pos rfl]))
    (nB W).toNat FU (d, 0, (S, K0)) ⟨K0, 0, rfl, Nat.zero_add _, hr, hs, rfl⟩ (FU_big (by omega))
  exact q
def cfN (W : Vw) (c k : Nat) : Int := sumR (fun f => at_ W c f) 0 k
theorem cfN_s {W : Vw} {c k : Nat} : cfN W c (k + 1) = cfN W c k + at_ W c k := by
  unfold cfN
  rw [sumR_snoc, Int.zero_add]
theorem l_sameF (h : HP L P W) (hV : Val W) (hs : Sf F0_ L K0) {c3 : Nat} (hc3 : nCell + L.length ≤ c3) {g : Nat → Int} (hr : RowI K0 c3 13 (rowD (rowD g 10 0) 11 0)) {a2 a5 a6 d : Int} :
    Ok (lo2_Law_same_652 (pT P) a2 c3 a5 a6 FU (d, 0, (S, K0))) 0 0 (fun v => ∃ K, v = (digG W 15 (frm W).toNat d, (S, K)) ∧ RowI K c3 13 (rowD (rowD g 10 (cfN W 15 (frm W).toNat)) 11 (cfN W 14 (frm W).toNat)) ∧ Sf F0_ L K ∧ K.length = K0.length) := by
  have b := hV.z
  have ef : frm W = 2 * sg W := rfl
  have bd : ∀ c : Nat, (c = 14 ∨ c = 15) → ∀ k : Nat, k ≤ (frm W).toNat → 0 ≤ cfN W c k ∧ cfN W c k ≤ (k : Int) * 1 := fun c hc k hk => by
    have q := sumR_bd (w := fun f => at_ W c f) (l := 0) (h := 1) (n := k) (i := 0) (fun j h1 h2 => by
      have v := hV.2.2.2.2 j h1 (by omega)
      show 0 ≤ at_ W c j ∧ at_ W c j ≤ 1
      rcases hc with rfl | rfl <;> omega)
    rw [Int.mul_zero] at q
    exact q
  have q := lp_Ok (body := fun go p => lb2_Law_same_652 (pT P) a2 c3 a5 a6 go p.1 p.2.1 p.2.2.1 p.2.2.2) (R := fun v : Int × LZ => ∃ K, v = (digG W 15 (frm W).toNat d, (S, K)) ∧ RowI K c3 13 (rowD (rowD g 10 (cfN W 15 (frm W).toNat)) 11 (cfN W 14 (frm W).toNat)) ∧ Sf F0_ L K ∧ K.length = K0.length)
    (fun n z => ∃ (K : List PC) (k : Nat), z = (digG W 15 k d, (k : Int), (S, K)) ∧ k + n = (frm W).toNat ∧ RowI K c3 13 (rowD (rowD g 10 (cfN W 15 k)) 11 (cfN W 14 k)) ∧ Sf F0_ L K ∧ K.length = K0.length) (fun _ => 0) (fun _ => 0)
    (fun go z hz => by
      obtain ⟨K, k, rfl, k1, k2, k3, k4⟩ := hz
      show Ok (lb2_Law_same_652 (pT P) a2 c3 a5 a6 go (digG W 15 k d) (k : Int) S K) _ _ _
      have hK := h.sf0 k3
      unfold lb2_Law_same_652
      rw [hK.gg hV, bnO_s, nm_x, wr_s (by omega) (by omega), if_pos (by omega)]
      rw [show k = (frm W).toNat by omega] at k2 ⊢
      exact Ok.ret ⟨K, rfl, k2, k3, k4⟩)
    (fun go n z hz hgo => by
      obtain ⟨K, k, rfl, k1, k2, k3, k4⟩ := hz
      show Ok (lb2_Law_same_652 (pT P) a2 c3 a5 a6 go (digG W 15 k d) (k : Int) S K) 0 0 _
      have hK := h.sf0 k3
      have hkf : 0 ≤ (k : Int) ∧ (k : Int) < 2 * sg W := by omega
      have v := hV.2.2.2.2 k hkf.1 hkf.2
      have b5 := bd 15 (.inr rfl) k (by omega)
      have b4 := bd 14 (.inl rfl) k (by omega)
      have d5 := cfN_s (W := W) (c := 15) (k := k)
      have d4 := cfN_s (W := W) (c := 14) (k := k)
      have e10 : rowD (rowD g 10 (cfN W 15 k)) 11 (cfN W 14 k) 10 = cfN W 15 k := rfl
      have e11 : rowD (rowD g 10 (cfN W 15 k)) 11 (cfN W 14 k) 11 = cfN W 14 k := rfl
      have q10 : ald K 0 c3 10 = some (cfN W 15 k) := (k2.at (w := 10) (by omega) (by show inR (rowD (rowD g 10 (cfN W 15 k)) 11 (cfN W 14 k) 10); rw [e10]; unfold inR; omega)).trans (congrArg some e10)
      obtain ⟨K1, e1, r1, cc, w1⟩ := k2.put (w := 10) (by omega) (cfN W 15 (k + 1))
      have q11 : ald K1 0 c3 11 = some (cfN W 14 k) := (r1.at (w := 11) (by omega) (by show inR (cfN W 14 k); unfold inR; omega)).trans rfl
      obtain ⟨K2, e2, r2, cc2, w2⟩ := r1.put (w := 11) (by omega) (cfN W 14 (k + 1))
      have r2' : RowI K2 c3 13 (rowD (rowD g 10 (cfN W 15 (k + 1))) 11 (cfN W 14 (k + 1))) := r2.eq (fun w hw => by
        show (if w = (11 : Int).toNat then _ else if w = (10 : Int).toNat then _ else rowD (rowD g 10 (cfN W 15 k)) 11 (cfN W 14 k) w) = rowD (rowD g 10 (cfN W 15 (k + 1))) 11 (cfN W 14 (k + 1)) w
        unfold rowD
        by_cases c : w = 11
        · subst c; rfl
        · rw [if_neg (show ¬ w = (11 : Int).toNat from c), if_neg c, if_neg c]
          by_cases c' : w = 10
          · subst c'; rfl
          · rw [if_neg (show ¬ w = (10 : Int).toNat from c'), if_neg c', if_neg c'])
      have s1 : Sf F0_ L K1 := k3.w w1 (.inr hc3)
      have s2 : Sf F0_ L K2 := s1.w w2 (.inr hc3)
      have hK1 := h.sf0 s1
      have hK2 := h.sf0 s2
      have l1 := w1.1
      have l2 := w2.1
      have ed : wr (31 * digG W 15 k d + at_ W 15 k) = digG W 15 (k + 1) d := digG_s.symm
      have fin : Ok (go (digG W 15 (k + 1) d, (k : Int) + 1, (S, K2))) 0 0 (fun v : Int × LZ => ∃ K, v = (digG W 15 (frm W).toNat d, (S, K)) ∧ RowI K c3 13 (rowD (rowD g 10 (cfN W 15 (frm W).toNat)) 11 (cfN W 14 (frm W).toNat)) ∧ Sf F0_ L K ∧ K.length = K0.length) := by
        rw [show (k : Int) + 1 = ((k + 1 : Nat) : Int) by omega]
        exact hgo _ ⟨K2, k + 1, rfl, by omega, r2', s2, by omega⟩
      have dig : Ok (if at_ W 15 k = 0 then (nm (wr ((31 * digG W 15 k d) + 0)) fun v245 => nm (wr ((k : Int) + 1)) fun v246 => go (v245, v246, (S, K2))) else (nm (wr ((31 * digG W 15 k d) + 1)) fun v247 => nm (wr ((k : Int) + 1)) fun v248 => go (v247, v248, (S, K2)))) 0 0 (fun v : Int × LZ => ∃ K, v = (digG W 15 (frm W).toNat d, (S, K)) ∧ RowI K c3 13 (rowD (rowD g 10 (cfN W 15 (frm W).toNat)) 11 (cfN W 14 (frm W).toNat)) ∧ Sf F0_ L K ∧ K.length = K0.length) := by
        have i1 : wr ((k : Int) + 1) = (k : Int) + 1 := wr_s (by omega) (by omega)
        by_cases c : at_ W 15 k = 0
        · rw [c] at ed
          rw [if_pos c, nm_x, ed, nm_x, i1]
          exact fin
        · rw [show at_ W 15 k = 1 by omega] at ed
          rw [if_neg c, nm_x, ed, nm_x, i1]
          exact fin
      have jn : ∀ st0, st0 = at_ W 15 k → Ok (jf2_Law_same_683_652 (pT P) a2 c3 a5 a6 go (digG W 15 k d) k st0 (cfN W 15 k) 10 c3 S K) 0 0 (fun v : Int × LZ => ∃ K, v = (digG W 15 (frm W).toNat d, (S, K)) ∧ RowI K c3 13 (rowD (rowD g 10 (cfN W 15 (frm W).toNat)) 11 (cfN W 14 (frm W).toNat)) ∧ Sf F0_ L K ∧ K.length = K0.length) := fun st0 hst => by
        have i5 : wr (cfN W 15 k + st0) = cfN W 15 (k + 1) := by rw [hst, wr_s (by omega) (by omega), d5]
        unfold jf2_Law_same_683_652
        rw [nm_x, i5, e1, bnO_s, q11, bnO_s, hK1.fC, bnO_s, rfB_r, hK1.co hV hkf, bnO_s]
        by_cases c : at_ W 14 k = 0
        · have i4 : wr (cfN W 14 k + 0) = cfN W 14 (k + 1) := by rw [wr_s (by omega) (by omega)]; omega
          rw [if_pos c, nm_x, i4, e2, bnO_s, hK2.fP, bnO_s, rfB_r, hK2.pr hV hkf, bnO_s]
          exact dig
        · have i4 : wr (cfN W 14 k + 1) = cfN W 14 (k + 1) := by rw [wr_s (by omega) (by omega)]; omega
          rw [if_neg c, nm_x, i4, e2, bnO_s, hK2.fP, bnO_s, rfB_r, hK2.pr hV hkf, bnO_s]
          exact dig
      unfold lb2_Law_same_652
      rw [hK.gg hV, bnO_s, nm_x, wr_s (by omega) (by omega), if_neg (by omega), q10, bnO_s, hK.fP, bnO_s, rfB_r, hK.pr hV hkf, bnO_s]
      by_cases c : at_ W 15 k = 0
      · rw [if_pos c]
        exact jn 0 c.symm
      · rw [if_neg c]
        exact jn 1 (by omega))
    (frm W).toNat FU (d, 0, (S, K0)) ⟨K0, 0, rfl, Nat.zero_add _, hr, hs, rfl⟩ (FU_big (by omega))
  exact q
theorem l_same739 {c1 c3 : Nat} {a2 a4 a5 a6 : Int} {f : Nat → Int} {q : Int → Int} (hr : RowI L c3 13 f) (hq : ∀ w : Nat, w < 13 → f w = q w ∧ inR (f w)) (hc : ∀ w : Nat, w < 13 → fn_FP_count 0 w S = some (q w)) : ∀ (m N : Nat) (w : Nat), w + m = 13 → m < N → lp (fun go p => lb2_Law_same_739 c1 a2 c3 a4 a5 a6 go p.1 p.2.1 p.2.2) N ((w : Int), (S, L)) = some (.inr (S, L), 0, 0)
  | 0, N + 1, w, hw, _ => by
    rw [lp_succ]
    show lb2_Law_same_739 c1 a2 c3 a4 a5 a6 _ (w : Int) S L = _
    unfold lb2_Law_same_739
    rw [if_pos (by omega)]
  | m + 1, N + 1, w, hw, hN => by
    have ih := l_same739 (c1 := c1) (a2 := a2) (a4 := a4) (a5 := a5) (a6 := a6) hr hq hc m N (w + 1) (by omega) (by omega)
    have q1 := hq w (by omega)
    have q2 := hr.at (w := (w : Int)) ⟨by omega, by omega⟩ (by rw [Int.toNat_natCast]; exact q1.2)
    rw [Int.toNat_natCast] at q2
    have hun : ∀ gg, lb2_Law_same_739 c1 a2 c3 a4 a5 a6 gg (w : Int) S L = gg ((w : Int) + 1, (S, L)) := fun gg => by
      unfold lb2_Law_same_739
      rw [if_neg (by omega), hc w (by omega), bnO_s, q2, bnO_s, if_pos q1.1.symm, nm_x, wr_s (by omega) (by omega)]
    rw [lp_succ]
    show lb2_Law_same_739 c1 a2 c3 a4 a5 a6 _ (w : Int) S L = _
    rw [hun]
    rw [show ((w : Int) + 1) = ((w + 1 : Nat) : Int) by omega]
    exact ih
end SameB
