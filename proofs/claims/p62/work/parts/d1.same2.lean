/-! THE SAME STATE: the ads -/
def digA (W : Vw) (k : Nat) : Int := itR (fun i z => wr (31 * z + at_ W 6 i)) 0 k 1
def plW (W : Vw) (c j : Nat) (i : Int) : Int := if at_ W c i ≤ 0 then 0 else if j = 18 then 1 else at_ W j i
theorem digA_s {W : Vw} {k : Nat} : digA W (k + 1) = wr (31 * digA W k + at_ W 6 k) := by
  unfold digA
  rw [itR_snoc, Int.zero_add]
def plS' (W : Vw) (c j k : Nat) : Int := sumR (plW W c j) 0 k
theorem plS'_s {W : Vw} {c j k : Nat} : plS' W c j (k + 1) = plS' W c j k + plW W c j k := by
  unfold plS'
  rw [sumR_snoc, Int.zero_add]
theorem plS'_bd {W : Vw} {c j k : Nat} {h : Int} (hb : ∀ i : Nat, i < k → 0 ≤ plW W c j i ∧ plW W c j i ≤ h) : 0 ≤ plS' W c j k ∧ plS' W c j k ≤ (k : Int) * h := by
  have q := sumR_bd (w := plW W c j) (l := 0) (h := h) (n := k) (i := 0) (fun i h1 h2 => by
    have e := hb i.toNat (by omega)
    rw [show ((i.toNat : Nat) : Int) = i by omega] at e
    exact e)
  rw [Int.mul_zero] at q
  exact q
section Same
variable {S : St} {L K K0 : List PC} {P : PA} {W : Vw}
def rowD (g : Nat → Int) (w7 : Nat) (z : Int) (w : Nat) : Int := if w = w7 then z else g w
theorem l_sameA (h : HP L P W) (hG : Good W) (hT : PT S 5 W) (hs : Sf F0_ L K0) {c3 : Nat} (hc3 : nCell + L.length ≤ c3) {g : Nat → Int} (hr : RowI K0 c3 13 (rowD g 7 0)) {a2 : Int} (hK : K0.length < 700000000) :
    Ok (lo2_Law_same_108 (pT P) a2 c3 FU (1, 0, 0, 0, (S, K0))) (10 * (nA W).toNat) (63 * (nA W).toNat) (fun v => ∃ K, v = .inr (digA W (nA W).toNat, plS' W 6 4 (nA W).toNat, plS' W 6 0 (nA W).toNat, (S, K)) ∧ RowI K c3 13 (rowD g 7 (plS' W 6 18 (nA W).toNat)) ∧ Sf F0_ L K ∧ K.length = K0.length + (nA W).toNat) := by
  have hV := hG.1
  have b := hV.z
  have hA : ((xA P).length : Int) = nA W := h.2.1.1
  have bd : ∀ k : Nat, k ≤ (nA W).toNat → (0 ≤ plS' W 6 4 k ∧ plS' W 6 4 k ≤ (k : Int) * 999) ∧ (0 ≤ plS' W 6 0 k ∧ plS' W 6 0 k ≤ (k : Int) * 4) ∧ (0 ≤ plS' W 6 18 k ∧ plS' W 6 18 k ≤ (k : Int) * 1) := fun k hk => by
    refine ⟨plS'_bd (fun i hi => ?_), plS'_bd (fun i hi => ?_), plS'_bd (fun i hi => ?_)⟩
    · have v := hV.2.1 i (by omega) (by omega)
      unfold plW
      rw [if_neg (c := (4 : Nat) = 18) (by decide)]
      split <;> omega
    · have v := hV.2.1 i (by omega) (by omega)
      unfold plW
      rw [if_neg (c := (0 : Nat) = 18) (by decide)]
      split <;> omega
    · unfold plW
      rw [if_pos (c := (18 : Nat) = 18) rfl]
      split <;> omega
  have q := lp_Ok (body := fun go p => lb2_Law_same_108 (pT P) a2 c3 go p.1 p.2.1 p.2.2.1 p.2.2.2.1 p.2.2.2.2.1 p.2.2.2.2.2) (R := fun v : (Bool × LZ) ⊕ (Int × Int × Int × LZ) => ∃ K, v = .inr (digA W (nA W).toNat, plS' W 6 4 (nA W).toNat, plS' W 6 0 (nA W).toNat, (S, K)) ∧ RowI K c3 13 (rowD g 7 (plS' W 6 18 (nA W).toNat)) ∧ Sf F0_ L K ∧ K.length = K0.length + (nA W).toNat)
    (fun n z => ∃ (K : List PC) (k : Nat), z = (digA W k, plS' W 6 4 k, plS' W 6 0 k, (k : Int), (S, K)) ∧ k + n = (nA W).toNat ∧ RowI K c3 13 (rowD g 7 (plS' W 6 18 k)) ∧ Sf F0_ L K ∧ K.length = K0.length + k) (fun n => 10 * n) (fun n => 63 * n)
    (fun go z hz => by
      obtain ⟨K, k, rfl, k1, k2, k3, k4⟩ := hz
      show Ok (lb2_Law_same_108 (pT P) a2 c3 go (digA W k) (plS' W 6 4 k) (plS' W 6 0 k) (k : Int) S K) _ _ _
      have hK := h.sf0 k3
      unfold lb2_Law_same_108
      rw [hK.fA, bnO_s, rfB_r, if_pos hK.kA, hK.cA, bnO_s, if_pos (by omega)]
      rw [show k = (nA W).toNat by omega] at k2 k4 ⊢
      exact Ok.ret ⟨K, rfl, k2, k3, k4⟩)
    (fun go n z hz hgo => by
      obtain ⟨K, k, rfl, k1, k2, k3, k4⟩ := hz
      show Ok (lb2_Law_same_108 (pT P) a2 c3 go (digA W k) (plS' W 6 4 k) (plS' W 6 0 k) (k : Int) S K) (10 * (n + 1)) (63 * (n + 1)) _
      have hK := h.sf0 k3
      have hkA : 0 ≤ (k : Int) ∧ (k : Int) < nA W := by omega
      have v := hV.2.1 k hkA.1 hkA.2
      have bk := bd k (by omega)
      have bk1 := bd (k + 1) (by omega)
      obtain ⟨x, hx, hg, hx1⟩ := hK.ad hkA
      rw [Int.toNat_natCast] at hx
      obtain ⟨kk, f0, -, -, f3, -, f5, -⟩ := ad_f hV hkA hx1
      have e7 : rowD g 7 (plS' W 6 18 k) 7 = plS' W 6 18 k := if_pos rfl
      have q7 := k2.at (w := 7) (by omega) (by show inR (rowD g 7 (plS' W 6 18 k) 7); rw [e7]; unfold inR; omega)
      have q7 : ald K 0 c3 7 = some (plS' W 6 18 k) := q7.trans (congrArg some e7)
      obtain ⟨K1, e1, r1, cc, w1⟩ := k2.put (w := 7) (by omega) (plS' W 6 18 (k + 1))
      have r1' : RowI K1 c3 13 (rowD g 7 (plS' W 6 18 (k + 1))) := r1.eq (fun w hw => by
        show (if w = (7 : Int).toNat then _ else rowD g 7 (plS' W 6 18 k) w) = rowD g 7 (plS' W 6 18 (k + 1)) w
        unfold rowD
        by_cases c : w = 7
        · subst c; rfl
        · rw [if_neg (show ¬ w = (7 : Int).toNat from c), if_neg c, if_neg c])
      have s1 : Sf F0_ L K1 := k3.w w1 (.inr hc3)
      have hK1 := h.sf0 s1
      obtain ⟨kk', f0', -, -, f3', -, f5', -⟩ := ad_f hV hkA (hK1.1.2.2.1 _ _ hx)
      have l1 := w1.1
      have d7 := plS'_s (W := W) (c := 6) (j := 18) (k := k)
      have d4 := plS'_s (W := W) (c := 6) (j := 4) (k := k)
      have d0 := plS'_s (W := W) (c := 6) (j := 0) (k := k)
      have hc : ∀ w : Nat, w < 9 → fn_FP_ad 0 k w S = some (0, q_ad W k w) := fun w hw => c_ad hT hG (by unfold inR; omega) (by unfold inR; omega) hkA
      have hgo' : ∀ K', Sf F0_ L K' → Sf F0_ K1 K' → K'.length = K1.length + 1 → Ok (go (digA W (k + 1), plS' W 6 4 (k + 1), plS' W 6 0 (k + 1), (k : Int) + 1, (S, K'))) (10 * n) (63 * n) (fun v : (Bool × LZ) ⊕ (Int × Int × Int × LZ) => ∃ K, v = .inr (digA W (nA W).toNat, plS' W 6 4 (nA W).toNat, plS' W 6 0 (nA W).toNat, (S, K)) ∧ RowI K c3 13 (rowD g 7 (plS' W 6 18 (nA W).toNat)) ∧ Sf F0_ L K ∧ K.length = K0.length + (nA W).toNat) := fun K' z1 z2 z3 => by
        rw [show (k : Int) + 1 = ((k + 1 : Nat) : Int) by omega]
        exact hgo _ ⟨K', k + 1, rfl, by omega, r1'.sf0 z2, z1, by omega⟩
      have fin := l_its (c3 := c3) (a2 := a2) (a4 := digA W (k + 1)) (v54 := plS' W 6 4 (k + 1)) (v56 := plS' W 6 0 (k + 1)) h hV s1 hkA.2 hx hc (by omega) hgo'
      have fin := fin.mono (C' := 10 * (n + 1)) (T' := 63 * (n + 1)) (by omega) (by omega) (fun _ z => z)
      have ed : wr (31 * digA W k + at_ W 6 k) = digA W (k + 1) := digA_s.symm
      unfold lb2_Law_same_108
      rw [hK.fA, bnO_s, rfB_r, if_pos hK.kA, hK.cA, bnO_s, if_neg (by omega), bnO_s, rfB_r, if_pos hK.kA, hg, bnO_s, rfB_r, if_pos kk, q7, bnO_s, f5, bnO_s]
      by_cases c : at_ W 6 k ≤ 0
      · have p7 : plW W 6 18 k = 0 := if_pos c
        have p4 : plW W 6 4 k = 0 := if_pos c
        have p0 : plW W 6 0 k = 0 := if_pos c
        rw [p7] at d7
        rw [p4] at d4
        rw [p0] at d0
        have i7 : wr (plS' W 6 18 k + 0) = plS' W 6 18 (k + 1) := by rw [wr_s (by omega) (by omega)]; omega
        have i4 : wr (plS' W 6 4 k + 0) = plS' W 6 4 (k + 1) := by rw [wr_s (by omega) (by omega)]; omega
        have i0 : wr (plS' W 6 0 k + 0) = plS' W 6 0 (k + 1) := by rw [wr_s (by omega) (by omega)]; omega
        rw [if_pos c, nm_x, i7, e1, bnO_s, f5', bnO_s, nm_x, ed, bnO_s, if_pos c]
        unfold jf2_Law_same_186_108
        rw [nm_x, i4, f5', bnO_s, if_pos c, nm_x, i0]
        exact fin
      · have p7 : plW W 6 18 k = 1 := by unfold plW; rw [if_neg c, if_pos rfl]
        have p4 : plW W 6 4 k = at_ W 4 k := by unfold plW; rw [if_neg c, if_neg (by decide)]
        have p0 : plW W 6 0 k = at_ W 0 k := by unfold plW; rw [if_neg c, if_neg (by decide)]
        rw [p7] at d7
        rw [p4] at d4
        rw [p0] at d0
        have i7 : wr (plS' W 6 18 k + 1) = plS' W 6 18 (k + 1) := by rw [wr_s (by omega) (by omega)]; omega
        have i4 : wr (plS' W 6 4 k + at_ W 4 k) = plS' W 6 4 (k + 1) := by rw [wr_s (by omega) (by omega)]; omega
        have i0 : wr (plS' W 6 0 k + at_ W 0 k) = plS' W 6 0 (k + 1) := by rw [wr_s (by omega) (by omega)]; omega
        rw [if_neg c, nm_x, i7, e1, bnO_s, f5', bnO_s, nm_x, ed, bnO_s, if_neg c, f3', bnO_s]
        unfold jf2_Law_same_186_108
        rw [nm_x, i4, f5', bnO_s, if_neg c, f0', bnO_s, nm_x, i0]
        exact fin)
    (nA W).toNat FU (1, 0, 0, 0, (S, K0)) ⟨K0, 0, rfl, Nat.zero_add _, hr, hs, rfl⟩ (FU_big (by omega))
  exact q
end Same
