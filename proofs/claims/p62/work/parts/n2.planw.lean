/-! A PLAN DRAWN FROM THE SCRIPT: the law's method -/
section PlanM
variable {S : St} {L0 L : List PC}
theorem l_plan {sc : SC} {a2 : Int} {t q : Nat} (hsc : (nI sc.2).toInt = (sc.2 : Int)) (ha : 0 ≤ a2 ∧ a2 ≤ 5000) (hs : Sf F0_ L0 L) (hL : L.length < 90000000) (bt : nCell + L0.length ≤ t) (bq : nCell + L0.length ≤ q)
    (h0 : hp L t = some (12, [V 1, V 16, V 0, V 0, Value.ref q, Value.ref (q + 1), Value.ref (q + 2), Value.ref (q + 3), Value.ref (q + 4), Value.ref (q + 5)]))
    (h1 : LsH L q (XB + 300 + 300) 0 0 []) (h2 : LsH L (q + 1) (XB + 300 + 300) 0 0 []) (h3 : LsH L (q + 2) (XB + 300 + 300) 0 0 []) (h4 : hp L (q + 3) = some (102, z8)) (h5 : hp L (q + 4) = some (102, z8)) (h6 : hp L (q + 5) = some (100, m8)) :
    Ok (gn_Law_plan sc t a2 S L) 3000 81000 (fun v => ∃ K' t' P' ss g s, v = (Value.ref t', (S, K')) ∧ BI L0 K' P' t t' (emV g s) (txH g s) ss 624 ∧ ((1 ≤ g ∧ g ≤ 4) ∧ (s = 4 ∨ s = 8 ∨ s = 16)) ∧ (xS P').length ≤ 3 ∧ K'.length ≤ L.length + 41000) := by
  obtain ⟨ep, p0, p1⟩ := pk_ok hsc (k := a2) (by omega) S L
  obtain ⟨x, hx⟩ : ∃ x, x = pkv sc a2 := ⟨_, rfl⟩
  rw [← hx] at ep p0 p1
  have hle := hs.1
  obtain ⟨n1, r1⟩ := RowI.new (K := L) (m := 4) (by omega)
  have s1 : Sf F0_ L (L ++ [(100, List.replicate 4 (.int 0))]) := n1.sf0
  have l1 : (L ++ [(100, List.replicate 4 (Value.int 0))]).length = L.length + 1 := n1.2.1
  obtain ⟨K2, e2, r2, s2, l2⟩ := r1.putK s1 (Nat.le_refl _) (w := 0) (by decide) 4
  obtain ⟨K3, e3, r3, s3, l3⟩ := r2.putK s2 (Nat.le_refl _) (w := 1) (by decide) 8
  obtain ⟨K4, e4, r4, s4, l4⟩ := r3.putK s3 (Nat.le_refl _) (w := 2) (by decide) 16
  obtain ⟨K5, e5, r5, s5, l5⟩ := r4.putK s4 (Nat.le_refl _) (w := 3) (by decide) 8
  have g1 : 1 ≤ 1 + x % 4 ∧ 1 + x % 4 ≤ 4 := by omega
  obtain ⟨z, hz⟩ : ∃ z, z = x / 4 % 4 := ⟨_, rfl⟩
  have zb : 0 ≤ z ∧ z < 4 := by omega
  have se : each z = 4 ∨ each z = 8 ∨ each z = 16 := by
    unfold each
    split
    · exact .inl rfl
    · split
      · exact .inr (.inr rfl)
      · exact .inr (.inl rfl)
  obtain ⟨K6, e6, w6⟩ := pf_s (s5.at0 h0) (f := 0) (Nat.le_of_ble_eq_true rfl) (V (1 + x % 4))
  have tq : t ≠ nCell + L.length := by have := hp_lt h0; omega
  have r6 : ald K6 0 (nCell + L.length) z = some (each z) := by
    obtain ⟨vs, y1, y2, y3⟩ := r5
    have y1' : hp K6 (nCell + L.length) = some (100, vs) := by rw [w6.ne tq.symm]; exact y1
    have hv : vs[z.toNat]? = some (V (each z)) := by
      rw [y3 z.toNat (by omega)]
      have : z = 0 ∨ z = 1 ∨ z = 2 ∨ z = 3 := by omega
      rcases this with rfl | rfl | rfl | rfl <;> rfl
    exact ald_s (t := 0) y1' zb.1 hv (by unfold inR; omega)
  obtain ⟨K7, e7, w7⟩ := pf_s w6.at (f := 1) (Nat.le_of_ble_eq_true rfl) (V (each z))
  have o : ∀ {b k : Nat} {vs : List Value}, hp L b = some (k, vs) → k ≠ 12 → hp K7 b = some (k, vs) := fun {b k vs} hb hk => by
    have q1 := s5.at0 hb
    have ne : b ≠ t := hp_ne hb h0 hk
    rw [w7.ne ne, w6.ne ne]
    exact q1
  have ls : ∀ {b : Nat}, LsH L b (XB + 300 + 300) 0 0 [] → LsH K7 b (XB + 300 + 300) 0 0 [] := fun hb =>
    ((hb.sf s5 id (fun _ => id)).w12 (s5.at0 h0) w6).w12 w6.at w7
  have hP := HP_em (L := K7) (t := t) (q := q) (s := 1 + x % 4) (e := each z) g1 w7.at (ls h1) (ls h2) (ls h3) (o h4 (by decide)) (o h5 (by decide)) (o h6 (by decide))
  have hG := Good_em (s := 1 + x % 4) (e := each z) g1 (by rcases se with e | e | e <;> simp [e])
  have s7 : Sf F0_ L0 K7 := ((hs.trans s5).w w6 (.inr bt)).w w7 (.inr bt)
  have l7 : K7.length = L.length + 1 := by rw [w7.1, w6.1, l5, l4, l3, l2, l1]
  unfold gn_Law_plan
  rw [ep, bnO_s, if_pos (by decide), if_pos (by omega), show (4 : Int).toNat = 4 from rfl, nw_x]
  refine Ok.ad (c := 1) (s := 4) (by omega) (by omega) ?_
  rw [e2, bnO_s, e3, bnO_s, e4, bnO_s, e5, bnO_s, nm_x, Int.tmod_eq_emod_of_nonneg p0, wr_s (z := 1 + x % 4) (by omega) (by omega), e6, bnO_s, nm_x, Int.tdiv_eq_ediv_of_nonneg p0, wr_s (z := x / 4) (by omega) (by omega), nm_x, Int.tmod_eq_emod_of_nonneg (by omega), wr_s (z := x / 4 % 4) (by omega) (by omega), ← hz, r6, bnO_s, e7, bnO_s]
  have pv := plT_v
  refine (tx_hd (N := 34) (C := 2900) (T := 80800) (W := emV (1 + x % 4) (each z)) (P := (t, ((q, XB + 300 + 300, 0, 0, []), (q + 1, XB + 300 + 300, 0, 0, []), (q + 2, XB + 300 + 300, 0, 0, [])), q + 3, q + 4, q + 5)) hP hG.1 (by show 0 ≤ 1 + x % 4 ∧ 1 + x % 4 < 9; omega) (by show 0 ≤ each z ∧ each z < 99; omega) (dg1 (by show 1 + x % 4 < 10; omega)) (dg2 (by show each z < 100; omega)) (by decide) (by decide) (by omega) (fun t' K' u v y1 y2 y3 y4 => ?_)).mono (by show 2 + (psi 34 16 + (2 + 2900)) ≤ _; rw [show psi 34 16 = 2 from rfl]; omega) (by show 20 + (phi 34 16 + (4 + 34 + 80800)) ≤ _; rw [show phi 34 16 = 104 from rfl]; omega) (fun _ q => q)
  have hb : BI L0 K' (t, ((q, XB + 300 + 300, 0, 0, []), (q + 1, XB + 300 + 300, 0, 0, []), (q + 2, XB + 300 + 300, 0, 0, [])), q + 3, q + 4, q + 5) t t' (emV (1 + x % 4) (each z)) (txH (1 + x % 4) (each z)) [] 10 := by
    have tl := txH_len (g := 1 + x % 4) (s := each z) (by omega) (by omega)
    refine ⟨⟨hP.sf0 y3, trivial, rfl⟩, ⟨by show StH K' t' (txH _ _ ++ []); rw [List.append_nil]; exact y1, by show (txH _ _ ++ []).length ≤ 10; rw [List.append_nil]; exact tl⟩, ⟨s7.trans y3, fun b hb => ?_⟩, fun z => absurd (show XB + 300 + 300 < XB from z) (by omega)⟩
    have xbig : nCell + L0.length ≤ XB + 300 + 300 := by unfold nCell XB; omega
    rcases hb with e | e | e | e | e | e | e | e
    · rw [e]; exact bt
    · rcases e with e | e
      · rw [e]; exact bq
      · rw [e]; exact xbig
    · rcases e with e | e
      · rw [e]; exact Nat.le_succ_of_le bq
      · rw [e]; exact xbig
    · rcases e with e | e
      · rw [e]; exact Nat.le_trans bq (Nat.le_add_right q 2)
      · rw [e]; exact xbig
    · rcases e with e | e | e
      · rw [e]; exact Nat.le_trans bq (Nat.le_add_right q 3)
      · rw [e]; exact Nat.le_trans bq (Nat.le_add_right q 4)
      · rw [e]; exact Nat.le_trans bq (Nat.le_add_right q 5)
    · exact absurd e List.not_mem_nil
    · exact absurd e List.not_mem_nil
    · exact absurd e List.not_mem_nil
  dsimp only
  have rest := l_plRest (S := S) (sc := sc) (a2 := a2) (x := x) hsc hG rfl ⟨rfl, rfl, rfl⟩ ha ⟨p0, p1⟩ hb (by omega)
  have cC : 60 * 8 + (60 * 18 + (60 * 3 + (60 * 5 + (60 * 3 + 60 * 9)))) ≤ 2900 := Nat.le_of_ble_eq_true rfl
  have cT : plT 9 8 10 + ((plT 18 18 82 + 74 * 18) + ((plT 15 3 406 + 74 * 3) + ((plT 10 5 451 + 74 * 5) + (plT 11 3 501 + plT 10 9 534)))) ≤ 80800 := by
    generalize plT 9 8 10 = q1 at *
    generalize plT 18 18 82 = q2 at *
    generalize plT 15 3 406 = q3 at *
    generalize plT 10 5 451 = q4 at *
    generalize plT 11 3 501 = q5 at *
    generalize plT 10 9 534 = q6 at *
    omega
  refine rest.mono cC cT (fun v z => ?_)
  obtain ⟨K9, t9, P9, ss, z1, z2, z3, z4⟩ := z
  have fin : K9.length ≤ L.length + 41000 := by
    clear rest cT cC pv
    omega
  exact ⟨K9, t9, P9, ss, _, _, z1, z2, ⟨g1, se⟩, z3, fin⟩
end PlanM
