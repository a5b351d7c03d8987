/-! PLACING THE FREE ADS: the whole -/
theorem insN_map {f : Nat → Nat} {xs : List Nat} {j x : Nat} : (insN xs j x).map f = insN (xs.map f) j (f x) := by
  unfold insN
  rw [List.map_append, List.map_cons, List.map_take, List.map_drop]
section Places3
variable {S : St} {L L' : List PC} {P : PA} {W : Vw}
theorem l_order {L1 : List PC} {lst t : Nat} {m : Int} (h : HP L P W) (hV : Val W) (hs : Sf F0_ L L1) (ht : nCell + L.length ≤ t) (hlst : nCell + L.length ≤ lst) (hl : LsH L1 lst (XB + 300 + 300) m 0 []) (hit : ItH L1 t (pA P).1 (pA P).2.2.1 0) (hL : L1.length < 600000000) :
    Ok (lo2_Law_places_16 (pT P) lst t FU (S, L1)) 5 129 (fun v => ∃ K ixs r m, v = (S, K) ∧ SrtN W ixs (nA W).toNat ∧ LsH K lst r m (rmN ixs.length) (ixs.map (xAt P)) ∧ (r < XB → nCell + L.length ≤ r) ∧ Sf F0_ L K ∧ K.length ≤ L1.length + 5 ∧ ixs.length ≤ 40) := by
  have b := hV.z
  have hA : ((xA P).length : Int) = nA W := h.2.1.1
  have zA : (pA P).2.2.2.2.length = (xA P).length := rfl
  have q := lp_OkG (body := fun go z => lb2_Law_places_16 (pT P) lst t go z.1 z.2) (R := fun v : LZ => ∃ K ixs r m, v = (S, K) ∧ SrtN W ixs (nA W).toNat ∧ LsH K lst r m (rmN ixs.length) (ixs.map (xAt P)) ∧ (r < XB → nCell + L.length ≤ r) ∧ Sf F0_ L K ∧ K.length ≤ L1.length + 5 ∧ ixs.length ≤ 40)
    (fun i : Nat × Nat => i.1) (fun i z => ∃ (K : List PC) (ixs : List Nat) (r : Nat) (m : Int) (j : Nat), z = (S, K) ∧ j + i.1 = (xA P).length ∧ ixs.length = i.2 ∧ i.2 ≤ j ∧ ItH K t (pA P).1 (pA P).2.2.1 j ∧ SrtN W ixs j ∧ LsH K lst r m (rmN ixs.length) (ixs.map (xAt P)) ∧ (r < XB → nCell + L.length ≤ r) ∧ Sf F0_ L K ∧ K.length = L1.length + gcn ixs.length) (fun i => 5 - gcn i.2) (fun i => 129 - gsn i.2)
    (fun go i z hz hgo => by
      obtain ⟨n, len⟩ := i
      obtain ⟨K, ixs, r, m, j, rfl, h1, h2, h3, h4, h5, h6, h7, h8, h9⟩ := hz
      have h1 : j + n = (xA P).length := h1
      have h2 : ixs.length = len := h2
      have h3 : len ≤ j := h3
      subst h2
      have g0 := gs_le ixs.length (by omega)
      show Ok (lb2_Law_places_16 (pT P) lst t go S K) (5 - gcn ixs.length) (129 - gsn ixs.length) _
      have hK := h.sf0 h8
      by_cases cn : n = 0
      · have q := k_hasNext (S := S) hK.lA h4 ⟨by omega, by omega⟩
        rw [decide_eq_false (by omega)] at q
        unfold lb2_Law_places_16
        rw [if_pos h4.k, q, bnO_s, if_neg Bool.false_ne_true]
        rw [show j = (nA W).toNat by omega] at h5
        exact Ok.ret ⟨K, ixs, r, m, rfl, h5, h6, h7, h8, by omega, by omega⟩
      · have g1 := rm_s ixs.length (by omega)
        have g2 := gs_le (ixs.length + 1) (by omega)
        obtain ⟨x, hx⟩ : ∃ x, (xA P)[j]? = some x := ⟨_, List.getElem?_eq_getElem (by omega)⟩
        have q := k_hasNext (S := S) hK.lA h4 ⟨by omega, by omega⟩
        rw [decide_eq_true (by omega)] at q
        obtain ⟨K1, e1, w1⟩ := k_next (S := S) hK.lA h4 (by omega) (x := x) (by rw [Int.toNat_natCast]; exact hx)
        have hkt := h4.k
        obtain ⟨l0, hl0⟩ := h4
        have s1 : Sf F0_ L K1 := rd_keep h8 w1 ht
        have hK1 := h.sf0 s1
        have l1 := w1.1
        have hls1 : LsH K1 lst r m (rmN ixs.length) (ixs.map (xAt P)) := h6.w1 hl0 (show (14 : Nat) ≠ 13 ∧ (14 : Nat) ≠ 103 by decide) w1
        have hjA : 0 ≤ (j : Int) ∧ (j : Int) < nA W := by omega
        have hx1 := hK1.1.2.2.1 _ _ hx
        obtain ⟨kk, -, -, -, -, -, f5, -⟩ := ad_f hV hjA hx1
        have v := hV.2.1 j hjA.1 hjA.2
        have hcast : ((j + 1 : Nat) : Int) = (j : Int) + 1 := by omega
        unfold lb2_Law_places_16
        rw [if_pos hkt, q, bnO_s, if_pos rfl, if_pos hkt, e1, bnO_s]
        show Ok (adC 0 0 (rfB (Value.ref x) fun r16 => if isK K1 r16 11 = true then (bnO (gfI K1 r16 11 5) fun v18 => if v18 ≤ 0 then (bnO (lo2_Law_places_48 (pT P) lst t r16 S K1 FU 0) fun p45 => if isK K1 lst 13 = true then (bnO (gn_AL_add3 lst p45 (.ref r16) S K1) fun p46 => adC p46.2.1 p46.2.2 (go (p46.1.1, p46.1.2))) else none) else (go (S, K1))) else none)) _ _ _
        rw [adC00, rfB_r, if_pos kk, f5, bnO_s]
        by_cases c : at_ W 6 j ≤ 0
        · have c0 : at_ W 6 j = 0 := by omega
          rw [if_pos c]
          obtain ⟨pos, e2, p1, p2, p3⟩ := l_pos (S := S) (t := t) hK1 hV hls1 (fun k hk => by have := (h5.1 k hk).1; omega) hjA.2 hx ixs.length FU 0 (by omega) (FU_big (by omega)) (fun k hk => by rw [List.take_zero] at hk; cases hk)
          rw [show lo2_Law_places_48 (pT P) lst t x S K1 FU 0 = some (pos : Int) from e2, bnO_s, if_pos hls1.k]
          have hlm : (ixs.map (xAt P)).length = ixs.length := List.length_map _
          have hls1' : LsH K1 lst r m (rmN (ixs.map (xAt P)).length) (ixs.map (xAt P)) := by rw [hlm]; exact hls1
          obtain ⟨K2, r2, m2, e3, f1, f2, f3, f4⟩ := k_insR (S := S) (x := x) (j := pos) hls1' (okE_i hx1 (.inl rfl)) (fun y hy => by
            obtain ⟨k, hk, rfl⟩ := List.mem_map.mp hy
            have hkl := (h5.1 k hk).1
            obtain ⟨y, hy⟩ : ∃ y, (xA P)[k]? = some y := ⟨_, List.getElem?_eq_getElem (by omega)⟩
            rw [xAt_s hy]
            exact okE_i (hK1.1.2.2.1 _ _ hy) (.inl rfl)) (by rw [hlm]; omega) (by rw [hlm]; exact p1) (by omega)
          rw [hlm] at e3 f1 f2
          rw [e3, bnO_s]
          refine Ok.ad (c := gcn (ixs.length + 1) - gcn ixs.length) (s := gsn (ixs.length + 1) - gsn ixs.length) (by omega) (by omega) ?_
          show Ok (go (S, K2)) _ _ _
          have hln : (insN ixs pos j).length = ixs.length + 1 := insN_len p1
          have hr2 : r2 < XB → nCell + L.length ≤ r2 := fun z => by
            rcases f3 with e | e
            · rw [e] at z ⊢; exact h7 z
            · rw [e]; have := s1.1; omega
          have s2 : Sf F0_ L K2 := ⟨by have := s1.1; omega, fun b' hb _ => by
            have hbx : b' < XB := by unfold nCell XB at *; have := s1.1; omega
            rw [f4 b' (by omega) (fun q => by
              by_cases z : r2 < XB
              · have := hr2 z; omega
              · omega)]
            exact s1.2 b' hb id⟩
          refine (hgo (n - 1, ixs.length + 1) _ (by show n - 1 < n; omega) ⟨K2, insN ixs pos j, r2, m2, j + 1, rfl, by show j + 1 + (n - 1) = _; omega, hln, by show ixs.length + 1 ≤ j + 1; omega, ?_, srt_ins h5 c0 p2 p3, ?_, hr2, s2, by rw [hln]; omega⟩).mono (by show 5 - gcn (ixs.length + 1) ≤ _; omega) (by show 129 - gsn (ixs.length + 1) ≤ _; omega) (fun _ z => z)
          · rw [hcast]
            exact ⟨_, add_keep hls1 f3 f4 w1.at (by decide)⟩
          · rw [hln, insN_map, xAt_s hx]
            exact f1
        · rw [if_neg c]
          refine hgo (n - 1, ixs.length) _ (by show n - 1 < n; omega) ⟨K1, ixs, r, m, j + 1, rfl, by show j + 1 + (n - 1) = _; omega, rfl, by show ixs.length ≤ j + 1; omega, by rw [hcast]; exact ⟨_, w1.at⟩, ⟨fun k hk => ⟨by have := (h5.1 k hk).1; omega, (h5.1 k hk).2⟩, h5.2.1, fun k hk h6 => by
            by_cases e : k = j
            · subst e; omega
            · exact h5.2.2 k (by omega) h6⟩, hls1, h7, s1, by omega⟩)
    FU ((xA P).length, 0) (S, L1) ⟨L1, [], XB + 300 + 300, m, 0, rfl, Nat.zero_add _, rfl, Nat.le_refl _, hit, ⟨(fun x hx => nomatch hx), List.Pairwise.nil, (fun x hx => absurd hx (Nat.not_lt_zero _))⟩, hl, (fun z => by omega), hs, rfl⟩ (FU_big (by show (xA P).length < 9999; omega))
  exact q
theorem l_places (h : HP L P W) (hG : Good W) (hL : L.length < 400000000) : Ok (gn_Law_places (pT P) S L) 8 140 (fun v => ∃ L' ixs, v = ((plN W (wO ixs) ixs.length).1, (S, L')) ∧ SrtN W ixs (nA W).toNat ∧ HP L' P (plN W (wO ixs) ixs.length).2 ∧ Sf (fpP P) L L' ∧ L'.length ≤ L.length + 8) := by
  obtain ⟨A1, e1, n1, hl1⟩ := k_newL (S := S) (L := L) (by omega)
  have l1 := n1.2.1
  have h1 := h.sf0 n1.sf0
  obtain ⟨t, A2, e2, n2⟩ := k_iter (S := S) h1.lA (by omega)
  have l2 := n2.2.1
  have s2 : Sf F0_ L A2 := n1.sf0.n n2
  have o := l_order (S := S) (L1 := A2) (lst := nCell + L.length) (t := t) (m := 0) h hG.1 s2 (by rw [n2.1]; omega) (Nat.le_refl _) (hl1.sf n2.sf0 id (fun _ => id)) ⟨_, n2.at⟩ (by omega)
  unfold gn_Law_places
  rw [if_pos (by omega), nw_x, e1, bnO_s]
  refine Ok.ad (c := 1) (s := 3) (by omega) (by omega) ?_
  show Ok (adC 0 0 (bnO (gfV A1 (pT P) 12 4) _)) _ _ _
  rw [adC00, h1.fA, bnO_s, rfB_r, if_pos h1.kA, e2, bnO_s]
  refine Ok.ad (c := 1) (s := 4) (by omega) (by omega) ?_
  show Ok (bnO (lo2_Law_places_16 (pT P) (nCell + L.length) t FU (S, A2)) _) _ _ _
  refine Ok.bind o (by omega) (by omega) ?_
  rintro v cc ss ⟨K, ixs, r, m, rfl, q1, q2, q3, q4, q5, q6⟩
  obtain ⟨t3, A3, e3, n3⟩ := k_iter (S := S) q2 (by omega)
  have l3 := n3.2.1
  show Ok (if isK K (nCell + L.length) 13 = true then (bnO (gn_AL_iterator (nCell + L.length) S K) fun p50 => adC p50.2.1 p50.2.2 (rfB p50.1.1 fun r52 => bnO (lo2_Law_places_137 (pT P) r52 FU (0, (p50.1.2.1, p50.1.2.2))) fun p73 => adC p73.2.1 p73.2.2 (some ((p73.1.1, (p73.1.2.1, p73.1.2.2)), 0, 0)))) else none) _ _ _
  rw [if_pos q2.k, e3, bnO_s]
  refine Ok.ad (c := 1) (s := 4) (by omega) (by omega) ?_
  have s3 : Sf F0_ L A3 := q4.n n3
  obtain ⟨L2, e4, l4, h4, s4⟩ := l_plc (S := S) (t := t3) hG h (h.sf0 s3) q1 (q2.sf n3.sf0 id (fun _ => id)) ⟨_, n3.at⟩ (by rw [n3.1]; have := q4.1; omega) (s3.mono (fun _ z => z.elim))
  show Ok (bnO (lo2_Law_places_137 (pT P) t3 FU (0, (S, A3))) fun p73 => adC p73.2.1 p73.2.2 (some ((p73.1.1, (p73.1.2.1, p73.1.2.2)), 0, 0))) _ _ _
  rw [e4, bnO_s]
  exact Ok.ret ⟨L2, ixs, rfl, q1, h4, s4, by omega⟩
end Places3
