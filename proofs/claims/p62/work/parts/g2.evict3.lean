/-! EVICTION: the law's loops -/
section Evict3L
variable {S : St} {L L0 K : List PC} {P : PA} {W : Vw} {a p z : Int}
theorem l_ev17 {L1 : List PC} {lst t x : Nat} {m : Int} (h : HP L P W) (hV : Val W) (hW : Wf W) (ha : 0 ≤ a ∧ a < nA W) (hp : 1 ≤ p ∧ p ≤ pgs W) (hxa : (xA P)[a.toNat]? = some x) (hs : Sf F0_ L L1) (ht : nCell + L.length ≤ t) (hlst : nCell + L.length ≤ lst) (hl : LsH L1 lst (XB + 300 + 300) m 0 []) (hit : ItH L1 t (pA P).1 (pA P).2.2.1 0) (hL : L1.length < 600000000) :
    Ok (lo2_LP_eviction_17 (pT P) x p lst t FU (S, L1)) 1 10 (fun v => ∃ K r m, v = (S, K) ∧ LsH K lst r m (rmN (nrL W a p).length) ((nrL W a p).map (xAt P)) ∧ (r < XB → nCell + L.length ≤ r) ∧ Sf F0_ L K ∧ K.length ≤ L1.length + 1) := by
  have b := hV.z
  have hA : ((xA P).length : Int) = nA W := h.2.1.1
  have l8 := nrL_8 hV hW (a := a) (p := p)
  have zA : (pA P).2.2.2.2.length = (xA P).length := rfl
  have le8 : ∀ j : Nat, (j : Int) ≤ nA W → (fltN (nrQ W a p) j).length ≤ (nrL W a p).length := fun j hj => by
    have e1 := fltN_len (q := nrQ W a p) (n := j)
    have e2 := fltN_len (q := nrQ W a p) (n := (nA W).toNat)
    have e3 := sumR_app (w := fun i : Int => if nrQ W a p i.toNat = true then (1 : Int) else 0) (m := j) (n := (nA W).toNat - j) (i := 0)
    rw [show j + ((nA W).toNat - j) = (nA W).toNat by omega] at e3
    have e4 := sumR_bd (w := fun i : Int => if nrQ W a p i.toNat = true then (1 : Int) else 0) (l := 0) (h := 1) (n := (nA W).toNat - j) (i := 0 + (j : Int)) (fun i _ _ => by
      show 0 ≤ (if nrQ W a p i.toNat = true then (1 : Int) else 0) ∧ (if nrQ W a p i.toNat = true then (1 : Int) else 0) ≤ 1
      split <;> omega)
    have e5 : (((nrL W a p).length : Nat) : Int) = sumR (fun i => if nrQ W a p i.toNat = true then 1 else 0) 0 (nA W).toNat := e2
    omega
  have q := lp_OkG (body := fun go z => lb2_LP_eviction_17 (pT P) x p lst t go z.1 z.2) (R := fun v : LZ => ∃ K r m, v = (S, K) ∧ LsH K lst r m (rmN (nrL W a p).length) ((nrL W a p).map (xAt P)) ∧ (r < XB → nCell + L.length ≤ r) ∧ Sf F0_ L K ∧ K.length ≤ L1.length + 1)
    (fun i : Nat × Nat => i.1) (fun i z => ∃ (K : List PC) (r : Nat) (m : Int) (j : Nat), z = (S, K) ∧ j + i.1 = (xA P).length ∧ (fltN (nrQ W a p) j).length = i.2 ∧ ItH K t (pA P).1 (pA P).2.2.1 j ∧ LsH K lst r m (rmN i.2) ((fltN (nrQ W a p) j).map (xAt P)) ∧ (r < XB → nCell + L.length ≤ r) ∧ Sf F0_ L K ∧ K.length = L1.length + gcn i.2) (fun i => 1 - gcn i.2) (fun i => 10 - gsn i.2)
    (fun go i z hz hgo => by
      obtain ⟨n, len⟩ := i
      obtain ⟨K, r, m, j, rfl, h1, h2, h4, h6, h7, h8, h9⟩ := hz
      have h1 : j + n = (xA P).length := h1
      have h2 : (fltN (nrQ W a p) j).length = len := h2
      have h6 : LsH K lst r m (rmN len) ((fltN (nrQ W a p) j).map (xAt P)) := h6
      have h9 : K.length = L1.length + gcn len := h9
      have lj := le8 j (by omega)
      have g0 := (gs_le len (by omega)).2.2 (by omega)
      show Ok (lb2_LP_eviction_17 (pT P) x p lst t go S K) (1 - gcn len) (10 - gsn len) _
      have hK := h.sf0 h8
      by_cases cn : n = 0
      · have q := k_hasNext (S := S) hK.lA h4 ⟨by omega, by omega⟩
        rw [decide_eq_false (by omega)] at q
        unfold lb2_LP_eviction_17
        rw [if_pos h4.k, q, bnO_s, if_neg Bool.false_ne_true]
        have ej : fltN (nrQ W a p) j = nrL W a p := by unfold nrL; rw [show j = (nA W).toNat by omega]
        rw [ej] at h2 h6
        rw [← h2] at h6
        exact Ok.ret ⟨K, r, m, rfl, h6, h7, h8, by omega⟩
      · obtain ⟨y, hy⟩ : ∃ y, (xA P)[j]? = some y := ⟨_, List.getElem?_eq_getElem (by omega)⟩
        have q := k_hasNext (S := S) hK.lA h4 ⟨by omega, by omega⟩
        rw [decide_eq_true (by omega)] at q
        obtain ⟨K1, e1, w1⟩ := k_next (S := S) hK.lA h4 (by omega) (x := y) (by rw [Int.toNat_natCast]; exact hy)
        have hkt := h4.k
        obtain ⟨l0, hl0⟩ := h4
        have s1 : Sf F0_ L K1 := rd_keep h8 w1 ht
        have hK1 := h.sf0 s1
        have l1 := w1.1
        have hls1 : LsH K1 lst r m (rmN len) ((fltN (nrQ W a p) j).map (xAt P)) := h6.w1 hl0 (show (14 : Nat) ≠ 13 ∧ (14 : Nat) ≠ 103 by decide) w1
        have hjA : 0 ≤ (j : Int) ∧ (j : Int) < nA W := by omega
        have hy1 := hK1.1.2.2.1 _ _ hy
        have hx1 := hK1.1.2.2.1 _ _ hxa
        obtain ⟨kk, -, -, -, -, -, f5, -⟩ := ad_f hV hjA hy1
        have v := hV.2.1 j hjA.1 hjA.2
        have hcast : ((j + 1 : Nat) : Int) = (j : Int) + 1 := by omega
        have fl : fltN (nrQ W a p) (j + 1) = fltN (nrQ W a p) j ++ (if nrQ W a p j = true then [j] else []) := rfl
        have hq : nrQ W a p j = (decide ((j : Int) ≠ a ∧ 0 < at_ W 6 j ∧ at_ W 6 j / 2 = p / 2) && !prP W (at_ W 6 j)) := rfl
        -- one that is not near
        have no : nrQ W a p j = false → Ok (go (S, K1)) (1 - gcn len) (10 - gsn len) _ := fun hn => by
          rw [hn, if_neg Bool.false_ne_true, List.append_nil] at fl
          exact hgo (n - 1, len) _ (by show n - 1 < n; omega) ⟨K1, r, m, j + 1, rfl, by show j + 1 + (n - 1) = _; omega, by rw [fl]; exact h2, by rw [hcast]; exact ⟨_, w1.at⟩, by rw [fl]; exact hls1, h7, s1, by rw [l1]; exact h9⟩
        have hun : lb2_LP_eviction_17 (pT P) x p lst t go S K = if y = x then go (S, K1) else if at_ W 6 j ≤ 0 then go (S, K1) else if at_ W 6 j / 2 = p / 2 then (bnO (gn_LP_isShut (pT P) (at_ W 6 j) S K1) fun p25 => if p25 = true then (go (S, K1)) else (if isK K1 lst 13 = true then (bnO (gn_AL_add lst (.ref y) S K1) fun p28 => adC p28.2.1 p28.2.2 (go (p28.1.2.1, p28.1.2.2))) else none)) else go (S, K1) := by
          unfold lb2_LP_eviction_17
          rw [if_pos hkt, q, bnO_s, if_pos rfl, if_pos hkt, e1, bnO_s]
          show adC 0 0 _ = _
          rw [adC00]
          simp only [rfB_r, kk, eq_self, if_true, apq_i hy1 hx1 (by decide) (by decide), f5, bnO_s, nm_x, hK1.k]
          by_cases c0 : at_ W 6 j ≤ 0
          · rw [if_pos c0, if_pos c0]
          · rw [if_neg c0, if_neg c0, td_n (a := p) (by omega), td_n (a := at_ W 6 j) (by omega), wr_s (z := p / 2) (by omega) (by omega), wr_s (z := at_ W 6 j / 2) (by omega) (by omega)]
        rw [hun]
        by_cases c1 : y = x
        · rw [if_pos c1]
          refine no ?_
          subst c1
          have e := nd_inj h.ndA hy hxa
          rw [hq, decide_eq_false (fun z => z.1 (by omega)), Bool.false_and]
        · rw [if_neg c1]
          have hja : (j : Int) ≠ a := fun e => by
            rw [← e, Int.toNat_natCast, hy] at hxa
            exact c1 (Option.some.inj hxa)
          by_cases c2 : at_ W 6 j ≤ 0
          · rw [if_pos c2]
            exact no (by rw [hq, decide_eq_false (fun z => by omega), Bool.false_and])
          · rw [if_neg c2]
            by_cases c3 : at_ W 6 j / 2 = p / 2
            · rw [if_pos c3, l_isShut hK1 hV (by omega) (by omega), bnO_s]
              by_cases c4 : prP W (at_ W 6 j) = true
              · rw [if_pos c4]
                exact no (by rw [hq, c4]; exact Bool.and_false _)
              · rw [if_neg c4, if_pos hls1.k]
                have hn : nrQ W a p j = true := by rw [hq, decide_eq_true ⟨hja, by omega, c3⟩, Bool.eq_false_iff.mpr c4]; rfl
                rw [if_pos hn] at fl
                have hlm : ((fltN (nrQ W a p) j).map (xAt P)).length = len := by rw [List.length_map, h2]
                have lj1 := le8 (j + 1) (by omega)
                rw [fl, List.length_append, h2] at lj1
                have lj1 : len + 1 ≤ (nrL W a p).length := lj1
                have g1 := rm_s len (by omega)
                have g2 := (gs_le (len + 1) (by omega)).2.2 (by omega)
                have hls1' : LsH K1 lst r m (rmN ((fltN (nrQ W a p) j).map (xAt P)).length) ((fltN (nrQ W a p) j).map (xAt P)) := by rw [hlm]; exact hls1
                obtain ⟨K2, r2, m2, e3, f1, f2, f3, f4⟩ := k_addR (S := S) (x := y) hls1' (okE_i hy1 (.inl rfl)) (fun y' hy' => by
                  obtain ⟨k, hk, rfl⟩ := List.mem_map.mp hy'
                  have hkl := (fltN_mem.mp hk).1
                  obtain ⟨y2, hy2⟩ : ∃ y2, (xA P)[k]? = some y2 := ⟨_, List.getElem?_eq_getElem (by omega)⟩
                  rw [xAt_s hy2]
                  exact okE_i (hK1.1.2.2.1 _ _ hy2) (.inl rfl)) (by rw [hlm]; omega) (by omega)
                rw [hlm] at e3 f1 f2
                rw [e3, bnO_s]
                refine Ok.ad (c := gcn (len + 1) - gcn len) (s := gsn (len + 1) - gsn len) (by omega) (by omega) ?_
                show Ok (go (S, K2)) _ _ _
                have hr2 : r2 < XB → nCell + L.length ≤ r2 := fun z => by
                  rcases f3 with e | e
                  · rw [e] at z ⊢; exact h7 z
                  · rw [e]; have := s1.1; omega
                have s2 : Sf F0_ L K2 := ⟨by have := s1.1; omega, fun b' hb _ => by
                  have hbx : b' < XB := by unfold nCell XB at *; have := s1.1; omega
                  rw [f4 b' (by omega) (fun q => by
                    by_cases z : r2 < XB
                    · have := hr2 z; omega
                    · omega)]
                  exact s1.2 b' hb id⟩
                refine (hgo (n - 1, len + 1) _ (by show n - 1 < n; omega) ⟨K2, r2, m2, j + 1, rfl, by show j + 1 + (n - 1) = _; omega, by rw [fl, List.length_append, h2]; rfl, ?_, ?_, hr2, s2, by show K2.length = L1.length + gcn (len + 1); omega⟩).mono (by show 1 - gcn (len + 1) ≤ _; omega) (by show 10 - gsn (len + 1) ≤ _; omega) (fun _ z => z)
                · rw [hcast]
                  exact ⟨_, add_keep hls1 f3 f4 w1.at (by decide)⟩
                · show LsH K2 lst r2 m2 (rmN (len + 1)) ((fltN (nrQ W a p) (j + 1)).map (xAt P))
                  rw [fl, List.map_append]
                  show LsH K2 lst r2 m2 (rmN (len + 1)) (_ ++ [xAt P j])
                  rw [xAt_s hy]
                  exact f1
            · rw [if_neg c3]
              exact no (by rw [hq, decide_eq_false (fun z => c3 z.2.2), Bool.false_and]))
    FU ((xA P).length, 0) (S, L1) ⟨L1, XB + 300 + 300, m, 0, rfl, Nat.zero_add _, rfl, hit, hl, (fun z => by omega), hs, rfl⟩ (FU_big (by show (xA P).length < 9999; omega))
  exact q
theorem lfV_congr {q q' : Int → Bool} (h : ∀ x, q x = q' x) : lfV W q = lfV W q' := by rw [funext h]
theorem lfV_none {q : Int → Bool} (h : ∀ x, q x = false) : lfV W q = W := by
  funext k i
  unfold lfV
  rw [h]
  exact if_neg (fun z => Bool.false_ne_true z.2)
theorem up_lf {q : Int → Bool} {k : Nat} : up (lfV W q) 6 k 0 = lfV W (fun x => q x || decide (x = k)) := by
  funext k' i'
  show (if k' = 6 ∧ i' = k then (0 : Int) else if k' = 6 ∧ q (i' : Int) = true then 0 else W k' i') = (if k' = 6 ∧ (q (i' : Int) || decide ((i' : Int) = (k : Int))) = true then 0 else W k' i')
  by_cases c1 : k' = 6 ∧ i' = k
  · rw [if_pos c1, if_pos ⟨c1.1, by rw [decide_eq_true (show (i' : Int) = (k : Int) by omega), Bool.or_true]⟩]
  · rw [if_neg c1]
    by_cases c2 : k' = 6
    · rw [decide_eq_false (show ¬ (i' : Int) = (k : Int) from fun z => c1 ⟨c2, by omega⟩), Bool.or_false]
    · rw [if_neg (fun z => c2 z.1), if_neg (fun z => c2 z.1)]
theorem up_re {q : Int → Bool} {k : Nat} : up (lfV W q) 6 k (at_ W 6 k) = lfV W (fun x => q x && !decide (x = k)) := by
  funext k' i'
  show (if k' = 6 ∧ i' = k then at_ W 6 k else if k' = 6 ∧ q (i' : Int) = true then 0 else W k' i') = (if k' = 6 ∧ (q (i' : Int) && !decide ((i' : Int) = (k : Int))) = true then 0 else W k' i')
  by_cases c1 : k' = 6 ∧ i' = k
  · rw [if_pos c1, c1.2, decide_eq_true rfl, c1.1, at_n, if_neg]
    rintro ⟨_, z⟩
    rw [Bool.and_eq_true] at z
    exact absurd z.2 (by decide)
  · rw [if_neg c1]
    by_cases c2 : k' = 6
    · rw [decide_eq_false (show ¬ (i' : Int) = (k : Int) from fun z => c1 ⟨c2, by omega⟩)]
      show _ = (if k' = 6 ∧ (q (i' : Int) && true) = true then 0 else W k' i')
      rw [Bool.and_true]
    · rw [if_neg (fun z => c2 z.1), if_neg (fun z => c2 z.1)]
def wasF (W : Vw) (ixs : List Nat) (t : Nat) (j : Nat) : Int := if j < t then at_ W 6 (ixs.getD j 0 : Nat) else 0
def prT (W : Vw) (ixs : List Nat) (z : Int) (t : Nat) : Int := wr (sumR (fun j => if bt z j = 1 then at_ W 4 (ixs.getD j.toNat 0 : Nat) else 0) 0 t)
theorem prT_s {ixs : List Nat} {t k : Nat} (h : ixs[t]? = some k) : prT W ixs z (t + 1) = wr (prT W ixs z t + (if bt z t = 1 then at_ W 4 k else 0)) := by
  unfold prT
  rw [sumR_snoc, Int.zero_add, wr_add, Int.toNat_natCast, ix_get h]
/-- a cell beside the plan -/
theorem HP.wn {V0 : Vw} {r : Nat} {c c' : PC} (h : HP K P W) (h0 : HP L0 P V0) (hr : hp K r = some c) (hb : nCell + L0.length ≤ r) (hw : W1 K L r c') : HP L P W :=
  h.sf (F := fun b => b = r) (Sf.refl.w hw (.inl rfl)) (fun b hf e => by
    subst e
    exact fp_below h0.1 hb (hp_bd hr).2.1 hf)
end Evict3L
