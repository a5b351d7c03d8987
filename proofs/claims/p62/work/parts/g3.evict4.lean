/-! EVICTION: lifted off and put back -/
section Evict4L
variable {S : St} {L0 K : List PC} {P : PA} {W : Vw} {a p z : Int}
theorem RowI.alm {r n : Nat} {f : Nat → Int} (h : RowI K r n f) (hn : n < 10000) : alm K r = some (n : Int) := by
  obtain ⟨vs, h1, h2, -⟩ := h
  have q := alm_s h1 (by decide) (by decide) (by omega)
  rw [h2] at q
  exact q
theorem bt_or (hz : 0 ≤ z ∧ z < 256) {j : Nat} (hj : j < 8) : bt z j = 0 ∨ bt z j = 1 := bt01 hz ⟨by omega, by omega⟩
theorem l_ev119 {V0 : Vw} {lst r c7 x : Nat} {m a4 : Int} {cp : Nat} {ixs : List Nat} (h0 : HP L0 P V0) (hV : Val W) (hnd : ixs.Nodup) (hix : ∀ k ∈ ixs, (k : Int) < nA W) (h8 : ixs.length ≤ 8) (hz : 0 ≤ z ∧ z < 256) (hc7 : nCell + L0.length ≤ c7) :
    ∀ (n N t : Nat) (K : List PC), t + n = ixs.length → n < N → HP K P (lfV W (selE ixs z 0 t)) → LsH K lst r m cp (ixs.map (xAt P)) → RowI K c7 ixs.length (wasF W ixs t) → Sf (fpP P) L0 K →
    ∃ K', lp (fun go p' => lb2_LP_eviction_119 (pT P) x p lst a4 z c7 go p'.1 p'.2.1 p'.2.2.1 p'.2.2.2) N (prT W ixs z t, (t : Int), (S, K)) = some ((prT W ixs z ixs.length, (S, K')), 0, 0) ∧ HP K' P (lfV W (selE ixs z 0 ixs.length)) ∧ LsH K' lst r m cp (ixs.map (xAt P)) ∧ RowI K' c7 ixs.length (wasF W ixs ixs.length) ∧ Sf (fpP P) L0 K' ∧ K'.length = K.length
  | 0, N + 1, t, K, hk, _, h, hl, hr, hs => by
    have et : t = ixs.length := by omega
    subst et
    refine ⟨K, ?_, h, hl, hr, hs, rfl⟩
    rw [lp_succ]
    show lb2_LP_eviction_119 (pT P) x p lst a4 z c7 _ (prT W ixs z ixs.length) (ixs.length : Int) S K = _
    unfold lb2_LP_eviction_119
    rw [hr.alm (by omega), bnO_s, if_pos (Int.le_refl _)]
  | n + 1, N + 1, t, K, hk, hN, h, hl, hr, hs => by
    have hV1 : Val (lfV W (selE ixs z 0 t)) := lfV_Val hV
    obtain ⟨k, hk1⟩ : ∃ k, ixs[t]? = some k := ⟨_, List.getElem?_eq_getElem (by omega)⟩
    have hkA := hix k (List.mem_of_getElem? hk1)
    have hA : ((xA P).length : Int) = nA W := by have q := h.2.1.1; rw [lfV_nA] at q; exact q
    obtain ⟨y, hy⟩ : ∃ y, (xA P)[k]? = some y := ⟨_, List.getElem?_eq_getElem (by omega)⟩
    have hyc := h.1.2.2.1 _ _ hy
    obtain ⟨kk, -, -, -, f3, -, f5, -⟩ := ad_f hV1 (i := (k : Int)) ⟨by omega, by rw [lfV_nA]; exact hkA⟩ hyc
    have hsel : selE ixs z 0 t k = false := by
      cases c : selE ixs z 0 t k with
      | false => rfl
      | true =>
        have q := (selE_at (z := z) hnd (lo := 0) (n := t) (by omega) hk1).mp c
        omega
    rw [lfV_6 (by omega), hsel, if_neg Bool.false_ne_true] at f5
    rw [lfV_at (by decide)] at f3
    have hg := k_get (S := S) hl (i := (t : Int)) (x := y) (by omega) (by rw [Int.toNat_natCast, List.getElem?_map, hk1]; exact congrArg some (xAt_s hy))
    have i1 : wr ((t : Int) + 1) = ((t + 1 : Nat) : Int) := wr_s (by omega) (by omega)
    obtain ⟨K1, e1, r1, c, w1⟩ := hr.put (w := (t : Int)) ⟨by omega, by omega⟩ (at_ W 6 k)
    have hr0 := hr
    obtain ⟨vs7, h7, -, -⟩ := hr0
    have h1 : HP K1 P (lfV W (selE ixs z 0 t)) := h.wn h0 h7 hc7 w1
    have hl1 : LsH K1 lst r m cp (ixs.map (xAt P)) := hl.w1 h7 (show (100 : Nat) ≠ 13 ∧ (100 : Nat) ≠ 103 by decide) w1
    have hs1 : Sf (fpP P) L0 K1 := hs.w w1 (.inr hc7)
    have r1' : RowI K1 c7 ixs.length (wasF W ixs (t + 1)) := r1.eq (fun w hw => by
      unfold wasF
      by_cases c : w = t
      · rw [if_pos (by omega), if_pos (by omega), c, ix_get hk1]
      · rw [if_neg (by omega)]
        by_cases d : w < t
        · rw [if_pos d, if_pos (by omega)]
        · rw [if_neg d, if_neg (by omega)])
    have es : ∀ x', selE ixs z 0 (t + 1) x' = (selE ixs z 0 t x' || (decide (bt z t = 1) && decide (x' = (k : Int)))) := fun x' => by
      unfold selE
      rw [anyR_snoc, Int.zero_add]
      congr 1
      unfold pE
      rw [Int.toNat_natCast, ix_get hk1, Bool.and_comm]
      congr 1
      exact decide_eq_decide.mpr ⟨fun q => q.symm, fun q => q.symm⟩
    have ep := prT_s (W := W) (z := z) hk1
    have hbt : i_and (i_shr z (t : Int)) 1 = bt z t := rfl
    rcases bt_or hz (j := t) (by omega) with c | c
    · have ev : lfV W (selE ixs z 0 (t + 1)) = lfV W (selE ixs z 0 t) := lfV_congr (fun x' => by rw [es, decide_eq_false (by omega), Bool.false_and, Bool.or_false])
      obtain ⟨K', e2, q⟩ := l_ev119 (x := x) (a4 := a4) h0 hV hnd hix h8 hz hc7 n N (t + 1) K1 (by omega) (by omega) (by rw [ev]; exact h1) hl1 r1' hs1
      refine ⟨K', ?_, q.1, q.2.1, q.2.2.1, q.2.2.2.1, q.2.2.2.2.trans w1.1⟩
      have ep0 : prT W ixs z (t + 1) = prT W ixs z t := by
        rw [ep, if_neg (by omega), Int.add_zero]
        exact wr_id (wr_in _)
      rw [ep0] at e2
      rw [lp_succ, ← e2]
      show lb2_LP_eviction_119 (pT P) x p lst a4 z c7 _ (prT W ixs z t) (t : Int) S K = _
      unfold lb2_LP_eviction_119
      rw [hr.alm (by omega), bnO_s, if_neg (by omega), if_pos hl.k, hg, bnO_s, rfB_r, if_pos kk, f5, bnO_s, e1, bnO_s, hbt, if_pos c, nm_x, i1]
    · have hyc1 := h1.1.2.2.1 _ _ hy
      obtain ⟨kk1, -, -, -, f31, -, -, -⟩ := ad_f hV1 (i := (k : Int)) ⟨by omega, by rw [lfV_nA]; exact hkA⟩ hyc1
      rw [lfV_at (by decide)] at f31
      have hg1 := k_get (S := S) hl1 (i := (t : Int)) (x := y) (by omega) (by rw [Int.toNat_natCast, List.getElem?_map, hk1]; exact congrArg some (xAt_s hy))
      obtain ⟨K2, e2, w2⟩ := pf_s hyc1 (f := 5) (Nat.le_of_ble_eq_true rfl) (V 0)
      have h2 : HP K2 P (up (lfV W (selE ixs z 0 t)) 6 k 0) := h1.updA (f := 5) (by decide) hy w2
      rw [up_lf] at h2
      have ev : lfV W (selE ixs z 0 (t + 1)) = lfV W (fun x => selE ixs z 0 t x || decide (x = k)) := lfV_congr (fun x' => by rw [es, decide_eq_true c, Bool.true_and])
      rw [← ev] at h2
      have hl2 : LsH K2 lst r m cp (ixs.map (xAt P)) := hl1.w1 hyc1 (show (11 : Nat) ≠ 13 ∧ (11 : Nat) ≠ 103 by decide) w2
      have r2 : RowI K2 c7 ixs.length (wasF W ixs (t + 1)) := r1'.w1 w2 (by
        obtain ⟨vs', h7', -, -⟩ := r1'
        exact hp_ne h7' hyc1 (by decide))
      have hs2 : Sf (fpP P) L0 K2 := hs1.w w2 (.inl (.inr (.inr (.inr (.inr (.inr (.inl (List.mem_of_getElem? hy))))))))
      obtain ⟨K', e3, q⟩ := l_ev119 (x := x) (a4 := a4) h0 hV hnd hix h8 hz hc7 n N (t + 1) K2 (by omega) (by omega) h2 hl2 r2 hs2
      refine ⟨K', ?_, q.1, q.2.1, q.2.2.1, q.2.2.2.1, q.2.2.2.2.trans (w2.1.trans w1.1)⟩
      rw [if_pos c] at ep
      rw [lp_succ, ← e3, ep]
      show lb2_LP_eviction_119 (pT P) x p lst a4 z c7 _ (prT W ixs z t) (t : Int) S K = _
      unfold lb2_LP_eviction_119
      rw [hr.alm (by omega), bnO_s, if_neg (by omega), if_pos hl.k, hg, bnO_s, rfB_r, if_pos kk, f5, bnO_s, e1, bnO_s, hbt, if_neg (by omega), if_pos hl1.k, hg1, bnO_s, rfB_r, if_pos kk1, f31, bnO_s, nm_x, if_pos hl1.k, bnO_s, rfB_r, if_pos kk1, e2, bnO_s, nm_x, i1]
theorem l_ev221 {V0 : Vw} {lst r c7 x : Nat} {m a4 : Int} {cp : Nat} {ixs : List Nat} (h0 : HP L0 P V0) (hV : Val W) (hnd : ixs.Nodup) (hix : ∀ k ∈ ixs, (k : Int) < nA W) (h8 : ixs.length ≤ 8) :
    ∀ (n N t : Nat) (K : List PC), t + n = ixs.length → n < N → HP K P (lfV W (selE ixs z t n)) → LsH K lst r m cp (ixs.map (xAt P)) → RowI K c7 ixs.length (wasF W ixs ixs.length) → Sf (fpP P) L0 K →
    ∃ K', lp (fun go p' => lb2_LP_eviction_221 (pT P) x p lst a4 z c7 go p'.1 p'.2.1 p'.2.2) N ((t : Int), (S, K)) = some ((S, K'), 0, 0) ∧ HP K' P W ∧ LsH K' lst r m cp (ixs.map (xAt P)) ∧ Sf (fpP P) L0 K' ∧ K'.length = K.length
  | 0, N + 1, t, K, hk, _, h, hl, hr, hs => by
    have e0 : lfV W (selE ixs z (t : Int) 0) = W := lfV_none (fun _ => rfl)
    rw [e0] at h
    refine ⟨K, ?_, h, hl, hs, rfl⟩
    rw [lp_succ]
    show lb2_LP_eviction_221 (pT P) x p lst a4 z c7 _ _ S K = _
    unfold lb2_LP_eviction_221
    rw [hr.alm (by omega), bnO_s, if_pos (by omega)]
  | n + 1, N + 1, t, K, hk, hN, h, hl, hr, hs => by
    obtain ⟨k, hk1⟩ : ∃ k, ixs[t]? = some k := ⟨_, List.getElem?_eq_getElem (by omega)⟩
    have hkA := hix k (List.mem_of_getElem? hk1)
    have hA : ((xA P).length : Int) = nA W := by have q := h.2.1.1; rw [lfV_nA] at q; exact q
    obtain ⟨y, hy⟩ : ∃ y, (xA P)[k]? = some y := ⟨_, List.getElem?_eq_getElem (by omega)⟩
    have hyc := h.1.2.2.1 _ _ hy
    have kk : isK K y 11 = true := isK_s hyc (by decide)
    have hg := k_get (S := S) hl (i := (t : Int)) (x := y) (by omega) (by rw [Int.toNat_natCast, List.getElem?_map, hk1]; exact congrArg some (xAt_s hy))
    have i1 : wr ((t : Int) + 1) = ((t + 1 : Nat) : Int) := wr_s (by omega) (by omega)
    have ew : wasF W ixs ixs.length t = at_ W 6 k := by unfold wasF; rw [if_pos (by omega), ix_get hk1]
    have ha := hr.at (w := (t : Int)) ⟨by omega, by omega⟩ (by
      rw [Int.toNat_natCast, ew, at_n]
      exact (val_in hV).2.1 k hkA 6 (by decide))
    rw [Int.toNat_natCast, ew] at ha
    obtain ⟨K1, e1, w1⟩ := pf_s hyc (f := 5) (Nat.le_of_ble_eq_true rfl) (V (at_ W 6 k))
    have h1 : HP K1 P (up (lfV W (selE ixs z t (n + 1))) 6 k (at_ W 6 k)) := h.updA (f := 5) (by decide) hy w1
    rw [up_re] at h1
    have ev : lfV W (fun x => selE ixs z t (n + 1) x && !decide (x = k)) = lfV W (selE ixs z ((t + 1 : Nat) : Int) n) := lfV_congr (fun x' => by
      have e : selE ixs z (t : Int) (n + 1) x' = (pE ixs z t x' || selE ixs z ((t : Int) + 1) n x') := rfl
      have ep : pE ixs z t x' = (decide (((k : Nat) : Int) = x') && decide (bt z t = 1)) := by unfold pE; rw [Int.toNat_natCast, ix_get hk1]
      rw [e, ep, show ((t + 1 : Nat) : Int) = (t : Int) + 1 by omega]
      by_cases c : x' = (k : Int)
      · have ef : selE ixs z ((t : Int) + 1) n k = false := by
          cases d : selE ixs z ((t : Int) + 1) n k with
          | false => rfl
          | true =>
            rw [show (t : Int) + 1 = ((t + 1 : Nat) : Int) by omega] at d
            have q := (selE_at (z := z) hnd (lo := t + 1) (n := n) (by omega) hk1).mp d
            omega
        rw [c, ef, decide_eq_true (rfl : (k : Int) = k)]
        exact Bool.and_false _
      · rw [decide_eq_false c, decide_eq_false (show ¬ (k : Int) = x' from fun q => c q.symm), Bool.false_and, Bool.false_or]
        exact Bool.and_true _)
    rw [ev] at h1
    have hl1 : LsH K1 lst r m cp (ixs.map (xAt P)) := hl.w1 hyc (show (11 : Nat) ≠ 13 ∧ (11 : Nat) ≠ 103 by decide) w1
    have r1 : RowI K1 c7 ixs.length (wasF W ixs ixs.length) := hr.w1 w1 (by
      obtain ⟨vs', h7', -, -⟩ := hr
      exact hp_ne h7' hyc (by decide))
    have hs1 : Sf (fpP P) L0 K1 := hs.w w1 (.inl (.inr (.inr (.inr (.inr (.inr (.inl (List.mem_of_getElem? hy))))))))
    obtain ⟨K', e2, q⟩ := l_ev221 (x := x) (a4 := a4) (c7 := c7) h0 hV hnd hix h8 n N (t + 1) K1 (by omega) (by omega) h1 hl1 r1 hs1
    refine ⟨K', ?_, q.1, q.2.1, q.2.2.1, q.2.2.2.trans w1.1⟩
    rw [lp_succ, ← e2]
    show lb2_LP_eviction_221 (pT P) x p lst a4 z c7 _ _ S K = _
    unfold lb2_LP_eviction_221
    rw [hr.alm (by omega), bnO_s, if_neg (by omega), if_pos hl.k, hg, bnO_s, rfB_r, if_pos kk, ha, bnO_s, e1, bnO_s, nm_x, i1]
def bkE (c0 x : Nat) (p : Int) (lst : Nat) (t : Int) (r7 : Nat) (go : Int × Int × LZ → Option ((Int × LZ) × Nat × Nat)) (b4 b : Int) (z : LZ) : Option ((Int × LZ) × Nat × Nat) := bnO (lo2_LP_eviction_221 c0 x p lst b4 t r7 FU (0, z)) fun p78 => adC p78.2.1 p78.2.2 (nm (wr (t + 1)) fun v79 => go (b, v79, (p78.1.1, p78.1.2)))
def bestE (W : Vw) (a p : Int) (n : Nat) : Int := itR (mnF (okM W a p) (prM W a p) (-1)) 0 n (-1)
theorem bestE_s {n : Nat} : bestE W a p (n + 1) = mnF (okM W a p) (prM W a p) (-1) n (bestE W a p n) := by
  unfold bestE
  rw [itR_snoc, Int.zero_add]
theorem bestE_ge (hV : Val W) (hW : Wf W) : ∀ n : Nat, -1 ≤ bestE W a p n
  | 0 => Int.le_refl _
  | n + 1 => by
    have ih := bestE_ge hV hW n
    have q := (prM_bd hV hW (a := a) (p := p) (z := (n : Int))).1
    rw [bestE_s]
    unfold mnF
    split
    · split
      · omega
      · split
        · omega
        · split <;> omega
    · exact ih
theorem l_ev94 {V0 : Vw} {lst r x : Nat} {m : Int} {cp : Nat} (h0 : HP L0 P V0) (hV : Val W) (hW : Wf W) (ha : 0 ≤ a ∧ a < nA W) (hp : 1 ≤ p ∧ p ≤ pgs W) (hxa : (xA P)[a.toNat]? = some x) :
    ∀ (n N t : Nat) (K : List PC), (t : Int) + n = i_shl 1 ((nrL W a p).length : Int) → n < N → HP K P W → LsH K lst r m cp ((nrL W a p).map (xAt P)) → Sf (fpP P) L0 K → K.length + n < 600000000 →
    Ok (lp (fun go p' => lb2_LP_eviction_94 (pT P) x p lst go p'.1 p'.2.1 p'.2.2.1 p'.2.2.2) N (bestE W a p t, (t : Int), (S, K))) n (8 * n) (fun v => ∃ K', v = (bestE W a p (i_shl 1 ((nrL W a p).length : Int)).toNat, (S, K')) ∧ HP K' P W ∧ Sf (fpP P) L0 K' ∧ K'.length ≤ K.length + n)
  | 0, N + 1, t, K, hk, _, h, hl, hs, hL => by
    have l8 := nrL_8 hV hW (a := a) (p := p)
    have hsz := k_size (S := S) hl
    rw [List.length_map] at hsz
    rw [lp_succ]
    show Ok (lb2_LP_eviction_94 (pT P) x p lst _ (bestE W a p t) (t : Int) S K) _ _ _
    unfold lb2_LP_eviction_94
    rw [if_pos hl.k, hsz, bnO_s, if_pos (by omega), show (i_shl 1 ((nrL W a p).length : Int)).toNat = t by omega]
    exact Ok.ret ⟨K, rfl, h, hs, Nat.le_refl _⟩
  | n + 1, N + 1, t, K, hk, hN, h, hl, hs, hL => by
    have pb := hV.pg
    have l8 := nrL_8 hV hW (a := a) (p := p)
    have sb := sh8_b (k := (nrL W a p).length) (by omega)
    have hsz := k_size (S := S) hl
    rw [List.length_map] at hsz
    have i1 : wr ((t : Int) + 1) = ((t + 1 : Nat) : Int) := wr_s (by omega) (by omega)
    have hnd : (nrL W a p).Nodup := fltN_nd
    have hix : ∀ k ∈ nrL W a p, (k : Int) < nA W := fun k hk => by have := (nrL_mem.mp hk).1; omega
    have hz : 0 ≤ (t : Int) ∧ (t : Int) < 256 := by omega
    obtain ⟨n1, r1⟩ := RowI.new (K := K) (m := (nrL W a p).length) (by omega)
    have s1 := n1.sf0
    have len1 : (K ++ [(100, List.replicate (nrL W a p).length (Value.int 0))]).length = K.length + 1 := n1.2.1
    have h1 := h.sf0 s1
    have hc7 : nCell + L0.length ≤ nCell + K.length := by have := hs.1; omega
    have e00 : lfV W (selE (nrL W a p) (t : Int) 0 0) = W := lfV_none (fun _ => rfl)
    obtain ⟨K2, e2, h2, hl2, r2, hs2, len2⟩ := l_ev119 (S := S) (p := p) (z := (t : Int)) (x := x) (a4 := bestE W a p t) (c7 := nCell + K.length) h0 hV hnd hix l8 hz hc7 (nrL W a p).length FU 0 (K ++ [(100, List.replicate (nrL W a p).length (.int 0))]) (Nat.zero_add _) (FU_big (by omega)) (by rw [e00]; exact h1) (hl.sf s1 id (fun _ => id)) (r1.eq (fun w _ => rfl)) (hs.n n1)
    have e2' : lo2_LP_eviction_119 (pT P) x p lst (bestE W a p t) (t : Int) (nCell + K.length) FU (0, 0, (S, K ++ [(100, List.replicate (nrL W a p).length (.int 0))])) = some ((prT W (nrL W a p) t (nrL W a p).length, (S, K2)), 0, 0) := e2
    have epr : prT W (nrL W a p) t (nrL W a p).length = prM W a p t := by
      have q := prM_bd hV hW (a := a) (p := p) (z := (t : Int))
      exact wr_s (by show _ ≤ prM W a p t; omega) (by show prM W a p t < _; omega)
    rw [epr] at e2'
    have hre := l_reason (S := S) (a := a) (p := p) h2 (lfV_Val hV) (by rw [lfV_nA]; exact ha) hxa (by unfold inR; omega)
    have back : ∀ a4 : Int, ∃ K3, lo2_LP_eviction_221 (pT P) x p lst a4 (t : Int) (nCell + K.length) FU (0, (S, K2)) = some ((S, K3), 0, 0) ∧ HP K3 P W ∧ LsH K3 lst r m cp ((nrL W a p).map (xAt P)) ∧ Sf (fpP P) L0 K3 ∧ K3.length = K2.length := fun a4 =>
      l_ev221 (S := S) (p := p) (z := (t : Int)) (x := x) (a4 := a4) (c7 := nCell + K.length) h0 hV hnd hix l8 (nrL W a p).length FU 0 K2 (Nat.zero_add _) (FU_big (by omega)) h2 hl2 r2 hs2
    have bg := bestE_ge hV hW (a := a) (p := p) t
    have pz := (prM_bd hV hW (a := a) (p := p) (z := (t : Int))).1
    have es := bestE_s (W := W) (a := a) (p := p) (n := t)
    -- what follows the restoring
    have fin : ∀ (b4 b : Int), b = bestE W a p (t + 1) → Ok (bnO (lo2_LP_eviction_221 (pT P) x p lst b4 (t : Int) (nCell + K.length) FU (0, (S, K2))) fun p78 => adC p78.2.1 p78.2.2 (nm (wr ((t : Int) + 1)) fun v79 => lp (fun go p' => lb2_LP_eviction_94 (pT P) x p lst go p'.1 p'.2.1 p'.2.2.1 p'.2.2.2) N (b, v79, (p78.1.1, p78.1.2)))) n (8 * n) (fun v => ∃ K', v = (bestE W a p (i_shl 1 ((nrL W a p).length : Int)).toNat, (S, K')) ∧ HP K' P W ∧ Sf (fpP P) L0 K' ∧ K'.length ≤ K.length + (n + 1)) := fun b4 b hb => by
      obtain ⟨K3, e3, h3, hl3, hs3, len3⟩ := back b4
      rw [e3, bnO_s]
      refine Ok.ad (c := 0) (s := 0) (Nat.zero_le _) (Nat.zero_le _) ?_
      show Ok (nm (wr ((t : Int) + 1)) fun v79 => lp (fun go p' => lb2_LP_eviction_94 (pT P) x p lst go p'.1 p'.2.1 p'.2.2.1 p'.2.2.2) N (b, v79, (S, K3))) _ _ _
      rw [nm_x, i1, hb]
      refine (l_ev94 (x := x) h0 hV hW ha hp hxa n N (t + 1) K3 (by omega) (by omega) h3 hl3 hs3 (by omega)).mono (by omega) (by omega) (fun v q => ?_)
      obtain ⟨K', q1, q2, q3, q4⟩ := q
      exact ⟨K', q1, q2, q3, by omega⟩
    rw [lp_succ]
    show Ok (lb2_LP_eviction_94 (pT P) x p lst _ (bestE W a p t) (t : Int) S K) _ _ _
    unfold lb2_LP_eviction_94
    rw [if_pos hl.k, hsz, bnO_s, if_neg (by omega), if_pos hl.k, bnO_s, if_pos (by omega), if_pos (by omega), Int.toNat_natCast, nw_x, e2', bnO_s]
    refine Ok.ad (c := 1) (s := (nrL W a p).length) (by omega) (by omega) ?_
    refine Ok.ad (c := 0) (s := 0) (Nat.zero_le _) (Nat.zero_le _) ?_
    dsimp only
    have hC : ∀ (o : Option ((Int × LZ) × Nat × Nat)) (R : Int × LZ → Prop), Ok o n (8 * n) R → Ok o (n + 1 - 1 - 0) (8 * (n + 1) - (nrL W a p).length - 0) R := fun o R q => q.mono (by omega) (by omega) (fun _ z => z)
    refine hC _ _ ?_
    have hok : okM W a p t = true ↔ reas (lfV W (selE (nrL W a p) t 0 (nrL W a p).length)) a p = 0 := decide_eq_true_iff
    -- the question itself
    have ask : ∀ (F1 F2 : LZ → Option ((Int × LZ) × Nat × Nat)) (R : Int × LZ → Prop), (okM W a p t = true → Ok (F1 (S, K2)) n (8 * n) R) → (okM W a p t = false → Ok (F2 (S, K2)) n (8 * n) R) → Ok (if isK K2 (pT P) 12 = true then (bnO (gn_LP_reason (pT P) x p S K2) fun p65 => adC p65.2.1 p65.2.2 (if p65.1.1 = 0 then F1 (p65.1.2.1, p65.1.2.2) else F2 (p65.1.2.1, p65.1.2.2))) else none) n (8 * n) R := fun F1 F2 R q1 q2 => by
      rw [if_pos h2.k, hre, bnO_s]
      refine Ok.ad (c := 0) (s := 0) (Nat.zero_le _) (Nat.zero_le _) ?_
      dsimp only
      by_cases c : reas (lfV W (selE (nrL W a p) t 0 (nrL W a p).length)) a p = 0
      · rw [if_pos c]
        exact q1 (hok.mpr c)
      · rw [if_neg c]
        exact q2 (Bool.eq_false_iff.mpr (fun z => c (hok.mp z)))
    have eT : okM W a p t = true → bestE W a p (t + 1) = (if bestE W a p t = -1 then prM W a p t else if bestE W a p t ≤ prM W a p t then bestE W a p t else prM W a p t) := fun c => by
      rw [es]
      unfold mnF
      rw [if_pos c, if_neg (by omega)]
    have eF : okM W a p t = false → bestE W a p (t + 1) = bestE W a p t := fun c => by
      rw [es]
      unfold mnF
      rw [c, if_neg Bool.false_ne_true]
    by_cases c1 : bestE W a p t < 0
    · rw [if_pos c1]
      exact ask (bkE (pT P) x p lst (t : Int) (nCell + K.length) (lp (fun go p' => lb2_LP_eviction_94 (pT P) x p lst go p'.1 p'.2.1 p'.2.2.1 p'.2.2.2) N) (prM W a p t) (prM W a p t)) (bkE (pT P) x p lst (t : Int) (nCell + K.length) (lp (fun go p' => lb2_LP_eviction_94 (pT P) x p lst go p'.1 p'.2.1 p'.2.2.1 p'.2.2.2) N) (bestE W a p t) (bestE W a p t)) _ (fun c => fin (prM W a p t) (prM W a p t) (by rw [eT c, if_pos (by omega)])) (fun c => fin (bestE W a p t) (bestE W a p t) (eF c).symm)
    · rw [if_neg c1]
      by_cases c2 : bestE W a p t ≤ prM W a p t
      · rw [if_pos c2]
        refine fin (bestE W a p t) (bestE W a p t) ?_
        cases c : okM W a p t with
        | true => rw [eT c, if_neg (by omega), if_pos c2]
        | false => exact (eF c).symm
      · rw [if_neg c2]
        exact ask (bkE (pT P) x p lst (t : Int) (nCell + K.length) (lp (fun go p' => lb2_LP_eviction_94 (pT P) x p lst go p'.1 p'.2.1 p'.2.2.1 p'.2.2.2) N) (prM W a p t) (prM W a p t)) (bkE (pT P) x p lst (t : Int) (nCell + K.length) (lp (fun go p' => lb2_LP_eviction_94 (pT P) x p lst go p'.1 p'.2.1 p'.2.2.1 p'.2.2.2) N) (bestE W a p t) (bestE W a p t)) _ (fun c => fin (prM W a p t) (prM W a p t) (by rw [eT c, if_neg (by omega), if_neg c2])) (fun c => fin (bestE W a p t) (bestE W a p t) (eF c).symm)
theorem l_eviction {L : List PC} {x : Nat} (h : HP L P W) (hG : Good W) (ha : 0 ≤ a ∧ a < nA W) (hp : 1 ≤ p ∧ p ≤ pgs W) (hxa : (xA P)[a.toNat]? = some x) (hL : L.length < 400000000) :
    Ok (gn_LP_eviction (pT P) x p S L) 259 2065 (fun v => ∃ e L', v = (e, (S, L')) ∧ EvV W a p e ∧ HP L' P W ∧ Sf (fpP P) L L' ∧ L'.length ≤ L.length + 259) := by
  have hV := hG.1
  have l8 := nrL_8 hV hG.2.1 (a := a) (p := p)
  have sb := sh8_b (k := (nrL W a p).length) (by omega)
  obtain ⟨A1, e1, n1, hl1⟩ := k_newL (S := S) (L := L) (by omega)
  have l1 := n1.2.1
  have h1 := h.sf0 n1.sf0
  obtain ⟨t, A2, e2, n2⟩ := k_iter (S := S) h1.lA (by omega)
  have l2 := n2.2.1
  have s2 : Sf F0_ L A2 := n1.sf0.n n2
  have o := l_ev17 (S := S) (L1 := A2) (lst := nCell + L.length) (t := t) (m := 0) h hV hG.2.1 ha hp hxa s2 (by rw [n2.1]; omega) (Nat.le_refl _) (hl1.sf n2.sf0 id (fun _ => id)) ⟨_, n2.at⟩ (by omega)
  unfold gn_LP_eviction
  rw [if_pos (by omega), nw_x, e1, bnO_s]
  refine Ok.ad (c := 1) (s := 3) (by omega) (by omega) ?_
  refine Ok.ad (c := 0) (s := 0) (Nat.zero_le _) (Nat.zero_le _) ?_
  dsimp only
  rw [h1.fA, bnO_s, rfB_r, if_pos h1.kA, e2, bnO_s]
  refine Ok.ad (c := 1) (s := 4) (by omega) (by omega) ?_
  dsimp only
  rw [rfB_r]
  refine Ok.bind o (by omega) (by omega) ?_
  rintro v cc ss ⟨K, r, m, rfl, q1, q2, q3, q4⟩
  dsimp only
  have hK := h.sf0 q3
  have e94 := l_ev94 (S := S) (x := x) h hV hG.2.1 ha hp hxa (i_shl 1 ((nrL W a p).length : Int)).toNat FU 0 K (by omega) (FU_big (by omega)) hK q1 (q3.mono (fun _ z => z.elim)) (by omega)
  refine Ok.bind (C1 := 256) (T1 := 2048) (o := lo2_LP_eviction_94 (pT P) x p (nCell + L.length) FU (-1, 0, (S, K))) (e94.mono (by omega) (by omega) (fun _ z => z)) (by omega) (by omega) ?_
  rintro v cc ss ⟨K', rfl, p1, p2, p3⟩
  exact Ok.ret ⟨_, K', rfl, ev_masks hG ha hp, p1, p2, by omega⟩
end Evict4L
