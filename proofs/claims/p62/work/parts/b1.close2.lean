/-! CLOSING A FORM: its pages -/
theorem idxs_take {w : Int → Int} {p : Int} : ∀ {n i k : Nat}, (idxs w p n)[i]? = some k → (idxs w p n).take i = idxs w p k
  | 0, _, _, h => by rw [show idxs w p 0 = [] from rfl, List.getElem?_nil] at h; cases h
  | n + 1, i, k, h => by
    have h : (idxs w p n ++ (if w n = p then [n] else []))[i]? = some k := h
    show (idxs w p n ++ (if w n = p then [n] else [])).take i = _
    by_cases c : i < (idxs w p n).length
    · rw [List.getElem?_append_left c] at h
      rw [List.take_append_of_le_length (Nat.le_of_lt c)]
      exact idxs_take h
    · rw [List.getElem?_append_right (by omega)] at h
      by_cases d : w n = p
      · rw [if_pos d] at h ⊢
        have e1 := (List.getElem?_eq_some_iff.mp h).1
        have e2 : i - (idxs w p n).length < 1 := e1
        have e : i - (idxs w p n).length = 0 := by omega
        rw [e] at h
        have hk : n = k := Option.some.inj h
        subst hk
        rw [show i = (idxs w p n).length by omega, List.take_left]
      · rw [if_neg d, List.getElem?_nil] at h; cases h
def foA (W : Vw) (p : Int) (xs : List Nat) : Vw := xs.foldl (fun V (a : Nat) => adS p (a : Int) V) W
theorem adN_6 {W : Vw} {p : Int} {n : Nat} : at_ (adN W p n) 6 n = at_ W 6 n := by
  rw [(adN_e (W := W) (p := p) (i := (n : Int)) (by omega)).1 n (by omega), if_neg (fun q => absurd q.1 (Int.lt_irrefl _))]
theorem foA_idxs {W : Vw} {p : Int} : ∀ n : Nat, foA W p (idxs (at_ W 6) p n) = adN W p n
  | 0 => rfl
  | n + 1 => by
    show foA W p (idxs (at_ W 6) p n ++ (if at_ W 6 n = p then [n] else [])) = adN W p ((n : Int) + 1)
    unfold foA
    rw [List.foldl_append]
    have e : List.foldl (fun V (a : Nat) => adS p (a : Int) V) W (idxs (at_ W 6) p n) = adN W p n := foA_idxs n
    rw [e, adN_s (by omega)]
    by_cases c : at_ W 6 n = p
    · rw [if_pos c]; rfl
    · rw [if_neg c]
      have d : adS p n (adN W p n) = adN W p n := by
        unfold adS
        rw [if_neg (fun q => c (by rw [← adN_6 (W := W) (p := p)]; exact q.1))]
      rw [d]; rfl
/-- at most four ads stand on a page -/
theorem idx4 {W : Vw} (hV : Val W) (hW : Wf W) {p : Int} (hp : 1 ≤ p ∧ p ≤ pgs W) : (idxs (at_ W 6) p (nA W).toNat).length ≤ 4 := by
  have q := hW.1 p hp.1 hp.2
  unfold rawR sumA sumB at q
  rw [sumR_neg, sumR_neg] at q
  have e1 := idxs_len (w := at_ W 6) (p := p) (n := (nA W).toNat)
  have e2 := sumR_le (w := fun i => if at_ W 6 i = p then (1 : Int) else 0) (w' := szA W p (-1)) (n := (nA W).toNat) (i := 0) (fun j h1 h2 => by
    have v := hV.2.1 j h1 (by omega)
    show (if at_ W 6 j = p then (1 : Int) else 0) ≤ szA W p (-1) j
    unfold szA
    by_cases c : at_ W 6 j = p
    · rw [if_pos c, if_pos ⟨by omega, c⟩]; omega
    · rw [if_neg c, if_neg (fun z => c z.2)]; omega)
  have e3 := sumR_bd (w := szB W p (-1)) (l := 0) (h := 4) (n := (nB W).toNat) (i := 0) (fun j h1 h2 => by
    have v := hV.2.2.2.1 j h1 (by omega)
    show 0 ≤ szB W p (-1) j ∧ szB W p (-1) j ≤ 4
    unfold szB
    split <;> omega)
  omega
/-- the pages of a form, counted -/
def cntP (e f : Int) : Int → Nat → Nat
  | _, 0 => 0
  | q, n + 1 => (if 2 * ((q - 1) / e) + (if (q - 1) % e % 4 = 0 ∨ (q - 1) % e % 4 = 3 then 0 else 1) = f then 1 else 0) + cntP e f (q + 1) n
theorem cntP_4 : ∀ s : Nat, s < 5 → ∀ f : Nat, f < 8 → 2 * cntP 4 (f : Int) 1 (s * 4) ≤ 4 := by decide +kernel
theorem cntP_8 : ∀ s : Nat, s < 5 → ∀ f : Nat, f < 8 → 2 * cntP 8 (f : Int) 1 (s * 8) ≤ 8 := by decide +kernel
theorem cntP_16 : ∀ s : Nat, s < 5 → ∀ f : Nat, f < 8 → 2 * cntP 16 (f : Int) 1 (s * 16) ≤ 16 := by decide +kernel
theorem cntP_le {W : Vw} (hV : Val W) {f : Int} (hf : 0 ≤ f ∧ f < frm W) : 2 * cntP (pe W) f 1 (pgs W).toNat ≤ (pe W).toNat := by
  have b := hV.z
  have hv := hV.1
  obtain ⟨-, -, -, h4, h5, -⟩ := hv
  obtain ⟨s, hs⟩ : ∃ s : Nat, sg W = s := ⟨(sg W).toNat, by omega⟩
  obtain ⟨f', hf'⟩ : ∃ f' : Nat, f = f' := ⟨f.toNat, by omega⟩
  subst hf'
  have ep : pgs W = (s : Int) * pe W := by unfold pgs; rw [hs]
  rcases h5 with e | e | e
  · rw [e] at ep
    rw [show (pgs W).toNat = s * 4 by omega, e]
    exact cntP_4 s (by omega) f' (by omega)
  · rw [e] at ep
    rw [show (pgs W).toNat = s * 8 by omega, e]
    exact cntP_8 s (by omega) f' (by omega)
  · rw [e] at ep
    rw [show (pgs W).toNat = s * 16 by omega, e]
    exact cntP_16 s (by omega) f' (by omega)
section Close2
variable {S : St} {L L' : List PC} {P : PA} {W : Vw}
theorem fp_below (h : HC0 L P W) {b : Nat} (hb : nCell + L.length ≤ b) (hx : b < XB) : ¬ fpP P b := fun q => by
  rcases fp_lt h b q with ⟨c, e⟩ | e
  · have := hp_lt e; omega
  · omega
theorem l_close90 {f p : Int} {lst t r c : Nat} {m : Int} {xs : List Nat} {L0 L1 : List PC} (hxs : xs = idxs (at_ W 6) p (nA W).toNat) (hG : G3 W) (hpp : 1 ≤ p ∧ p ≤ pgs W) {V0 : Vw} (h0 : HP L0 P V0)
    (h1 : HP L1 P W) (hs : Sf (fpP P) L0 L1) (ht : nCell + L0.length ≤ t) (hl : nCell + L0.length ≤ lst) (hli : LsH L1 lst r m c (xs.map bx)) (hr : r < XB → nCell + L0.length ≤ r) (hit : ItH L1 t lst m 0) (hL : L1.length < 600000000) :
    Ok (lo2_LP_close_90 (pT P) f p t FU (S, L1)) xs.length (4 * xs.length) (fun v => ∃ L2, v = (S, L2) ∧ L2.length ≤ L1.length + xs.length ∧ HP L2 P (adN W p (nA W)) ∧ Sf (fpP P) L0 L2) := by
  have b := hG.1.z
  have hlm : (xs.map bx).length = xs.length := List.length_map _
  have hxl : xs.length ≤ 200 := by have := hli.len; omega
  have hlx : lst < XB := (hp_bd hli.2.1).2.1
  have htx : t < XB := by obtain ⟨l, q⟩ := hit; exact (hp_bd q).2.1
  exact lp_Ok (body := fun go z => lb2_LP_close_90 (pT P) f p t go z.1 z.2) (R := fun v : LZ => ∃ L2, v = (S, L2) ∧ L2.length ≤ L1.length + xs.length ∧ HP L2 P (adN W p (nA W)) ∧ Sf (fpP P) L0 L2)
    (fun n z => ∃ (K : List PC) (i : Nat), z = (S, K) ∧ i + n = xs.length ∧ ItH K t lst m i ∧ LsH K lst r m c (xs.map bx) ∧ HP K P (foA W p (xs.take i)) ∧ Sf (fpP P) L0 K ∧ K.length ≤ L1.length + i) (fun n => n) (fun n => 4 * n)
    (fun go z hz => by
      obtain ⟨K, i, rfl, hi, hit, hls, hK, hs', hKl⟩ := hz
      show Ok (lb2_LP_close_90 (pT P) f p t go S K) _ _ _
      have q := k_hasNext (S := S) hls hit ⟨by omega, by omega⟩
      rw [decide_eq_false (by omega)] at q
      unfold lb2_LP_close_90
      rw [if_pos hit.k, q, bnO_s, if_neg Bool.false_ne_true]
      refine Ok.ret ⟨K, rfl, by omega, ?_, hs'⟩
      rw [show i = xs.length by omega, List.take_length, hxs, foA_idxs] at hK
      rw [show nA W = (((nA W).toNat : Nat) : Int) by omega]
      exact hK)
    (fun go n z hz hgo => by
      obtain ⟨K, i, rfl, hi, hit, hls, hK, hs', hKl⟩ := hz
      show Ok (lb2_LP_close_90 (pT P) f p t go S K) (n + 1) (4 * (n + 1)) _
      obtain ⟨k, hk⟩ : ∃ k, xs[i]? = some k := ⟨_, List.getElem?_eq_getElem (by omega)⟩
      have hkm : k ∈ idxs (at_ W 6) p (nA W).toNat := by rw [← hxs]; exact List.mem_of_getElem? hk
      obtain ⟨hkn, hkp⟩ := idxs_mem.mp hkm
      have hV : foA W p (xs.take i) = adN W p k := by
        rw [hxs] at hk ⊢
        rw [idxs_take hk, foA_idxs]
      have hnext : foA W p (xs.take (i + 1)) = adS p k (adN W p k) := by
        rw [List.take_add_one, hk]
        unfold foA
        rw [List.foldl_append]
        show adS p k (foA W p (xs.take i)) = _
        rw [hV]
      rw [hV] at hK
      have hGV : G3 (adN W p k) := G3_adN hG hpp ⟨by omega, by omega⟩
      have sm : Sm W (adN W p k) := adN_sm
      have hbk : (xs.map bx)[(i : Int).toNat]? = some (bx k) := by rw [Int.toNat_natCast, List.getElem?_map, hk]; rfl
      have q := k_hasNext (S := S) hls hit ⟨by omega, by omega⟩
      rw [decide_eq_true (by omega)] at q
      obtain ⟨K1, e1, w1⟩ := k_next (S := S) hls hit (by omega) hbk
      have hkt := hit.k
      obtain ⟨l0, hl0⟩ := hit
      have g1 : HP K1 P (adN W p k) := hK.wo hl0 (by decide) w1
      have s1 : Sf (fpP P) L0 K1 := hs'.w w1 (.inr ht)
      have hls1 : LsH K1 lst r m c (xs.map bx) := hls.w1 hl0 (show (14 : Nat) ≠ 13 ∧ (14 : Nat) ≠ 103 by decide) w1
      have hka : 0 ≤ (k : Int) ∧ (k : Int) < nA (adN W p k) := by rw [sm.1.1]; omega
      obtain ⟨x, hxm, hg, hx1⟩ := g1.ad hka
      obtain ⟨kk, f0, -, -, f3, f4, -, -⟩ := ad_f hGV.1 hka hx1
      have h6 : at_ (adN W p k) 6 k = p := adN_6.trans hkp
      have hcast : ((i + 1 : Nat) : Int) = (i : Int) + 1 := by omega
      have hun : lb2_LP_close_90 (pT P) f p t go S K = if tm (adN W p k) < at_ (adN W p k) 5 k then (bnO (pf K1 x 11 5 (V 0)) fun L50 => bnO (gfI L50 (pT P) 12 3) fun v51 => bnO (gfI L50 x 11 3) fun v52 => nm (wr (v51 + v52)) fun v53 => bnO (pf L50 (pT P) 12 3 (V v53)) fun L54 => bnO (gfV L54 (pT P) 12 6) fun v55 => rfB v55 fun r56 => if isK L54 r56 13 = true then (bnO (gn_AL_iterator r56 S L54) fun p57 => adC p57.2.1 p57.2.2 (rfB p57.1.1 fun r59 => bnO (lo2_LP_close_171 (pT P) f p t x r59 FU (p57.1.2.1, p57.1.2.2)) fun p73 => adC p73.2.1 p73.2.2 (go (p73.1.1, p73.1.2)))) else none) else go (S, K1) := by
        unfold lb2_LP_close_90
        rw [if_pos hkt, q, bnO_s, if_pos rfl, if_pos hkt, e1, bnO_s]
        show adC 0 0 _ = _
        rw [adC00]
        have kb := k_box (S := S) (L := K1) (k := k) (by omega)
        simp only [rfB_r, kb.1, kb.2, eq_self, if_true, bnO_s, g1.fA, g1.kA, hg, kk, f4, g1.ti hGV.1]
      rw [hun]
      by_cases c1 : tm (adN W p k) < at_ (adN W p k) 5 k
      · rw [if_pos c1]
        obtain ⟨K2, e2, w2⟩ := pf_s hx1 (f := 5) (Nat.le_of_ble_eq_true rfl) (V 0)
        have g2 : HP K2 P (up (adN W p k) 6 (k : Int).toNat 0) := g1.updA (f := 5) (by decide) hxm w2
        have f3' : gfI K2 x 11 3 = some (at_ (adN W p k) 4 k) := gfI_s w2.at rfl ((val_in hGV.1).2.1 (k : Int).toNat (by omega) 4 (by decide))
        have lo2 := g2.lo
        rw [lo_up (by decide)] at lo2
        obtain ⟨K3, e3, w3⟩ := pf_s g2.1.1 (f := 3) (Nat.le_of_ble_eq_true rfl) (V (wr (lo_ (adN W p k) + at_ (adN W p k) 4 k)))
        have g3 : HP K3 P (adU (adN W p k) k) := g2.setT (j := 6) (.inr rfl) (z := wr (lo_ (adN W p k) + at_ (adN W p k) 4 k)) (wr_in _) (by rw [if_neg (by decide), if_pos rfl]; exact w3)
        have hVU : G3 (adU (adN W p k) k) := G3_adU hGV hka
        have sU : Sm (adN W p k) (adU (adN W p k) k) := adU_sm
        have len3 : K3.length = K.length := by rw [w3.1, w2.1, w1.1]
        obtain ⟨t5, K4, e4, n4⟩ := k_iter (S := S) g3.lB (by omega)
        have g4 := g3.sf0 n4.sf0
        have y4 : gfI K4 x 11 0 = some (at_ (adN W p k) 0 k) := by
          have z := (ad_f hVU.1 (i := (k : Int)) ⟨hka.1, by rw [sU.1.1]; exact hka.2⟩ (g4.1.2.2.1 _ _ hxm)).2.1
          rw [Sm_at sU (by decide) (by decide) (by decide) (by decide)] at z
          exact z
        have eB : nB (adU (adN W p k) k) = nB W := by rw [sU.1.2.2.1, sm.1.2.2.1]
        obtain ⟨K5, e5, g5, s5, l5⟩ := l_repl (S := S) (f := f) (p := p) (y := at_ (adN W p k) 0 k) (lr := t) (x := x) (t := t5) (V0 := adU (adN W p k) k) hVU.1 (by omega) (L0 := K3) (by rw [n4.1]; exact Nat.le_refl _) (nB W).toNat FU 0 K4 (by rw [eB]; omega) (Int.le_refl _) (FU_big (by omega)) g4 (Sf.refl.n n4) ⟨_, n4.at⟩ y4 (List.mem_of_getElem? hxm) (fun j h1 h2 => by omega)
        have hxt : t ≠ x := by rintro rfl; rw [w1.at] at hx1; cases hx1
        have htp : t ≠ pT P := by
          intro e
          have q1 := g1.1.1
          rw [← e, w1.at] at q1
          cases q1
        have h3t : hp K3 t = some (14, [V ((i : Int) + 1), V i, V m, Value.ref lst]) := by rw [w3.ne htp, w2.ne hxt]; exact w1.at
        have h5t := s5.at h3t (fp_below h0.1 ht htx)
        have hls3 : LsH K3 lst r m c (xs.map bx) := (hls1.w1 hx1 (show (11 : Nat) ≠ 13 ∧ (11 : Nat) ≠ 103 by decide) w2).w1 g2.1.1 (show (12 : Nat) ≠ 13 ∧ (12 : Nat) ≠ 103 by decide) w3
        have hls5 : LsH K5 lst r m c (xs.map bx) := hls3.sf s5 (fp_below h0.1 hl hlx) (fun q => fp_below h0.1 (hr q) q)
        have hfx : fpP P x := .inr (.inr (.inr (.inr (.inr (.inl (List.mem_of_getElem? hxm))))))
        rw [e2, bnO_s, lo2, bnO_s, f3', bnO_s, nm_x, e3, bnO_s, g3.fB, bnO_s, rfB_r, if_pos g3.kB, e4, bnO_s]
        refine Ok.ad (c := 1) (s := 4) (by omega) (by omega) ?_
        show Ok (bnO (lo2_LP_close_171 (pT P) f p t x t5 FU (S, K4)) _) _ _ _
        rw [show lo2_LP_close_171 (pT P) f p t x t5 FU (S, K4) = _ from e5, bnO_s]
        show Ok (adC 0 0 (go (S, K5))) _ _ _
        rw [adC00]
        refine (hgo _ ⟨K5, i + 1, rfl, by omega, by rw [hcast]; exact ⟨_, h5t⟩, hls5, ?_, ((s1.w w2 (.inl hfx)).w w3 (.inl (.inl rfl))).trans s5, by rw [l5, n4.2.1, len3]; omega⟩).mono (by omega) (by omega) (fun _ q => q)
        rw [hnext]
        unfold adS
        rw [if_pos ⟨h6, decide_eq_true c1⟩]
        exact g5
      · rw [if_neg c1]
        refine (hgo _ ⟨K1, i + 1, rfl, by omega, by rw [hcast]; exact ⟨_, w1.at⟩, hls1, ?_, s1, by rw [w1.1]; omega⟩).mono (by omega) (by omega) (fun _ q => q)
        rw [hnext]
        unfold adS
        rw [if_neg (fun q => c1 (of_decide_eq_true q.2))]
        exact g1)
    xs.length FU (S, L1) ⟨L1, 0, rfl, by omega, hit, hli, h1, hs, by omega⟩ (FU_big (by omega))
theorem l_close57 {f : Int} {L0 L1 : List PC} (hG : G3 W) (h1 : HP L1 P W) (hs : Sf (fpP P) L0 L1) (hL : L1.length < 500000000) :
    Ok (lo2_LP_close_57 (pT P) f FU (1, (S, L1))) (7 * cntP (pe W) f 1 (pgs W).toNat) (33 * cntP (pe W) f 1 (pgs W).toNat) (fun v => ∃ L2, v = (S, L2) ∧ L2.length ≤ L1.length + 7 * cntP (pe W) f 1 (pgs W).toNat ∧ HP L2 P (pgN W f (pgs W + 1)) ∧ Sf (fpP P) L0 L2) := by
  have b := hG.1.z
  have h := lp_Ok (body := fun go z => lb2_LP_close_57 (pT P) f go z.1 z.2.1 z.2.2) (R := fun v : LZ => ∃ L2, v = (S, L2) ∧ L2.length ≤ L1.length + 7 * cntP (pe W) f 1 (pgs W).toNat ∧ HP L2 P (pgN W f (pgs W + 1)) ∧ Sf (fpP P) L0 L2)
    (fun n z => ∃ K : List PC, z = (pgs W + 1 - n, (S, K)) ∧ (n : Int) ≤ pgs W ∧ K.length + 7 * cntP (pe W) f (pgs W + 1 - n) n ≤ L1.length + 7 * cntP (pe W) f 1 (pgs W).toNat ∧ K.length ≤ L1.length + 28 * 64 - 28 * n ∧ HP K P (pgN W f (pgs W + 1 - n)) ∧ Sf (fpP P) L0 K) (fun n => 7 * cntP (pe W) f (pgs W + 1 - n) n) (fun n => 33 * cntP (pe W) f (pgs W + 1 - n) n)
    (fun go z hz => by
      obtain ⟨K, rfl, k1, k2, k3, k4, k5⟩ := hz
      show Ok (lb2_LP_close_57 (pT P) f go (pgs W + 1 - ((0 : Nat) : Int)) S K) _ _ _
      have sm : Sm W (pgN W f (pgs W + 1 - ((0 : Nat) : Int))) := pgN_sm
      have hGV : G3 (pgN W f (pgs W + 1 - ((0 : Nat) : Int))) := G3_pgN hG ⟨by omega, by omega⟩
      unfold lb2_LP_close_57
      rw [if_pos k4.k, l_pages k4 hGV.1, bnO_s, Sm_pgs sm, if_pos (by omega)]
      refine Ok.ret ⟨K, rfl, by omega, ?_, k5⟩
      rw [show pgs W + 1 = pgs W + 1 - ((0 : Nat) : Int) by omega]
      exact k4)
    (fun go n z hz hgo => by
      obtain ⟨K, rfl, k1, k2, k3, k4, k5⟩ := hz
      obtain ⟨q, hq⟩ : ∃ q, q = pgs W + 1 - ((n + 1 : Nat) : Int) := ⟨_, rfl⟩
      have hq1 : pgs W + 1 - (n : Int) = q + 1 := by omega
      have hqb : 1 ≤ q ∧ q ≤ pgs W := by omega
      rw [hq1] at hgo
      rw [← hq] at k2 k4 ⊢
      show Ok (lb2_LP_close_57 (pT P) f go q S K) _ _ _
      have sm : Sm W (pgN W f q) := pgN_sm
      have hGV : G3 (pgN W f q) := G3_pgN hG ⟨by omega, by omega⟩
      have eP := Sm_pgs sm
      have eF := Sm_fOf sm q
      have ec : cntP (pe W) f q (n + 1) = (if fOf W q = f then 1 else 0) + cntP (pe W) f (q + 1) n := rfl
      have es : pgN W f (q + 1) = pgS f q (pgN W f q) := pgN_s (by omega)
      rw [ec] at k2 ⊢
      unfold lb2_LP_close_57
      rw [if_pos k4.k, l_pages k4 hGV.1, bnO_s, eP, if_neg (by omega), if_pos k4.k, l_form k4 hGV.1 hqb.1 (by omega), bnO_s, eF]
      by_cases c : fOf W q = f
      · rw [if_pos c] at k2 ⊢
        rw [if_pos c, k4.fA, bnO_s, rfB_r, if_pos k4.k]
        have hlen : ((xA P).length : Int) = nA (pgN W f q) := k4.2.1.1
        have hnA : nA (pgN W f q) = nA W := sm.1.1
        have el : (pA P).2.2.2.2.length = (nA (pgN W f q)).toNat := by show (xA P).length = _; omega
        have h4 := idx4 hGV.1 hGV.2.1 (p := q) (by rw [eP]; exact hqb)
        have on := l_on (S := S) (A := pA P) (w := at_ (pgN W f q) 6) (p := q) (t := pT P) k4.lA (fun i x hx => ⟨adV (pgN W f q) i, k4.1.2.2.1 _ _ hx, by rw [at_n]; rfl, by
          have hl := (List.getElem?_eq_some_iff.mp hx).1
          rw [at_n]
          exact (val_in hGV.1).2.1 i (by omega) 6 (by decide)⟩) (by rw [el]; omega) (by rw [el]; omega) (by omega)
        refine Ok.bind on (by omega) (by omega) ?_
        rintro v cc ss ⟨L', r, m, c', rfl, hl, hsf, hlen', hr⟩
        show Ok (rfB (Value.ref (nCell + K.length)) fun r29 => if isK L' r29 13 = true then bnO (gn_AL_iterator r29 S L') _ else none) _ _ _
        rw [el] at hl
        obtain ⟨t2, L2, e2, n2⟩ := k_iter (S := S) hl (by omega)
        rw [rfB_r, if_pos hl.k, e2, bnO_s]
        refine Ok.ad (c := 1) (s := 4) (by omega) (by omega) ?_
        show Ok (bnO (lo2_LP_close_90 (pT P) f q t2 FU (S, L2)) _) _ _ _
        have g2 : HP L2 P (pgN W f q) := (k4.sf0 hsf).sf0 n2.sf0
        have s2 : Sf (fpP P) K L2 := (Sf.mono (fun _ h => h.elim) hsf).n n2
        have cl := l_close90 (S := S) (f := f) (p := q) (xs := idxs (at_ (pgN W f q) 6) q (nA (pgN W f q)).toNat) rfl hGV (by rw [eP]; exact hqb) k4 g2 s2 (by rw [n2.1]; have := s2.1; have := hsf.1; omega) (Nat.le_refl _) (hl.sf n2.sf0 id (fun _ => id)) hr ⟨_, n2.at⟩ (by rw [n2.2.1]; omega)
        refine Ok.bind (cl.mono (C' := 4) (T' := 16) h4 (by omega) (fun _ q => q)) (by omega) (by omega) ?_
        rintro v cc ss ⟨L3, rfl, l3, g3, s3⟩
        show Ok (nm (wr (q + 1)) fun v76 => go (v76, (S, L3))) _ _ _
        rw [nm_x, wr_s (by omega) (by omega)]
        have l2 := n2.2.1
        refine (hgo _ ⟨L3, rfl, by omega, by omega, by omega, ?_, k5.trans s3⟩).mono (by omega) (by omega) (fun _ q => q)
        rw [es]
        unfold pgS
        rw [if_pos (by rw [eF]; exact c)]
        exact g3
      · rw [if_neg c] at k2 ⊢
        rw [if_neg c, nm_x, wr_s (by omega) (by omega)]
        refine (hgo _ ⟨K, rfl, by omega, by omega, by omega, ?_, k5⟩).mono (by omega) (by omega) (fun _ q => q)
        rw [es]
        unfold pgS
        rw [if_neg (by rw [eF]; exact c)]
        exact k4)
    (pgs W).toNat FU (1, (S, L1)) ⟨L1, by rw [show pgs W + 1 - (((pgs W).toNat : Nat) : Int) = 1 by omega], by omega, by rw [show pgs W + 1 - (((pgs W).toNat : Nat) : Int) = 1 by omega]; exact Nat.le_refl _, by omega, by rw [show pgs W + 1 - (((pgs W).toNat : Nat) : Int) = 1 by omega]; exact h1, hs⟩ (FU_big (by omega))
  rw [show pgs W + 1 - (((pgs W).toNat : Nat) : Int) = 1 by omega] at h
  exact h
theorem l_close {f : Int} (h : HP L P W) (hG : G3 W) (hf : 0 ≤ f ∧ f < frm W) (hL : L.length < 400000000) :
    Ok (gn_LP_close (pT P) f S L) (1 + 7 * cntP (pe W) f 1 (pgs W).toNat) (4 + 33 * cntP (pe W) f 1 (pgs W).toNat) (fun v => ∃ L', v = (S, L') ∧ L'.length ≤ L.length + 1 + 7 * cntP (pe W) f 1 (pgs W).toNat ∧ HP L' P (clW f W) ∧ Sf (fpP P) L L') := by
  have b := hG.1.z
  obtain ⟨t1, L1, e1, n1⟩ := k_iter (S := S) h.lS (by omega)
  obtain ⟨L2, e2, l2, h2, s2⟩ := l_clS (S := S) (f := f) hG (h.sf0 n1.sf0) (Sf.refl.n n1) (by rw [n1.1]; exact Nat.le_refl _) ⟨_, n1.at⟩
  have sm : Sm W (stN W f (nS W)) := stN_sm
  have hG2 : G3 (stN W f (nS W)) := G3_stN hG ⟨by omega, Int.le_refl _⟩
  have c57 := l_close57 (S := S) (f := f) hG2 h2 s2 (by rw [l2, n1.2.1]; omega)
  have ep : pe (stN W f (nS W)) = pe W := sm.1.2.2.2.2
  rw [ep, Sm_pgs sm] at c57
  unfold gn_LP_close
  rw [h.fS, bnO_s, rfB_r, if_pos h.kS, e1, bnO_s]
  refine Ok.ad (c := 1) (s := 4) (by omega) (by omega) ?_
  show Ok (bnO (lo2_LP_close_8 (pT P) f t1 FU (S, L1)) _) _ _ _
  rw [e2, bnO_s]
  show Ok (adC 0 0 (bnO (lo2_LP_close_57 (pT P) f FU (1, (S, L2))) _)) _ _ _
  rw [adC00]
  refine Ok.bind c57 (by omega) (by omega) ?_
  rintro v cc ss ⟨L3, rfl, l3, h3, s3⟩
  show Ok (bnO (gfV L3 (pT P) 12 8) fun v81 => rfB v81 fun r82 => bnO (ast L3 102 r82 f (V (i_nz 1))) fun L83 => some ((S, L83), 0, 0)) _ _ _
  obtain ⟨L4, e4, h4, s4, l4⟩ := h3.setP (f := f) ⟨hf.1, by omega⟩ (z := 1) (.inr rfl)
  rw [h3.fP, bnO_s, rfB_r, nz1, e4, bnO_s]
  refine Ok.ret ⟨L4, rfl, by rw [l4]; have := l2; have := n1.2.1; omega, h4, s3.trans s4⟩
end Close2
