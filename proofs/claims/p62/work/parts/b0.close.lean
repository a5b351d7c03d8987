/-! CLOSING A FORM -/
section Sets
variable {S : St} {L L' : List PC} {P : PA} {W : Vw}
theorem sbV_14 {k j i : Nat} {z : Int} (h : 14 ≤ k) : sbV (up W k j z) i = sbV W i := by
  unfold sbV itV up
  simp [show ¬ 12 = k by omega, show ¬ 13 = k by omega]
theorem RwH.u17 {k r j i : Nat} {z : Int} (h : RwH L k r W j) (hj : j < 17) (hi : 5 ≤ i) : RwH L k r (up W 17 i z) j := by
  obtain ⟨vs, q1, q2, q3⟩ := h
  refine ⟨vs, q1, q2, fun f hf => ?_⟩
  rw [show sg (up W 17 i z) = sg W from if_neg (fun q => by omega)] at hf
  rw [q3 f hf]
  unfold up
  rw [if_neg (by omega)]
/-- the plan's own cell: time, lost -/
theorem HP.setT (h : HP L P W) {j : Nat} (hj : j = 5 ∨ j = 6) {z : Int} (hz : inR z) (hw : W1 L L' (pT P) (12, [V (sg W), V (pe W), V (if j = 5 then z else tm W), V (if j = 6 then z else lo_ W), Value.ref (pA P).1, Value.ref (pS P).1, Value.ref (pB P).1, Value.ref (pC P), Value.ref (pP P), Value.ref (pK P)])) : HP L' P (up W 17 j z) := by
  have hc := h.1.1
  have n5 : N5 W (up W 17 j z) := N5_up17 (by omega)
  have et : tm (up W 17 j z) = if j = 5 then z else tm W := by
    rcases hj with rfl | rfl
    · rw [if_pos rfl]; exact tm_tm
    · rw [if_neg (by decide)]; exact tm_lo
  have el : lo_ (up W 17 j z) = if j = 6 then z else lo_ W := by
    rcases hj with rfl | rfl
    · rw [if_neg (by decide)]; exact lo_tm
    · rw [if_pos rfl]; exact lo_lo
  refine ⟨⟨?_, ⟨h.lA.w1 hc (show (12 : Nat) ≠ 13 ∧ (12 : Nat) ≠ 103 by decide) hw, h.lS.w1 hc (show (12 : Nat) ≠ 13 ∧ (12 : Nat) ≠ 103 by decide) hw, h.lB.w1 hc (show (12 : Nat) ≠ 13 ∧ (12 : Nat) ≠ 103 by decide) hw⟩, fun i y hy => ?_, fun i y hy => ?_, fun i y hy => ?_, (h.1.2.2.2.2.2.1.w1 hc (by show (12 : Nat) ≠ _; decide) hw).u17 (by decide) (by omega), (h.1.2.2.2.2.2.2.1.w1 hc (by show (12 : Nat) ≠ _; decide) hw).u17 (by decide) (by omega), (h.1.2.2.2.2.2.2.2.w1 hc (by show (12 : Nat) ≠ _; decide) hw).u17 (by decide) (by omega)⟩, ?_, ?_, h.2.2.2⟩
  · rw [hw.at, et, el, n5.2.2.2.1, n5.2.2.2.2]
  · have q := h.1.2.2.1 _ _ hy
    rw [hw.ne (by rintro rfl; rw [hc] at q; cases q), adV_k (by decide)]
    exact q
  · have q := h.1.2.2.2.1 _ _ hy
    rw [hw.ne (by rintro rfl; rw [hc] at q; cases q), stV_12 (by decide)]
    exact q
  · have q := h.1.2.2.2.2.1 _ _ hy
    rw [hw.ne (by rintro rfl; rw [hc] at q; cases q), sbV_14 (by decide)]
    exact q
  · rw [n5.1, n5.2.1, n5.2.2.1]; exact h.2.1
  · rw [el]; split
    · exact hz
    · exact h.2.2.1
theorem set_row {W : Vw} {kk k f : Nat} {z : Int} {vs : List Value} (hk : 14 ≤ k ∧ k < 17) (h1 : vs.length = 8 ∧ clO kk vs) (hz : kk = 100 ∨ (kk = 102 ∧ (z = 0 ∨ z = 1))) (hf : f < 8) (h2 : ∀ f : Nat, (f : Int) < 2 * sg W → vs[f]? = some (V (W k f))) : ((vs.set f (V z)).length = 8 ∧ clO kk (vs.set f (V z))) ∧ ∀ f' : Nat, (f' : Int) < 2 * sg (up W k f z) → (vs.set f (V z))[f']? = some (V (up W k f z k f')) := by
  refine ⟨⟨by rw [List.length_set]; exact h1.1, clO_set h1.2 hz⟩, fun f' hf' => ?_⟩
  have h1 := h1.1
  rw [sg_up (by omega)] at hf'
  by_cases e : f = f'
  · subst e
    rw [List.getElem?_set, if_pos rfl, if_pos (by omega)]
    unfold up
    rw [if_pos ⟨rfl, rfl⟩]
  · rw [List.getElem?_set, if_neg e, h2 f' hf']
    unfold up
    rw [if_neg (fun q => e q.2.symm)]
theorem RwH.uo {k r j k' i : Nat} {z : Int} (h : RwH L k r W j) (h1 : j ≠ k') (h2 : k' < 17) : RwH L k r (up W k' i z) j := by
  obtain ⟨vs, q1, q2, q3⟩ := h
  refine ⟨vs, q1, q2, fun f hf => ?_⟩
  rw [sg_up h2] at hf
  rw [q3 f hf]
  unfold up
  rw [if_neg (fun q => h1 q.1)]
/-- a form's row: printed -/
theorem HP.setP (h : HP L P W) {f : Int} (hf : 0 ≤ f ∧ f < 8) {z : Int} (hz : z = 0 ∨ z = 1) : ∃ L', ast L 102 (pP P) f (V z) = some L' ∧ HP L' P (up W 15 f.toNat z) ∧ Sf (fpP P) L L' ∧ L'.length = L.length := by
  obtain ⟨vs, q1, q2, q3⟩ := h.1.2.2.2.2.2.2.1
  obtain ⟨L1, e1, w1⟩ := ast_s q1 (i := f) hf.1 (by have := q2.1; omega) (V z)
  have hp : fpP P (pP P) := .inr (.inr (.inr (.inr (.inl (.inr (.inl rfl))))))
  have sr := set_row (z := z) (k := 15) (by decide) q2 (.inr ⟨rfl, hz⟩) (f := f.toNat) (by omega) q3
  refine ⟨L1, e1, ⟨⟨?_, ⟨h.lA.w1 q1 (show (102 : Nat) ≠ 13 ∧ (102 : Nat) ≠ 103 by decide) w1, h.lS.w1 q1 (show (102 : Nat) ≠ 13 ∧ (102 : Nat) ≠ 103 by decide) w1, h.lB.w1 q1 (show (102 : Nat) ≠ 13 ∧ (102 : Nat) ≠ 103 by decide) w1⟩, fun i y hy => ?_, fun i y hy => ?_, fun i y hy => ?_, ?_, ⟨_, w1.at, sr⟩, (h.1.2.2.2.2.2.2.2.w1 q1 (by show (102 : Nat) ≠ _; decide) w1).uo (by decide) (by decide)⟩, ?_, by rw [lo_up (by decide)]; exact h.2.2.1, h.2.2.2⟩, Sf.refl.w w1 (.inl hp), w1.1⟩
  · have q := h.1.1
    rw [w1.ne (by intro e; rw [e, q1] at q; cases q), sg_up (by decide), pe_up (by decide), tm_up (by decide), lo_up (by decide)]
    exact q
  · have q := h.1.2.2.1 _ _ hy
    rw [w1.ne (by rintro rfl; rw [q1] at q; cases q), adV_k (by decide)]
    exact q
  · have q := h.1.2.2.2.1 _ _ hy
    rw [w1.ne (by rintro rfl; rw [q1] at q; cases q), stV_12 (by decide)]
    exact q
  · have q := h.1.2.2.2.2.1 _ _ hy
    rw [w1.ne (by rintro rfl; rw [q1] at q; cases q), sbV_14 (by decide)]
    exact q
  · obtain ⟨vc, c1, c2, c3⟩ := h.1.2.2.2.2.2.1
    have := RwH.uo (L := L1) (k' := 15) (i := f.toNat) (z := z) (W := W) ⟨vc, by rw [w1.ne h.2.2.2.2.2.1]; exact c1, c2, c3⟩ (by decide : (14 : Nat) ≠ 15) (by decide)
    exact this
  · rw [nA_up (by decide), nS_up (by decide), nB_up (by decide)]
    exact h.2.1
theorem HP.setC (h : HP L P W) {f : Int} (hf : 0 ≤ f ∧ f < 8) {z : Int} (hz : z = 0 ∨ z = 1) : ∃ L', ast L 102 (pC P) f (V z) = some L' ∧ HP L' P (up W 14 f.toNat z) ∧ Sf (fpP P) L L' ∧ L'.length = L.length := by
  obtain ⟨vs, q1, q2, q3⟩ := h.1.2.2.2.2.2.1
  obtain ⟨L1, e1, w1⟩ := ast_s q1 (i := f) hf.1 (by have := q2.1; omega) (V z)
  have hp : fpP P (pC P) := .inr (.inr (.inr (.inr (.inl (.inl rfl)))))
  have sr := set_row (z := z) (k := 14) (by decide) q2 (.inr ⟨rfl, hz⟩) (f := f.toNat) (by omega) q3
  refine ⟨L1, e1, ⟨⟨?_, ⟨h.lA.w1 q1 (show (102 : Nat) ≠ 13 ∧ (102 : Nat) ≠ 103 by decide) w1, h.lS.w1 q1 (show (102 : Nat) ≠ 13 ∧ (102 : Nat) ≠ 103 by decide) w1, h.lB.w1 q1 (show (102 : Nat) ≠ 13 ∧ (102 : Nat) ≠ 103 by decide) w1⟩, fun i y hy => ?_, fun i y hy => ?_, fun i y hy => ?_, ⟨_, w1.at, sr⟩, ?_, (h.1.2.2.2.2.2.2.2.w1 q1 (by show (102 : Nat) ≠ _; decide) w1).uo (by decide) (by decide)⟩, ?_, by rw [lo_up (by decide)]; exact h.2.2.1, h.2.2.2⟩, Sf.refl.w w1 (.inl hp), w1.1⟩
  · have q := h.1.1
    rw [w1.ne (by intro e; rw [e, q1] at q; cases q), sg_up (by decide), pe_up (by decide), tm_up (by decide), lo_up (by decide)]
    exact q
  · have q := h.1.2.2.1 _ _ hy
    rw [w1.ne (by rintro rfl; rw [q1] at q; cases q), adV_k (by decide)]
    exact q
  · have q := h.1.2.2.2.1 _ _ hy
    rw [w1.ne (by rintro rfl; rw [q1] at q; cases q), stV_12 (by decide)]
    exact q
  · have q := h.1.2.2.2.2.1 _ _ hy
    rw [w1.ne (by rintro rfl; rw [q1] at q; cases q), sbV_14 (by decide)]
    exact q
  · obtain ⟨vc, c1, c2, c3⟩ := h.1.2.2.2.2.2.2.1
    have := RwH.uo (L := L1) (k' := 14) (i := f.toNat) (z := z) (W := W) ⟨vc, by rw [w1.ne (Ne.symm h.2.2.2.2.2.1)]; exact c1, c2, c3⟩ (by decide : (15 : Nat) ≠ 14) (by decide)
    exact this
  · rw [nA_up (by decide), nS_up (by decide), nB_up (by decide)]
    exact h.2.1
theorem HP.setK (h : HP L P W) {f : Int} (hf : 0 ≤ f ∧ f < 8) {z : Int} : ∃ L', ast L 100 (pK P) f (V z) = some L' ∧ HP L' P (up W 16 f.toNat z) ∧ Sf (fpP P) L L' ∧ L'.length = L.length := by
  obtain ⟨vs, q1, q2, q3⟩ := h.1.2.2.2.2.2.2.2
  obtain ⟨L1, e1, w1⟩ := ast_s q1 (i := f) hf.1 (by have := q2.1; omega) (V z)
  have hp : fpP P (pK P) := .inr (.inr (.inr (.inr (.inl (.inr (.inr rfl))))))
  have sr := set_row (z := z) (k := 16) (by decide) q2 (.inl rfl) (f := f.toNat) (by omega) q3
  refine ⟨L1, e1, ⟨⟨?_, ⟨h.lA.w1 q1 (show (100 : Nat) ≠ 13 ∧ (100 : Nat) ≠ 103 by decide) w1, h.lS.w1 q1 (show (100 : Nat) ≠ 13 ∧ (100 : Nat) ≠ 103 by decide) w1, h.lB.w1 q1 (show (100 : Nat) ≠ 13 ∧ (100 : Nat) ≠ 103 by decide) w1⟩, fun i y hy => ?_, fun i y hy => ?_, fun i y hy => ?_, (h.1.2.2.2.2.2.1.w1 q1 (by show (100 : Nat) ≠ _; decide) w1).uo (by decide) (by decide), (h.1.2.2.2.2.2.2.1.w1 q1 (by show (100 : Nat) ≠ _; decide) w1).uo (by decide) (by decide), ⟨_, w1.at, sr⟩⟩, ?_, by rw [lo_up (by decide)]; exact h.2.2.1, h.2.2.2⟩, Sf.refl.w w1 (.inl hp), w1.1⟩
  · have q := h.1.1
    rw [w1.ne (by intro e; rw [e, q1] at q; cases q), sg_up (by decide), pe_up (by decide), tm_up (by decide), lo_up (by decide)]
    exact q
  · have q := h.1.2.2.1 _ _ hy
    rw [w1.ne (by rintro rfl; rw [q1] at q; cases q), adV_k (by decide)]
    exact q
  · have q := h.1.2.2.2.1 _ _ hy
    rw [w1.ne (by rintro rfl; rw [q1] at q; cases q), stV_12 (by decide)]
    exact q
  · have q := h.1.2.2.2.2.1 _ _ hy
    rw [w1.ne (by rintro rfl; rw [q1] at q; cases q), sbV_14 (by decide)]
    exact q
  · rw [nA_up (by decide), nS_up (by decide), nB_up (by decide)]
    exact h.2.1
end Sets
section Close
variable {S : St} {L L' : List PC} {P : PA} {W : Vw}
theorem nz1 : i_nz 1 = 1 := by decide
/-- the stories of a closing form -/
theorem l_clS {f : Int} (hG : G3 W) {t : Nat} {L0 L1 : List PC} (h1 : HP L1 P W) (hs : Sf (fpP P) L0 L1) (ht : nCell + L0.length ≤ t) (hit : ItH L1 t (pS P).1 (pS P).2.2.1 0) :
    ∃ L2, lo2_LP_close_8 (pT P) f t FU (S, L1) = some ((S, L2), 0, 0) ∧ L2.length = L1.length ∧ HP L2 P (stN W f (nS W)) ∧ Sf (fpP P) L0 L2 := by
  have b := hG.1.z
  have hlen : ((xS P).length : Int) = nS W := h1.2.1.2.1
  have e0 : stN W f 0 = W := rfl
  obtain ⟨L2, e, l, k⟩ := fe_loop (body := fun go z => lb2_LP_close_8 (pT P) f t go z.1 z.2) (S := S) (a := (pS P).1) (r := (pS P).2.1) (t := t) (cp := (pS P).2.2.2.1) (m := (pS P).2.2.1) (xs := xS P) (fun (_ : Unit) z => z) (fun _ z => z) (fun _ s => s) (fun i _ K => HP K P (stN W f i) ∧ Sf (fpP P) L0 K ∧ ∃ vs, hp K t = some (14, vs))
    (fun i s K hK => hK.1.lS)
    (fun go s K hK hk hn => by
      show lb2_LP_close_8 (pT P) f t go S K = _
      unfold lb2_LP_close_8
      rw [if_pos hk, hn, bnO_s, if_neg Bool.false_ne_true])
    (fun go i s K x K1 hK h0 hx hk hn hnx hw => by
      obtain ⟨hK1, hK2, vs, hK3⟩ := hK
      have g1 : HP K1 P (stN W f i) := hK1.wo hK3 (by decide) hw
      have hl := (List.getElem?_eq_some_iff.mp hx).1
      have sm : Sm W (stN W f i) := stN_sm
      have hGi : G3 (stN W f i) := G3_stN hG (by omega)
      have hi : 0 ≤ i ∧ i < nS (stN W f i) := by rw [sm.1.2.1]; omega
      have hx1 := g1.1.2.2.2.1 _ _ hx
      obtain ⟨kk, f0, f1, f2, f3, f4, f5, f6⟩ := st_f hGi.1 hi hx1
      have s1 : Sf (fpP P) L0 K1 := hK2.w hw (.inr ht)
      have hfx : fpP P x := .inr (.inr (.inr (.inr (.inr (.inr (.inl (List.mem_of_getElem? hx)))))))
      have hxt : x ≠ t := by rintro rfl; rw [hw.at] at hx1; cases hx1
      have hst : stN W f (i + 1) = stS f i (stN W f i) := stN_s h0
      have hun : lb2_LP_close_8 (pT P) f t go S K = if at_ (stN W f i) 10 i ≤ tm (stN W f i) then go (S, K1) else (if hasPg (stN W f i) i f = true then bnO (pf K1 x 11 5 (V 0)) fun L18 => go (S, L18) else go (S, K1)) := by
        unfold lb2_LP_close_8
        rw [if_pos hk, hn, bnO_s, if_pos rfl, if_pos hk, hnx, bnO_s]
        show adC 0 0 _ = _
        rw [adC00]
        simp only [rfB_r, kk, eq_self, if_true, f4, bnO_s, g1.ti hGi.1, g1.k, l_touches g1 hGi.1 hi hx]
      by_cases c1 : at_ (stN W f i) 10 i ≤ tm (stN W f i)
      · refine ⟨K1, ?_, hw.1, rfl, ?_, s1, _, hw.at⟩
        · show lb2_LP_close_8 (pT P) f t go S K = go (S, K1)
          rw [hun, if_pos c1]
        · rw [hst]
          unfold stS laS
          rw [decide_eq_false (by omega), Bool.false_and, if_neg Bool.false_ne_true]
          exact g1
      · by_cases c2 : hasPg (stN W f i) i f = true
        · obtain ⟨K2, e2, w2⟩ := pf_s hx1 (f := 5) (Nat.le_of_ble_eq_true rfl) (V 0)
          refine ⟨K2, ?_, by rw [w2.1, hw.1], by rw [w2.ne (Ne.symm hxt)], ?_, s1.w w2 (.inl hfx), _, by rw [w2.ne (Ne.symm hxt)]; exact hw.at⟩
          · show lb2_LP_close_8 (pT P) f t go S K = go (S, K2)
            rw [hun, if_neg c1, if_pos c2, e2, bnO_s]
          · rw [hst]
            unfold stS laS
            rw [decide_eq_true (by omega), Bool.true_and, if_pos c2]
            exact g1.updS hx w2
        · refine ⟨K1, ?_, hw.1, rfl, ?_, s1, _, hw.at⟩
          · show lb2_LP_close_8 (pT P) f t go S K = go (S, K1)
            rw [hun, if_neg c1, if_neg c2]
          · rw [hst]
            unfold stS
            rw [if_neg (by rw [Bool.and_eq_true]; exact fun q => c2 q.2)]
            exact g1)
    (xS P).length FU 0 () L1 (by omega) (Int.le_refl _) (FU_big (by omega)) hit ⟨by rw [e0]; exact h1, hs, by obtain ⟨l, hl⟩ := hit; exact ⟨_, hl⟩⟩
  rw [hlen] at k
  exact ⟨L2, e, l, k.1, k.2.1⟩
/-- the first standby that fits -/
theorem l_repl {f p y : Int} {lr x t : Nat} {V0 : Vw} (hV : Val V0) (hp : 0 < p) {L0 : List PC} (ht : nCell + L0.length ≤ t) : ∀ (n N : Nat) (i : Int) (K : List PC), i + n = nB V0 → 0 ≤ i → n < N → HP K P V0 → Sf (fpP P) L0 K → ItH K t (pB P).1 (pB P).2.2.1 i → gfI K x 11 0 = some y → x ∈ xA P → (∀ j, 0 ≤ j → j < i → ¬ (at_ V0 13 j = 0 ∧ at_ V0 12 j = y)) →
    ∃ K', lp (fun go z => lb2_LP_close_171 (pT P) f p lr x t go z.1 z.2) N (S, K) = some ((S, K'), 0, 0) ∧ HP K' P (if fsB V0 y = -1 then V0 else up V0 13 (fsB V0 y).toNat p) ∧ Sf (fpP P) L0 K' ∧ K'.length = K.length := by
  intro n
  induction n with
  | zero =>
    intro N i K hi h0 hN hK hs hit hy hx hno
    obtain ⟨N, rfl⟩ : ∃ M, N = M + 1 := ⟨N - 1, by omega⟩
    have q := k_hasNext (S := S) hK.lB hit ⟨h0, by have := hK.2.1.2.2; show i ≤ ((xB P).length : Int); omega⟩
    rw [decide_eq_false (by have := hK.2.1.2.2; show ¬ i < ((xB P).length : Int); omega)] at q
    have e1 : fsB V0 y = -1 := by
      rcases fsB_spec hV (y := y) with e | ⟨e1, e2, e3⟩
      · exact e
      · exact absurd ⟨e2, e3⟩ (hno _ e1.1 (by omega))
    refine ⟨K, ?_, by rw [if_pos e1]; exact hK, hs, rfl⟩
    rw [lp_succ]
    show lb2_LP_close_171 (pT P) f p lr x t _ S K = _
    unfold lb2_LP_close_171
    rw [if_pos hit.k, q, bnO_s, if_neg Bool.false_ne_true]
  | succ n ih =>
    intro N i K hi h0 hN hK hs hit hy hx hno
    obtain ⟨N, rfl⟩ : ∃ M, N = M + 1 := ⟨N - 1, by omega⟩
    have hlen := hK.2.1.2.2
    have hib : 0 ≤ i ∧ i < nB V0 := by omega
    obtain ⟨z, hz⟩ : ∃ z, (xB P)[i.toNat]? = some z := ⟨_, List.getElem?_eq_getElem (by omega)⟩
    have q := k_hasNext (S := S) hK.lB hit ⟨h0, by show i ≤ ((xB P).length : Int); omega⟩
    rw [decide_eq_true (by show i < ((xB P).length : Int); omega)] at q
    have hkt := hit.k
    obtain ⟨K1, e1, w1⟩ := k_next (S := S) hK.lB hit h0 hz
    obtain ⟨l0, hl0⟩ := hit
    have g1 : HP K1 P V0 := hK.wo hl0 (by decide) w1
    have s1 : Sf (fpP P) L0 K1 := hs.w w1 (.inr ht)
    have hz1 := g1.1.2.2.2.2.1 _ _ hz
    obtain ⟨kk, f0, f5⟩ := sb_f hV hib hz1
    obtain ⟨ix, hix⟩ := List.mem_iff_getElem?.mp hx
    have hxK := hK.1.2.2.1 _ _ hix
    have hxt : x ≠ t := by rintro rfl; rw [hl0] at hxK; cases hxK
    have hy1 : gfI K1 x 11 0 = some y := by
      have e : lk K1 x = lk K x := by unfold lk; rw [w1.ne hxt]
      unfold gfI at hy ⊢
      rw [e]; exact hy
    have v := hV.2.2.2.1 i h0 hib.2
    rw [lp_succ]
    have hun : ∀ gg, lb2_LP_close_171 (pT P) f p lr x t gg S K = if 0 < at_ V0 13 i then gg (S, K1) else (if at_ V0 12 i = y then bnO (pf K1 z 11 5 (V p)) fun L70 => some ((S, L70), 0, 0) else gg (S, K1)) := fun gg => by
      unfold lb2_LP_close_171
      rw [if_pos hkt, q, bnO_s, if_pos rfl, if_pos hkt, e1, bnO_s]
      show adC 0 0 _ = _
      rw [adC00]
      simp only [rfB_r, kk, eq_self, if_true, f5, f0, bnO_s, hy1]
    have hrec := ih N (i + 1) K1 (by omega) (by omega) (by omega) g1 s1 ⟨_, w1.at⟩ hy1 hx
    have hun2 : ∀ (o : Option (LZ × Nat × Nat)), lb2_LP_close_171 (pT P) f p lr x t (lp (fun go z => lb2_LP_close_171 (pT P) f p lr x t go z.1 z.2) N) S K = o → (fun go z => lb2_LP_close_171 (pT P) f p lr x t go z.1 z.2) (lp (fun go z => lb2_LP_close_171 (pT P) f p lr x t go z.1 z.2) N) (S, K) = o := fun o h => h
    by_cases c1 : 0 < at_ V0 13 i
    · obtain ⟨K', r1, r2, r3, r4⟩ := hrec (fun j h2 h3 => by
        by_cases e : j = i
        · subst e; exact fun q => by omega
        · exact hno j h2 (by omega))
      exact ⟨K', hun2 _ (by rw [hun, if_pos c1]; exact r1), r2, r3, r4.trans w1.1⟩
    · by_cases c2 : at_ V0 12 i = y
      · obtain ⟨K2, e2, w2⟩ := pf_s hz1 (f := 5) (Nat.le_of_ble_eq_true rfl) (V p)
        have e3 : fsB V0 y = i := by
          have q := fstR_spec (p := fun b => decide (at_ V0 13 b = 0 ∧ at_ V0 12 b = y)) (n := (nB V0).toNat) (Int.le_refl 0)
          show fstR _ 0 (nB V0).toNat = i
          rcases q with ⟨q1, q2⟩ | ⟨q1, q2, q3, q4⟩
          · have := q2 i h0 (by omega)
            rw [decide_eq_true (show at_ V0 13 i = 0 ∧ at_ V0 12 i = y from ⟨by omega, c2⟩)] at this
            cases this
          · have a1 := of_decide_eq_true q3
            by_cases e : fstR (fun b => decide (at_ V0 13 b = 0 ∧ at_ V0 12 b = y)) 0 (nB V0).toNat = i
            · exact e
            · exfalso
              by_cases e2 : fstR (fun b => decide (at_ V0 13 b = 0 ∧ at_ V0 12 b = y)) 0 (nB V0).toNat < i
              · exact hno _ q1 e2 a1
              · have := q4 i h0 (by omega)
                rw [decide_eq_true (show at_ V0 13 i = 0 ∧ at_ V0 12 i = y from ⟨by omega, c2⟩)] at this
                cases this
        refine ⟨K2, hun2 _ (by rw [hun, if_neg c1, if_pos c2, e2, bnO_s]), ?_, s1.w w2 (.inl (.inr (.inr (.inr (.inr (.inr (.inr (.inr (List.mem_of_getElem? hz))))))))), by rw [w2.1, w1.1]⟩
        rw [e3, if_neg (by omega)]
        exact g1.updB hz w2
      · obtain ⟨K', r1, r2, r3, r4⟩ := hrec (fun j h2 h3 => by
          by_cases e : j = i
          · subst e; exact fun q => c2 q.2
          · exact hno j h2 (by omega))
        exact ⟨K', hun2 _ (by rw [hun, if_neg c1, if_neg c2]; exact r1), r2, r3, r4.trans w1.1⟩
end Close
