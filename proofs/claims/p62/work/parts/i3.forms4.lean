/-! FORMS: all forms -/
section Forms4
variable {S : St} {L0 K : List PC} {P : PA} {W : Vw} {f : Int}
def nxP (W : Vw) (f : Int) : Int := itR (nxS W) 0 f.toNat (-1)
theorem nxP_s (hf : 0 ≤ f) : nxP W (f + 1) = nxS W f (nxP W f) := by
  unfold nxP
  rw [show (f + 1).toNat = f.toNat + 1 by omega, itR_snoc, show (0 : Int) + (f.toNat : Int) = f by omega]
theorem nxP_b (hf : 0 ≤ f) : nxP W f = -1 ∨ (0 ≤ nxP W f ∧ nxP W f < f) := by
  have q := itR_inv (f := nxS W) (n := f.toNat) (i := 0) (s := -1) (I := fun j s => s = -1 ∨ (0 ≤ s ∧ s < j)) (fun j s j1 j2 h => by
    show nxS W j s = -1 ∨ (0 ≤ nxS W j s ∧ nxS W j s < j + 1)
    unfold nxS
    split
    · split
      · omega
      · split
        · omega
        · split <;> omega
    · omega) (.inl rfl)
  rw [show (0 : Int) + (f.toNat : Int) = f by omega] at q
  exact q
def qF (W : Vw) (f : Int) (j : Nat) : Int := q_form W f j
theorem qF_in (hV : Val W) (hf : 0 ≤ f ∧ f < frm W) (j : Nat) : inR (qF W f j) := by
  have bz := hV.z
  have v := hV.2.2.2.2 f hf.1 (by have : frm W = 2 * sg W := rfl; omega)
  unfold qF q_form
  by_cases c0 : (j : Int) = 0
  · rw [if_pos c0]; unfold inR; omega
  · rw [if_neg c0]
    by_cases c1 : (j : Int) = 1
    · rw [if_pos c1]; unfold inR; omega
    · rw [if_neg c1]
      by_cases c2 : (j : Int) = 2
      · rw [if_pos c2]; unfold inR; omega
      · rw [if_neg c2]
        by_cases c3 : (j : Int) = 3
        · rw [if_pos c3]; unfold inR; omega
        · rw [if_neg c3]
          by_cases c4 : (j : Int) = 4
          · rw [if_pos c4]; exact wr_in _
          · rw [if_neg c4]
            by_cases c5 : (j : Int) = 5
            · rw [if_pos c5]; exact wr_in _
            · rw [if_neg c5]
              by_cases c6 : (j : Int) = 6
              · rw [if_pos c6]; exact wr_in _
              · rw [if_neg c6]
                split
                · split <;> exact inRk rfl
                · exact inRk rfl
theorem l_fm258 {C T : Nat} {R : (Bool × LZ) ⊕ (Int × LZ) → Prop} {go : Int × Int × LZ → Option (((Bool × LZ) ⊕ (Int × LZ)) × Nat × Nat)} {c4 c9 : Nat} {z7 : Int} (h0 : HP L0 P W) (hG : Good W) (hT : PT S 5 W) (hf : 0 ≤ f ∧ f < frm W) (hc9 : nCell + L0.length ≤ c9) (hne : c4 ≠ c9) (hs : Sf F0_ L0 K) (h4 : RowI K c4 8 (lfR W f.toNat (lefF W f))) (h9 : RowI K c9 9 (prF (qF W f) 7)) (hz : z7 = if hasC W f = true then 1 else 0)
    (hgo : ∀ K', Sf F0_ L0 K' → RowI K' c4 8 (lfR W f.toNat (lefF W f)) → K'.length = K.length → Ok (go (nxP W (f + 1), f + 1, (S, K'))) C T R) :
    Ok (jf2_Law_forms_258_13 (pT P) c4 go (nxP W f) f (pe W / 2) (rvOf W f) z7 7 c9 c9 S K) (C + 12) (T + 72) R := by
  have hV := hG.1
  have bz := hV.z
  have ef : frm W = 2 * sg W := rfl
  have v := hV.2.2.2.2 f hf.1 (by omega)
  have i1 : wr (f + 1) = f + 1 := wr_s (by omega) (by omega)
  obtain ⟨K1, e1, r1, cc1, w1⟩ := h9.nxt (w := 7) (z := z7) rfl (by decide) (by rw [hz]; rfl)
  obtain ⟨K2, e2, r2, cc2, w2⟩ := r1.nxt (w := 8) (z := -1) rfl (by decide) rfl
  have s2 : Sf F0_ L0 K2 := (hs.w w1 (.inr hc9)).w w2 (.inr hc9)
  have h42 := (h4.w1 w1 hne).w1 w2 hne
  have h2 := h0.sf0 s2
  have r9 : RowI K2 c9 9 (qF W f) := r2.eq (fun w hw => if_pos hw)
  have q := l_fm269 (a2 := nxP W f) (a6 := pe W / 2) (a8 := rvOf W f) (c4 := c4) (P := P) hG hT hf r9 (fun w _ => ⟨rfl, qF_in hV hf w⟩) 9 FU 0 rfl (FU_big (by decide))
  unfold jf2_Law_forms_258_13
  rw [e1, bnO_s, e2, bnO_s]
  refine Ok.bindT (C1 := 9) (T1 := 54) (Q := fun e => e = (S, K2)) (q.mono (by omega) (by omega) (fun v z => ⟨_, z, rfl⟩)) (by omega) (by omega) ?_
  rintro e rfl
  dsimp only
  have ce := cnT_all hV hf
  have k1 : getI (kth (fmC W f) (pe W / 2) 1 (pgs W).toNat) = -1 := kth_none (.inr (by rw [ce]; exact Int.le_refl _))
  have k2 : getI (kth (fmC W f) (-1) 1 (pgs W).toNat) = -1 := kth_none (.inl (by decide))
  rw [cl_pageOf hT hG hf (by omega), k1, bnO_s]
  dsimp only
  rw [if_pos rfl]
  refine Ok.ad (c := 1) (s := 6) (by omega) (by omega) ?_
  rw [if_pos rfl, cl_pageOf hT hG hf (by omega), k2, bnO_s]
  dsimp only
  rw [if_pos rfl]
  refine Ok.ad (c := 1) (s := 6) (by omega) (by omega) ?_
  rw [if_pos rfl, c_revenueOf hT hG (by unfold inR; omega) hf, bnO_s]
  dsimp only
  rw [if_pos rfl]
  refine Ok.ad (c := 1) (s := 6) (by omega) (by omega) ?_
  rw [if_pos rfl, h2.fP, bnO_s, rfB_r, h2.pr hV ⟨hf.1, by omega⟩, bnO_s]
  have g := hgo K2 s2 h42 (by rw [w2.1, w1.1])
  rw [nxP_s hf.1] at g
  unfold nxS at g
  have fin : ∀ z, Ok (go (z, f + 1, (S, K2))) C T R → Ok (nm (wr (f + 1)) fun v101 => go (z, v101, (S, K2))) (C + 12 - 9 - 1 - 1 - 1) (T + 72 - 54 - 6 - 6 - 6) R := fun z hz => by
    rw [nm_x, i1]
    exact hz.mono (by omega) (by omega) (fun _ z => z)
  by_cases c1 : at_ W 15 f = 0
  · rw [if_pos c1] at g
    rw [if_pos c1, h2.fK, bnO_s, rfB_r, h2.cl hV ⟨hf.1, by omega⟩, bnO_s]
    by_cases c2 : at_ W 16 f = -1
    · rw [if_pos c2] at g
      rw [if_pos (by omega)]
      exact fin _ g
    · rw [if_neg c2] at g
      rw [if_neg (by omega)]
      by_cases c3 : nxP W f = -1
      · rw [if_pos c3] at g
        rw [if_pos (by omega)]
        exact fin _ g
      · rw [if_neg c3] at g
        have nb := (nxP_b (W := W) hf.1).resolve_left c3
        rw [if_neg (by omega), bnO_s, rfB_r, h2.cl hV ⟨hf.1, by omega⟩, bnO_s, bnO_s, rfB_r, h2.cl hV ⟨nb.1, by omega⟩, bnO_s]
        by_cases c5 : at_ W 16 (nxP W f) ≤ at_ W 16 f
        · rw [if_pos c5] at g
          rw [if_pos c5]
          exact fin _ g
        · rw [if_neg c5] at g
          rw [if_neg c5]
          exact fin _ g
  · rw [if_neg c1] at g
    rw [if_neg c1]
    exact fin _ g
theorem l_fm202 {C T : Nat} {R : (Bool × LZ) ⊕ (Int × LZ) → Prop} {go : Int × Int × LZ → Option (((Bool × LZ) ⊕ (Int × LZ)) × Nat × Nat)} {c4 c9 : Nat} {z1 : Int} (h0 : HP L0 P W) (hG : Good W) (hT : PT S 5 W) (hf : 0 ≤ f ∧ f < frm W) (hc9 : nCell + L0.length ≤ c9) (hne : c4 ≠ c9) (hs : Sf F0_ L0 K) (h4 : RowI K c4 8 (lfR W f.toNat (lefF W f))) (h9 : RowI K c9 9 (prF (qF W f) 1)) (hz : z1 = at_ W 15 f) (hK : K.length < 600000000)
    (hgo : ∀ K', Sf F0_ L0 K' → RowI K' c4 8 (lfR W f.toNat (lefF W f)) → K'.length = K.length + 4 → Ok (go (nxP W (f + 1), f + 1, (S, K'))) C T R) :
    Ok (jf2_Law_forms_202_13 (pT P) c4 go (nxP W f) f (pe W / 2) (adsF W f) (rvOf W f) z1 1 c9 c9 S K) (C + 16) (T + 88) R := by
  have hV := hG.1
  have bz := hV.z
  have ef : frm W = 2 * sg W := rfl
  have v := hV.2.2.2.2 f hf.1 (by omega)
  obtain ⟨K1, e1, r1, cc1, w1⟩ := h9.nxt (w := 1) (z := z1) rfl (by decide) (by rw [hz]; rfl)
  have s1 := hs.w w1 (.inr hc9)
  have h1 := h0.sf0 s1
  have a1 := h4.w1 w1 hne
  obtain ⟨K2, e2, r2, cc2, w2⟩ := r1.nxt (w := 2) (z := at_ W 16 f) rfl (by decide) rfl
  have a2 := a1.w1 w2 hne
  obtain ⟨K3, e3, r3, cc3, w3⟩ := r2.nxt (w := 3) (z := pe W / 2) rfl (by decide) rfl
  have s3 := (s1.w w2 (.inr hc9)).w w3 (.inr hc9)
  have a3 := a2.w1 w3 hne
  have hal := a3.at (w := f) ⟨hf.1, by omega⟩ (by unfold lfR; rw [if_pos rfl]; exact wr_in _)
  have ew : lfR W f.toNat (lefF W f) f.toNat = lefF W f := if_pos rfl
  rw [ew] at hal
  obtain ⟨K4, e4, r4, cc4, w4⟩ := r3.nxt (w := 4) (z := lefF W f) rfl (by decide) rfl
  obtain ⟨K5, e5, r5, cc5, w5⟩ := r4.nxt (w := 5) (z := adsF W f) rfl (by decide) rfl
  have s5 := (s3.w w4 (.inr hc9)).w w5 (.inr hc9)
  have a5 := (a3.w1 w4 hne).w1 w5 hne
  have h5 := h0.sf0 s5
  have len5 : K5.length = K.length := by rw [w5.1, w4.1, w3.1, w2.1, w1.1]
  obtain ⟨K6, e6, l6, s6⟩ := l_late (S := S) h5 hV (f := f) (by omega)
  have r6 := r5.sf0 s6
  have a6 := a5.sf0 s6
  obtain ⟨K7, e7, r7, cc7, w7⟩ := r6.nxt (w := 6) (z := latF W f) rfl (by decide) rfl
  have s7 := (s5.trans s6).w w7 (.inr hc9)
  have a7 := a6.w1 w7 hne
  have h7 := h0.sf0 s7
  have len7 := w7.1
  obtain ⟨K8, e8, l8, s8⟩ := l_hasColor (S := S) h7 hV (f := f) (by omega)
  unfold jf2_Law_forms_202_13
  rw [e1, bnO_s, h1.fK, bnO_s, rfB_r, h1.cl hV ⟨hf.1, by omega⟩, bnO_s, e2, bnO_s, e3, bnO_s, hal, bnO_s, e4, bnO_s, e5, bnO_s, if_pos h5.k, e6, bnO_s]
  refine Ok.ad (c := 2) (s := 8) (by omega) (by omega) ?_
  dsimp only
  rw [e7, bnO_s, if_pos h7.k, e8, bnO_s]
  refine Ok.ad (c := 2) (s := 8) (by omega) (by omega) ?_
  dsimp only
  have r8 := r7.sf0 s8
  have a8 := a7.sf0 s8
  have s9 := s7.trans s8
  have g : ∀ z7, z7 = (if hasC W f = true then (1 : Int) else 0) → Ok (jf2_Law_forms_258_13 (pT P) c4 go (nxP W f) f (pe W / 2) (rvOf W f) z7 7 c9 c9 S K8) (C + 12) (T + 72) R := fun z7 hz7 => l_fm258 h0 hG hT hf hc9 hne s9 a8 r8 hz7 (fun K' q1 q2 q3 => hgo K' q1 q2 (by omega))
  by_cases c : hasC W f = true
  · rw [if_pos c] at g
    rw [if_pos c]
    exact (g 1 rfl).mono (by omega) (by omega) (fun _ z => z)
  · rw [if_neg c] at g
    rw [if_neg c]
    exact (g 0 rfl).mono (by omega) (by omega) (fun _ z => z)
theorem l_fm13 {c4 : Nat} (h0 : HP L0 P W) (hG : Good W) (hT : PT S 5 W) (hc4 : nCell + L0.length ≤ c4) :
    ∀ (n N : Nat) (f : Int) (K : List PC), f + n = frm W → 0 ≤ f → n < N → Sf F0_ L0 K → RowI K c4 8 (lfR W f.toNat 0) → K.length + 200 * n < 500000000 →
    Ok (lp (fun go q => lb2_Law_forms_13 (pT P) c4 go q.1 q.2.1 q.2.2.1 q.2.2.2) N (nxP W f, f, (S, K))) (49 * n) (281 * n) (fun v => ∃ K', v = .inr (nxt W, (S, K')) ∧ Sf F0_ L0 K' ∧ RowI K' c4 8 (fun j => if (j : Int) < frm W then lefF W j else 0) ∧ K'.length ≤ K.length + 200 * n)
  | 0, N + 1, f, K, hk, hf0, _, hs, hr, hL => by
    have hV := hG.1
    have bz := hV.z
    have ef : frm W = 2 * sg W := rfl
    have h := h0.sf0 hs
    rw [lp_succ]
    show Ok (lb2_Law_forms_13 (pT P) c4 _ (nxP W f) f S K) _ _ _
    unfold lb2_Law_forms_13
    rw [h.gg hV, bnO_s, nm_x, wr_s (z := 2 * sg W) (by omega) (by omega), if_pos (by omega)]
    refine Ok.ret ⟨K, ?_, hs, hr.eq (fun j _ => ?_), Nat.le_refl _⟩
    · unfold nxP nxt
      rw [show f.toNat = (frm W).toNat by omega]
    · unfold lfR
      by_cases c : j = f.toNat
      · rw [if_pos c, if_neg (by omega)]
      · rw [if_neg c]
        by_cases d : j < f.toNat
        · rw [if_pos d, if_pos (by omega)]
        · rw [if_neg d, if_neg (by omega)]
  | n + 1, N + 1, f, K, hk, hf0, hN, hs, hr, hL => by
    have hV := hG.1
    have bz := hV.z
    have pb := hV.pg
    have ef : frm W = 2 * sg W := rfl
    have hf : 0 ≤ f ∧ f < frm W := by omega
    have v := hV.2.2.2.2 f hf.1 (by omega)
    have h := h0.sf0 hs
    have c8 := cntP_8' hV hf
    have q := l_fm36 (S := S) (a2 := nxP W f) h0 hG hT hf hc4 (pgs W).toNat FU 1 K (by omega) (Int.le_refl _) (FU_big (by omega)) hs hr (by omega)
    have z1 : wr (pgA W f 1 (fun _ => 1)) = 0 := by rw [pgA_1 hV]; rfl
    have z2 : wr (pgA W f 1 (at_ W 4)) = 0 := by rw [pgA_1 hV]; rfl
    rw [z1, z2] at q
    have ih := l_fm13 h0 hG hT hc4 n N (f + 1)
    rw [lp_succ]
    show Ok (lb2_Law_forms_13 (pT P) c4 _ (nxP W f) f S K) _ _ _
    unfold lb2_Law_forms_13
    rw [h.gg hV, bnO_s, nm_x, wr_s (z := 2 * sg W) (by omega) (by omega), if_neg (by omega)]
    refine Ok.bindT (C1 := 32) (T1 := 184) (Q := fun e => ∃ K', e = (pe W / 2, adsF W f, rvOf W f, (S, K')) ∧ Sf F0_ L0 K' ∧ RowI K' c4 8 (lfR W f.toNat (lefF W f)) ∧ K'.length ≤ K.length + 192) (q.mono (by omega) (by omega) (fun v z => ?_)) (by omega) (by omega) ?_
    · obtain ⟨K', y1, y2, y3, y4⟩ := z
      exact ⟨_, y1, K', rfl, y2, y3, by omega⟩
    rintro e ⟨K1, rfl, s1, r1, l1⟩
    dsimp only
    obtain ⟨n2, r2⟩ := RowI.new (K := K1) (m := 9) (by omega)
    have len2 : (K1 ++ [(100, List.replicate 9 (Value.int 0))]).length = K1.length + 1 := n2.2.1
    have s2 : Sf F0_ L0 (K1 ++ [(100, List.replicate 9 (Value.int 0))]) := s1.n n2
    have h2 := h0.sf0 s2
    have a2 := r1.sf0 n2.sf0
    have hc9 : nCell + L0.length ≤ nCell + K1.length := by have := s1.1; omega
    have hne : c4 ≠ nCell + K1.length := by have := r1.lt; omega
    have r2' : RowI (K1 ++ [(100, List.replicate 9 (Value.int 0))]) (nCell + K1.length) 9 (prF (qF W f) 0) := r2.eq (fun _ _ => rfl)
    obtain ⟨K3, e3, r3, cc3, w3⟩ := r2'.nxt (w := 0) (z := at_ W 14 f) rfl (by decide) rfl
    have s3 : Sf F0_ L0 K3 := s2.w w3 (.inr hc9)
    have h3 := h0.sf0 s3
    have a3 := a2.w1 w3 hne
    have len3 := w3.1
    rw [if_pos (by decide), if_pos (by omega), show (9 : Int).toNat = 9 from rfl, nw_x]
    refine Ok.ad (c := 1) (s := 9) (by omega) (by omega) ?_
    show Ok (bnO (gfV (K1 ++ [(100, List.replicate 9 (Value.int 0))]) (pT P) 12 7) _) _ _ _
    rw [h2.fC, bnO_s, rfB_r, h2.co hV ⟨hf.1, by omega⟩, bnO_s]
    have tail : ∀ z, z = at_ W 15 f → Ok (jf2_Law_forms_202_13 (pT P) c4 (lp (fun go q => lb2_Law_forms_13 (pT P) c4 go q.1 q.2.1 q.2.2.1 q.2.2.2) N) (nxP W f) f (pe W / 2) (adsF W f) (rvOf W f) z 1 (nCell + K1.length) (nCell + K1.length) S K3) (49 * (n + 1) - 32 - 1) (281 * (n + 1) - 184 - 9) (fun v => ∃ K', v = .inr (nxt W, (S, K')) ∧ Sf F0_ L0 K' ∧ RowI K' c4 8 (fun j => if (j : Int) < frm W then lefF W j else 0) ∧ K'.length ≤ K.length + 200 * (n + 1)) := fun z hz => by
      refine (l_fm202 (C := 49 * n) (T := 281 * n) h0 hG hT hf hc9 hne s3 a3 r3 hz (by omega) (fun K' y1 y2 y3 => ?_)).mono (by omega) (by omega) (fun _ z => z)
      refine (ih K' (by omega) (by omega) (by omega) y1 (y2.eq (fun j _ => ?_)) (by omega)).mono (Nat.le_refl _) (Nat.le_refl _) (fun v z => ?_)
      · unfold lfR
        by_cases c : j = f.toNat
        · rw [if_pos c, if_neg (by omega), if_pos (by omega), c, Int.toNat_of_nonneg hf.1]
        · rw [if_neg c]
          by_cases d : j < f.toNat
          · rw [if_pos d, if_neg (by omega), if_pos (by omega)]
          · rw [if_neg d]
            by_cases d2 : j = (f + 1).toNat
            · rw [if_pos d2]
            · rw [if_neg d2, if_neg (by omega)]
      · obtain ⟨K2, x1, x2, x3, x4⟩ := z
        exact ⟨K2, x1, x2, x3, by omega⟩
    rcases v.1 with c | c
    · rw [c] at e3
      rw [if_pos c, e3, bnO_s, h3.fP, bnO_s, rfB_r, h3.pr hV ⟨hf.1, by omega⟩, bnO_s]
      rcases v.2.1 with d | d
      · rw [if_pos d]
        exact tail 0 d.symm
      · rw [if_neg (by omega)]
        exact tail 1 d.symm
    · rw [c] at e3
      rw [if_neg (by omega), e3, bnO_s, h3.fP, bnO_s, rfB_r, h3.pr hV ⟨hf.1, by omega⟩, bnO_s]
      rcases v.2.1 with d | d
      · rw [if_pos d]
        exact tail 0 d.symm
      · rw [if_neg (by omega)]
        exact tail 1 d.symm
end Forms4
