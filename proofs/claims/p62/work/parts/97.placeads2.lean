/-! placeAds: the two answers -/
section PlaceAds2
variable {W V : Vw} {S S' T0 T : St} {a b i j k n t : Int} {hs : Int → Vw} {w : Int → Int} {P : Int → Bool}
theorem fstP_spec (hV : Val W) : fstP W a 1 = -1 ∨ ((1 ≤ fstP W a 1 ∧ fstP W a 1 ≤ pgs W) ∧ reas W a (fstP W a 1) = 0) := by
  have b := hV.pg
  have e : fstP W a 1 = fstR (fun q => decide (reas W a q = 0)) 1 (pgs W + 1 - 1).toNat := rfl
  rw [e]
  rcases fstR_spec (p := fun q => decide (reas W a q = 0)) (n := (pgs W + 1 - 1).toNat) (i := 1) (by decide) with q | q
  · exact .inl q.1
  · have q3 := of_decide_eq_true q.2.2.1
    exact .inr ⟨⟨q.1, by have := q.2.1; omega⟩, q3⟩
def plS (w : Int → Int) (j : Int) (x : Int × Vw) : Int × Vw := if fstP x.2 (w j) 1 = -1 then x else (x.1 + 1, up x.2 6 (w j).toNat (fstP x.2 (w j) 1))
def plN (W : Vw) (w : Int → Int) (j : Int) : Int × Vw := itR (plS w) 0 j.toNat (0, W)
theorem plN_s (hi : 0 ≤ i) : plN W w (i + 1) = plS w i (plN W w i) := by
  unfold plN
  rw [show (i + 1).toNat = i.toNat + 1 by omega, itR_snoc, show (0 : Int) + (i.toNat : Int) = i by omega]
theorem plN_i (hG : Good W) (hi : 0 ≤ i ∧ i ≤ k) (hw : ∀ j, 0 ≤ j → j < k → 0 ≤ w j ∧ w j < nA W) : Good (plN W w i).2 ∧ N5 W (plN W w i).2 ∧ (0 ≤ (plN W w i).1 ∧ (plN W w i).1 ≤ i) ∧ ∀ (c : Nat) x, c < 6 → at_ (plN W w i).2 c x = at_ W c x := by
  have q := itR_inv (f := plS w) (n := i.toNat) (i := 0) (s := (0, W)) (I := fun j z => Good z.2 ∧ N5 W z.2 ∧ (0 ≤ z.1 ∧ z.1 ≤ j) ∧ ∀ (c : Nat) x, c < 6 → at_ z.2 c x = at_ W c x) (fun j z j1 j2 h => by
    obtain ⟨h1, h2, h3, h4⟩ := h
    have wj := hw j j1 (by omega)
    rcases fstP_spec (W := z.2) (a := w j) h1.1 with d | ⟨d1, d2⟩
    · have e : plS w j z = z := by unfold plS; rw [if_pos d]
      rw [e]
      exact ⟨h1, h2, by omega, h4⟩
    · have e : plS w j z = (z.1 + 1, up z.2 6 (w j).toNat (fstP z.2 (w j) 1)) := by unfold plS; rw [if_neg (by omega)]
      rw [e]
      refine ⟨Good_put h1 (by rw [h2.1]; exact wj) d2, h2.tr (N5_up (by decide)), ⟨by show 0 ≤ z.1 + 1; omega, by show z.1 + 1 ≤ j + 1; omega⟩, fun c x hc => ?_⟩
      show at_ (up z.2 6 (w j).toNat (fstP z.2 (w j) 1)) c x = _
      rw [at_upn (by omega)]
      exact h4 c x hc) ⟨hG, ⟨rfl, rfl, rfl, rfl, rfl⟩, ⟨Int.le_refl _, Int.le_refl _⟩, fun _ _ _ => rfl⟩
  rw [show (0 : Int) + (i.toNat : Int) = i by omega] at q
  exact q
theorem S_place (h : PT S 5 W) (hG : Good W) (hk : 0 ≤ k ∧ k ≤ nA W) (hw : ∀ j, 0 ≤ j → j < k → 0 ≤ w j ∧ w j < nA W) (hr : ∀ j : Int, 0 ≤ j → j < k → g S 506 j.toNat = w j) : ∃ S', lo_Searches_placeFreeAds_52 505 k FU (0, 0, S) = some ((plN W w k).1, S') ∧ Off S S' 7 33 ∧ PT S' 5 (plN W w k).2 := by
  have b := hG.1.z
  obtain ⟨⟨c, S'⟩, e, hI⟩ := lp_inv (body := fun go p0 => lb_Searches_placeFreeAds_52 505 k go p0.1 p0.2.1 p0.2.2) (fun i (s : Int × St) => (s.1, i, s.2)) (fun s => s)
    (fun i s => 0 ≤ i ∧ s.1 = (plN W w i).1 ∧ Off S s.2 7 33 ∧ PT s.2 5 (plN W w i).2) k
    (fun go i s hI hi => by
      show lb_Searches_placeFreeAds_52 505 k go s.1 i s.2 = _
      unfold lb_Searches_placeFreeAds_52
      rw [if_pos hi])
    (fun go i s hI hi => by
      obtain ⟨h0, h1, h2, h3⟩ := hI
      have m := plN_i hG (i := i) ⟨h0, by omega⟩ hw
      have wi := hw i h0 hi
      have sn := plN_s (W := W) (w := w) h0
      rw [sn]
      obtain ⟨z, hz⟩ : ∃ z, z = plN W w i := ⟨_, rfl⟩
      rw [← hz] at m h1 h3 ⊢
      have er : g s.2 506 i.toNat = w i := by rw [h2.rd (by omega)]; exact hr i h0 hi
      have wz : 0 ≤ w i ∧ w i < nA z.2 := by rw [m.2.1.1]; exact wi
      have ef := P_firstFor h3 wz (p := 1) in1
      have pb := m.1.1.pg
      rcases fstP_spec (W := z.2) (a := w i) m.1.1 with d | ⟨d1, d2⟩
      · have es : plS w i z = z := by unfold plS; rw [if_pos d]
        rw [es]
        refine ⟨s, ?_, by omega, h1, h2, h3⟩
        show lb_Searches_placeFreeAds_52 505 k go s.1 i s.2 = go (s.1, i + 1, s.2)
        unfold lb_Searches_placeFreeAds_52
        rw [if_neg (by omega), if_pos (by omega : 0 ≤ i ∧ i < 40), tg_505_0, tg_505_2, er, ef, bnO_s, if_pos d, nm_x, wr_s (z := i + 1) (by omega) (by omega)]
      · have d0 : fstP z.2 (w i) 1 ≠ -1 := by omega
        have es : plS w i z = (z.1 + 1, up z.2 6 (w i).toNat (fstP z.2 (w i) 1)) := by unfold plS; rw [if_neg d0]
        have hG' := Good_put m.1 wz d2
        have v : vC (u s.2 14 (w i).toNat (fstP z.2 (w i) 1)) 6 = up z.2 6 (w i).toNat (fstP z.2 (w i) 1) := K_vA (k := 6) (by decide) h3.pl.1.2.1 wz ⟨by omega, by omega⟩
        have o : Off s.2 (u s.2 14 (w i).toNat (fstP z.2 (w i) 1)) 7 28 := Off.wt (by omega) (by omega)
        obtain ⟨S3, e3, o3, p3⟩ := P_recount (h3.pl.upd (by decide) v hG'.1 o) hG'.2.1
        rw [es]
        refine ⟨(s.1 + 1, S3), ?_, by omega, by rw [h1], (h2.trans (o.mono (by omega) (by omega))).trans (o3.mono (by omega) (by omega)), p3⟩
        show lb_Searches_placeFreeAds_52 505 k go s.1 i s.2 = go (s.1 + 1, i + 1, S3)
        unfold lb_Searches_placeFreeAds_52
        rw [if_neg (by omega), if_pos (by omega : 0 ≤ i ∧ i < 40), tg_505_0, tg_505_2, er, ef, bnO_s, if_neg d0, if_pos (by omega : 0 ≤ w i ∧ w i < 40), nm_x, tg_505_1, tg_6_0, tg_7_6, e3, bnO_s, nm_x, nm_x, wr_s (z := s.1 + 1) (by omega) (by omega), wr_s (z := i + 1) (by omega) (by omega)])
    (k - 0).toNat FU 0 (0, S) ⟨Int.le_refl _, rfl, Off.refl, h⟩ hk.1 rfl (FU_lt (by omega))
  have hc : c = (plN W w k).1 := hI.2.1
  refine ⟨S', ?_, hI.2.2⟩
  rw [← hc]
  exact e
def AskR (W : Vw) (T : St) (w : Int → Int) (k t : Int) : Prop := ∀ x : Int, 0 ≤ x → x < 40 → (g T 516 x.toNat = 0 ↔ ∃ i, (t ≤ i ∧ i < k) ∧ w i = x)
end PlaceAds2

