/-! eviction, cheapestPage: the calls -/
section Evict5
variable {S T : St} {W : Vw} {n : Int} {hs : Int → Vw} {a p : Int}
def cpF (e : Int → Int) (p : Int) (z : Int × Int) : Int × Int := if e p = -1 then z else if e p < z.2 then (p, e p) else z
theorem cp_class (h : PT S 5 W) (hG : Good W) (ha : 0 ≤ a ∧ a < nA W) {e : Int → Int} (he : ∀ p, 1 ≤ p → p ≤ pgs W → EvV W a p (e p)) : ∃ T, fn_Searches_cheapestFor 505 a S = some ((itR (cpF e) 1 (pgs W + 1 - 1).toNat (-1, 1000000)).1, T) ∧ Off S T 507 508 := by
  have b := h.pl.b
  obtain ⟨s', es, hI⟩ := lp_inv (body := fun go p0 => lb_Searches_cheapestFor_7 505 a go p0.1 p0.2.1 p0.2.2.1 p0.2.2.2) (fun i (s : Int × Int × St) => (s.1, s.2.1, i, s.2.2)) (fun s => (s.1, s.2.2))
    (fun i s => 1 ≤ i ∧ Off S s.2.2 507 508 ∧ s.1 = (itR (cpF e) 1 (i - 1).toNat (-1, 1000000)).1 ∧ ((itR (cpF e) 1 (i - 1).toNat (-1, 1000000)).1 ≠ -1 → s.2.1 = (itR (cpF e) 1 (i - 1).toNat (-1, 1000000)).2) ∧ ((itR (cpF e) 1 (i - 1).toNat (-1, 1000000)).1 = -1 → (itR (cpF e) 1 (i - 1).toNat (-1, 1000000)).2 = 1000000)) (pgs W + 1)
    (fun go i s hI hi => by
      show lb_Searches_cheapestFor_7 505 a go s.1 s.2.1 i s.2.2 = _
      have e7 : g s.2.2 5 1 = pgs W := (h.off hI.2.1 (by omega)).pl.gp
      unfold lb_Searches_cheapestFor_7
      rw [tg_505_0, e7, if_pos (by omega)])
    (fun go i s hI hi => by
      obtain ⟨i0, oS, h1, h2, h3⟩ := hI
      have hS := h.off oS (by omega)
      have e7 : g s.2.2 5 1 = pgs W := hS.pl.gp
      obtain ⟨v, T, e1, o1, ev⟩ := ev_class hS hG ha (p := i) ⟨i0, by omega⟩
      have vb := ev.bd hG
      have ve : e i = v := (he i i0 (by omega)).uni hG ev
      obtain ⟨z, hz⟩ : ∃ z, z = itR (cpF e) 1 (i - 1).toNat (-1, 1000000) := ⟨_, rfl⟩
      have es : itR (cpF e) 1 (i + 1 - 1).toNat (-1, 1000000) = cpF e i z := by
        rw [show (i + 1 - 1).toNat = (i - 1).toNat + 1 by omega, itR_snoc, ← hz, show (1 : Int) + (((i - 1).toNat : Nat) : Int) = i by omega]
      rw [← hz] at h1 h2 h3
      rw [es]
      have body : ∀ r, (r = if v = -1 then go (s.1, s.2.1, i + 1, T) else if s.1 = -1 then go (i, v, i + 1, T) else if s.2.1 ≤ v then go (s.1, s.2.1, i + 1, T) else go (i, v, i + 1, T)) → lb_Searches_cheapestFor_7 505 a go s.1 s.2.1 i s.2.2 = r := fun r hr => by
        rw [hr]
        unfold lb_Searches_cheapestFor_7
        rw [tg_505_0, e7, if_neg (by omega : ¬ pgs W < i), e1, bnO_s]
        simp only [nm_x, wr_s (z := i + 1) (by omega) (by omega)]
      by_cases c1 : v = -1
      · have ec : cpF e i z = z := by unfold cpF; rw [ve, if_pos c1]
        rw [ec]
        exact ⟨(s.1, s.2.1, T), body _ (by rw [if_pos c1]), by omega, oS.trans o1, h1, h2, h3⟩
      · by_cases c2 : s.1 = -1
        · have z2 := h3 (by omega)
          have ec : cpF e i z = (i, v) := by unfold cpF; rw [ve, if_neg c1, if_pos (by omega)]
          rw [ec]
          exact ⟨(i, v, T), body _ (by rw [if_neg c1, if_pos c2]), by omega, oS.trans o1, rfl, fun _ => rfl, fun q => by have q' : i = -1 := q; omega⟩
        · have z2 := h2 (by omega)
          by_cases c3 : s.2.1 ≤ v
          · have ec : cpF e i z = z := by unfold cpF; rw [ve, if_neg c1, if_neg (by omega)]
            rw [ec]
            exact ⟨(s.1, s.2.1, T), body _ (by rw [if_neg c1, if_neg c2, if_pos c3]), by omega, oS.trans o1, h1, h2, h3⟩
          · have ec : cpF e i z = (i, v) := by unfold cpF; rw [ve, if_neg c1, if_pos (by omega)]
            rw [ec]
            exact ⟨(i, v, T), body _ (by rw [if_neg c1, if_neg c2, if_neg c3]), by omega, oS.trans o1, rfl, fun _ => rfl, fun q => by have q' : i = -1 := q; omega⟩)
    (pgs W + 1 - 1).toNat FU 1 (-1, 0, S) ⟨Int.le_refl _, Off.refl, rfl, fun q => absurd rfl q, fun _ => rfl⟩ (by omega) rfl (FU_lt (by omega))
  refine ⟨s'.2.2, ?_, hI.2.1⟩
  have es' : lo_Searches_cheapestFor_7 505 a FU (-1, 0, 1, S) = some (s'.1, s'.2.2) := es
  unfold fn_Searches_cheapestFor
  rw [es', bnO_s, ← hI.2.2.1]
theorem cp_bd {e : Int → Int} {N : Nat} (hN : N ≤ 64) : -1 ≤ (itR (cpF e) 1 N (-1, 1000000)).1 ∧ (itR (cpF e) 1 N (-1, 1000000)).1 ≤ 64 := by
  have q := itR_inv (f := cpF e) (n := N) (i := 1) (s := (-1, 1000000)) (I := fun _ s => -1 ≤ s.1 ∧ s.1 ≤ 64) (fun j s j1 j2 h => by
    show -1 ≤ (cpF e j s).1 ∧ (cpF e j s).1 ≤ 64
    unfold cpF
    split
    · exact h
    · split
      · show -1 ≤ j ∧ j ≤ 64; omega
      · exact h) ⟨Int.le_refl _, by decide⟩
  exact q
end Evict5

