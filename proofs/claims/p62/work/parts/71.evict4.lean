/-! eviction and cheapestPage, the end -/
section Evict4
variable {S T : St} {W : Vw} {n : Int} {hs : Int → Vw} {a p : Int}
def slM (W : Vw) (a p : Int) (sel : Int → Bool) (w : Int → Int) : Int := sumR (fun x => if (inP W a p x && !rvG W a x) = true then (if sel x = true then w x else 0) else 0) 0 (nA W).toNat
def Ach (W : Vw) (a p x : Int) : Prop := ∃ sel : Int → Bool, at_ W 0 a ≤ lefO W p a (-1) + (sR2 (inP W a p) (rvG W a) (at_ W 0) (nA W) + slM W a p sel (at_ W 0)) ∧ x = sR2 (inP W a p) (rvG W a) (at_ W 4) (nA W) + slM W a p sel (at_ W 4)
def EvB (W : Vw) (a p : Int) : Bool := prP W p || (decide (at_ W 2 a = 1) && !coP W p) || !onSd p (at_ W 3 a) || decide (stOn W p (-1) ≠ -1) || sdB W a p
def EvV (W : Vw) (a p v : Int) : Prop := (EvB W a p = true ∧ v = -1) ∨ (EvB W a p = false ∧ ((v = -1 ∧ ∀ x, ¬ Ach W a p x) ∨ (∃ x, Ach W a p x ∧ (∀ y, Ach W a p y → x ≤ y) ∧ v = sdP W a p (nA W) + x)))
theorem Ach_bd (hG : Good W) {x : Int} (h : Ach W a p x) : 0 ≤ x ∧ x ≤ 79920 := by
  obtain ⟨sel, -, rfl⟩ := h
  have b := hG.1.1.1
  have b4 := sR2_bd hG.1 (m := inP W a p) (r := rvG W a) (i := nA W) (q := 999) (w := at_ W 4) ⟨by omega, Int.le_refl _⟩ (fun j j0 j1 => by have := hG.1.2.1 j j0 j1; omega) (by decide)
  have b5 := sumR_bd (w := fun x => if (inP W a p x && !rvG W a x) = true then (if sel x = true then at_ W 4 x else 0) else 0) (l := 0) (h := 999) (n := (nA W).toNat) (i := 0) (fun j h1 h2 => by
    have v := hG.1.2.1 j h1 (by omega)
    show 0 ≤ (if (inP W a p j && !rvG W a j) = true then (if sel j = true then at_ W 4 j else 0) else 0) ∧ (if (inP W a p j && !rvG W a j) = true then (if sel j = true then at_ W 4 j else 0) else 0) ≤ 999
    split
    · split <;> omega
    · omega)
  unfold slM
  omega
theorem EvV.bd (hG : Good W) {v : Int} (h : EvV W a p v) : -1 ≤ v ∧ v ≤ 119880 := by
  have b := hG.1.1.1
  have q := sdP_bd hG.1 (a := a) (p := p) (i := nA W) ⟨by omega, Int.le_refl _⟩
  rcases h with ⟨_, h⟩ | ⟨_, ⟨h, _⟩ | ⟨x, h1, _, h2⟩⟩
  · omega
  · omega
  · have := Ach_bd hG h1; omega
theorem EvV.uni (hG : Good W) {v v' : Int} (h : EvV W a p v) (h' : EvV W a p v') : v = v' := by
  rcases h with ⟨e, h⟩ | ⟨e, h⟩
  · rcases h' with ⟨e', h'⟩ | ⟨e', h'⟩
    · omega
    · rw [e] at e'; exact absurd e' (by decide)
  · rcases h' with ⟨e', h'⟩ | ⟨e', h'⟩
    · rw [e] at e'; exact absurd e' (by decide)
    · rcases h with ⟨h1, h2⟩ | ⟨x, h1, h2, h3⟩
      · rcases h' with ⟨g1, g2⟩ | ⟨y, g1, g2, g3⟩
        · omega
        · exact absurd g1 (h2 y)
      · rcases h' with ⟨g1, g2⟩ | ⟨y, g1, g2, g3⟩
        · exact absurd h1 (g2 x)
        · have q1 := h2 y g1
          have q2 := g2 x h1
          omega
theorem vCm_iff {T : St} {k z : Int} (hk : 0 ≤ k) : vCm W a p T k z = true ↔ (∀ j, 0 ≤ j → j < k → rvG W a (g T 507 j.toNat) = true → bt z j = 1) ∧ at_ W 0 a ≤ lefO W p a (-1) + sgM T 507 k z (at_ W 0) := by
  unfold vCm
  rw [Bool.and_eq_true, decide_eq_true_eq]
  refine and_congr_left (fun _ => ?_)
  constructor
  · intro h j j0 j1 hr
    by_cases e : bt z j = 1
    · exact e
    · have q : anyR (fun j => decide (bt z j ≠ 1) && rvG W a (g T 507 j.toNat)) 0 (k - 0).toNat = true := anyR_iff.mpr ⟨j, j0, by omega, by rw [Bool.and_eq_true, decide_eq_true_eq]; exact ⟨e, hr⟩⟩
      rw [q] at h
      exact absurd h (by decide)
  · intro h
    cases e : anyR (fun j => decide (bt z j ≠ 1) && rvG W a (g T 507 j.toNat)) 0 (k - 0).toNat
    · rfl
    · rw [anyR_iff] at e
      obtain ⟨j, j0, j1, j2⟩ := e
      rw [Bool.and_eq_true, decide_eq_true_eq] at j2
      exact absurd (h j j0 (by omega) j2.2) j2.1
theorem ev_class (h : PT S 5 W) (hG : Good W) (ha : 0 ≤ a ∧ a < nA W) (hp : 1 ≤ p ∧ p ≤ pgs W) : ∃ v T, fn_Searches_evictedPrices 505 a p S = some (v, T) ∧ Off S T 507 508 ∧ EvV W a p v := by
  have b := h.pl.b
  have va := hG.1.2.1 a ha.1 ha.2
  have x2 : g S 10 a.toNat = at_ W 2 a := h.pl.a2 ha
  have x3 : g S 11 a.toNat = at_ W 3 a := h.pl.a3 ha
  have eo : g S 31 p.toNat = stOn W p (-1) := h.s hp.1 hp.2
  have unf : fn_Plan_isUnfit 5 a p S = some (prP W p || (decide (at_ W 2 a = 1) && !coP W p) || !onSd p (at_ W 3 a)) := by
    unfold fn_Plan_isUnfit
    rw [P_isPrinted1 h.pl hp.1 hp.2, bnO_s, if_pos (by omega : 0 ≤ a ∧ a < 40), tg_5_0, tg_6_0, tg_7_2, tg_7_3, x2, x3, P_lacksColor h.pl hp.1 hp.2, P_isWrongSide (by omega) (by omega) (by omega), bnO_s, bnO_s]
    cases prP W p <;> cases (decide (at_ W 2 a = 1) && !coP W p) <;> cases onSd p (at_ W 3 a) <;> rfl
  unfold fn_Searches_evictedPrices
  rw [tg_505_0, unf, bnO_s]
  cases c1 : (prP W p || (decide (at_ W 2 a = 1) && !coP W p) || !onSd p (at_ W 3 a))
  · rw [if_neg Bool.false_ne_true, if_pos (by omega : 0 ≤ p ∧ p < 65), tg_5_6, eo]
    by_cases c2 : stOn W p (-1) = -1
    · obtain ⟨k, T, hk, hL, er⟩ := ev_room h hG ha hp
      have k0 := hL.1.2
      have s4 := sh4 ⟨k0, hk⟩
      rw [if_pos c2, ev_side h hG ha hp, bnO_s, er, bnO_s]
      refine (?_ : ∃ v T', (if (if sdB W a p = true then -1 else sdP W a p (nA W)) = -1 then some (-1, T) else if itR (mnF (vCm W a p T k) (fun z => sgM T 507 k z (at_ W 4)) (-1)) 0 (i_shl 1 k - 0).toNat (-1) = -1 then some (-1, T) else some (wr ((if sdB W a p = true then -1 else sdP W a p (nA W)) + itR (mnF (vCm W a p T k) (fun z => sgM T 507 k z (at_ W 4)) (-1)) 0 (i_shl 1 k - 0).toNat (-1)), T)) = some (v, T') ∧ Off S T' 507 508 ∧ EvV W a p v)
      have eb : EvB W a p = sdB W a p := by
        unfold EvB
        rw [c1, decide_eq_false (by omega : ¬ stOn W p (-1) ≠ -1), Bool.false_or, Bool.false_or]
      cases c3 : sdB W a p
      · have sb := sdP_bd hG.1 (a := a) (p := p) (i := nA W) ⟨by omega, Int.le_refl _⟩
        have pb : ∀ z, 0 ≤ sgM T 507 k z (at_ W 4) ∧ sgM T 507 k z (at_ W 4) ≤ 4 * 999 := fun z => sg_bd ⟨k0, hk⟩ (fun j j0 j1 => by
          have q := (hL.2.2.1 j j0 j1).1
          have v := hG.1.2.1 _ q.1 q.2
          omega) (by decide)
        rw [if_neg Bool.false_ne_true, if_neg (by omega : ¬ sdP W a p (nA W) = -1)]
        -- masks and choices
        have up1 : ∀ z, vCm W a p T k z = true → Ach W a p (sgM T 507 k z (at_ W 4)) := fun z hz => by
          have q := (vCm_iff k0).mp hz
          have cl : ∀ w, sgM T 507 k z w = sR2 (inP W a p) (rvG W a) w (nA W) + slM W a p (selM T 507 k z) w := fun w => corr_L hL (r := rvG W a) (sel := selM T 507 k z) q.1 (fun j j0 j1 => ⟨fun q' => q'.elim (q.1 j j0 j1) (hL.sel j0 j1).mp, fun q' => .inr ((hL.sel j0 j1).mpr q')⟩) w
          exact ⟨selM T 507 k z, by rw [← cl]; exact q.2, cl _⟩
        have dn1 : ∀ x, Ach W a p x → ∃ z, 0 ≤ z ∧ z < i_shl 1 k ∧ vCm W a p T k z = true ∧ sgM T 507 k z (at_ W 4) = x := fun x ⟨sel, hx1, hx2⟩ => by
          obtain ⟨z, z0, z1, z2⟩ := mk_mask ⟨k0, hk⟩ (fun j => rvG W a (g T 507 j.toNat) || sel (g T 507 j.toNat))
          have hr : ∀ j, 0 ≤ j → j < k → rvG W a (g T 507 j.toNat) = true → bt z j = 1 := fun j j0 j1 hq => (z2 j j0 j1).mpr (by rw [Bool.or_eq_true]; exact .inl hq)
          have cl : ∀ w, sgM T 507 k z w = sR2 (inP W a p) (rvG W a) w (nA W) + slM W a p sel w := fun w => corr_L hL (r := rvG W a) (sel := sel) hr (fun j j0 j1 => by rw [← Bool.or_eq_true]; exact (z2 j j0 j1).symm) w
          exact ⟨z, z0, z1, (vCm_iff k0).mpr ⟨hr, by rw [cl]; exact hx1⟩, by rw [cl]; exact hx2.symm⟩
        rcases mnF_spec (p := vCm W a p T k) (k := fun z => sgM T 507 k z (at_ W 4)) (c := -1) (l := 0) (N := (i_shl 1 k - 0).toNat) (fun x _ _ _ => (pb x).1) (i_shl 1 k - 0).toNat (Nat.le_refl _) with ⟨e, f⟩ | ⟨x, x1, x2, x3, x4, x5, x6⟩
        · rw [if_pos e]
          refine ⟨_, _, rfl, hL.2.1, .inr ⟨by rw [eb]; exact c3, .inl ⟨rfl, fun x hx => ?_⟩⟩⟩
          obtain ⟨z, z0, z1, z2, z3⟩ := dn1 x hx
          have := f z z0 (by omega) z2
          have := pb z
          omega
        · have px := pb x
          rw [← x4, if_neg (by omega : ¬ sgM T 507 k x (at_ W 4) = -1), wr_s (by omega) (by omega)]
          refine ⟨_, _, rfl, hL.2.1, .inr ⟨by rw [eb]; exact c3, .inr ⟨sgM T 507 k x (at_ W 4), up1 x x3, fun y hy => ?_, rfl⟩⟩⟩
          obtain ⟨z, z0, z1, z2, z3⟩ := dn1 y hy
          rcases x6 z z0 (by omega) z2 with q | q
          · have := pb z; omega
          · rw [← z3]; exact q
      · rw [if_pos rfl, if_pos rfl]
        exact ⟨_, _, rfl, hL.2.1, .inl ⟨by rw [eb]; exact c3, rfl⟩⟩
    · rw [if_neg c2]
      refine ⟨_, _, rfl, Off.refl, .inl ⟨?_, rfl⟩⟩
      unfold EvB
      rw [decide_eq_true (show stOn W p (-1) ≠ -1 from c2), Bool.or_true, Bool.true_or]
  · rw [if_pos rfl]
    refine ⟨_, _, rfl, Off.refl, .inl ⟨?_, rfl⟩⟩
    unfold EvB
    rw [c1, Bool.true_or, Bool.true_or]
/-! the reference -/
end Evict4

