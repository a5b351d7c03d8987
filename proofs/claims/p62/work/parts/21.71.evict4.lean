/-! eviction and cheapestPage, the end -/
section Evict4
variable {S T : St} {W : Vw} {n : Int} {hs : Int → Vw} {a p : Int}
def slM (W : Vw) (a p : Int) (sel : Int → Bool) (w : Int → Int) : Int := sumR (fun x => if (inP W a p x && !rvG W a x) = true then (if sel x = true then w x else 0) else 0) 0 (nA W).toNat
/-- a price at which there is room -/
def Ach (W : Vw) (a p x : Int) : Prop := ∃ sel : Int → Bool, at_ W 0 a ≤ lefO W p a (-1) + (sR2 (inP W a p) (rvG W a) (at_ W 0) (nA W) + slM W a p sel (at_ W 0)) ∧ x = sR2 (inP W a p) (rvG W a) (at_ W 4) (nA W) + slM W a p sel (at_ W 4)
def EvB (W : Vw) (a p : Int) : Bool := prP W p || (decide (at_ W 2 a = 1) && !coP W p) || !onSd p (at_ W 3 a) || decide (stOn W p (-1) ≠ -1) || sdB W a p
def EvV (W : Vw) (a p v : Int) : Prop := (EvB W a p = true ∧ v = -1) ∨ (EvB W a p = false ∧ ((v = -1 ∧ ∀ x, ¬ Ach W a p x) ∨ (∃ x, Ach W a p x ∧ (∀ y, Ach W a p y → x ≤ y) ∧ v = sdP W a p (nA W) + x)))
theorem Ach_bd (hG : Good W) {x : Int} (h : Ach W a p x) : 0 ≤ x ∧ x ≤ 79920 := by
  obtain ⟨sel, -, rfl⟩ := h
  have b := hG.1.1.1
  have b4 := sR2_bd hG.1 (m := inP W a p) (r := rvG W a) (i := nA W) (q := 999) (w := at_ W 4) ⟨by omega, Int.le_refl _⟩ (fun j j0 j1 => by have := hG.1.2.1 j j0 j1; omega) (by decide)
  have b5 := sumR_bd (w := fun x => if (inP W a p x && !rvG W a x) = true then (if sel x = true then at_ W 4 x else 0) else 0) (l := 0) (h := 999) (n := (nA W).toNat) (i := 0) (fun j h1 h2 => by
    have v := hG.1.2.1 j h1 (by omega)
    show 0 ≤ (if (inP W a p j && !rvG W a j) = true then (if sel j = true then at_ W 4 j else 0) else 0) ∧ (if (inP W a p j && !rvG W a j) = true then (if sel j = true then at_ W 4 j else 0) else 0) ≤ 999
    split
    · split <;> omega
    · omega)
  unfold slM
  omega
theorem EvV.bd (hG : Good W) {v : Int} (h : EvV W a p v) : -1 ≤ v ∧ v ≤ 119880 := by
  have b := hG.1.1.1
  have q := sdP_bd hG.1 (a := a) (p := p) (i := nA W) ⟨by omega, Int.le_refl _⟩
  rcases h with ⟨_, h⟩ | ⟨_, ⟨h, _⟩ | ⟨x, h1, _, h2⟩⟩
  · omega
  · omega
  · have := Ach_bd hG h1; omega
theorem EvV.uni (hG : Good W) {v v' : Int} (h : EvV W a p v) (h' : EvV W a p v') : v = v' := by
  rcases h with ⟨e, h⟩ | ⟨e, h⟩
  · rcases h' with ⟨e', h'⟩ | ⟨e', h'⟩
    · omega
    · rw [e] at e'; exact absurd e' (by decide)
  · rcases h' with ⟨e', h'⟩ | ⟨e', h'⟩
    · rw [e] at e'; exact absurd e' (by decide)
    · rcases h with ⟨h1, h2⟩ | ⟨x, h1, h2, h3⟩
      · rcases h' with ⟨g1, g2⟩ | ⟨y, g1, g2, g3⟩
        · omega
        · exact absurd g1 (h2 y)
      · rcases h' with ⟨g1, g2⟩ | ⟨y, g1, g2, g3⟩
        · exact absurd h1 (g2 x)
        · have q1 := h2 y g1
          have q2 := g2 x h1
          omega
theorem vCm_iff {T : St} {k z : Int} (hk : 0 ≤ k) : vCm W a p T k z = true ↔ (∀ j, 0 ≤ j → j < k → rvG W a (g T 507 j.toNat) = true → bt z j = 1) ∧ at_ W 0 a ≤ lefO W p a (-1) + sgM T 507 k z (at_ W 0) := by
  unfold vCm
  rw [Bool.and_eq_true, decide_eq_true_eq]
  refine and_congr_left (fun _ => ?_)
  constructor
  · intro h j j0 j1 hr
    by_cases e : bt z j = 1
    · exact e
    · have q : anyR (fun j => decide (bt z j ≠ 1) && rvG W a (g T 507 j.toNat)) 0 (k - 0).toNat = true := anyR_iff.mpr ⟨j, j0, by omega, by rw [Bool.and_eq_true, decide_eq_true_eq]; exact ⟨e, hr⟩⟩
      rw [q] at h
      exact absurd h (by decide)
  · intro h
    cases e : anyR (fun j => decide (bt z j ≠ 1) && rvG W a (g T 507 j.toNat)) 0 (k - 0).toNat
    · rfl
    · rw [anyR_iff] at e
      obtain ⟨j, j0, j1, j2⟩ := e
      rw [Bool.and_eq_true, decide_eq_true_eq] at j2
      exact absurd (h j j0 (by omega) j2.2) j2.1
theorem ev_class (h : PT S 5 W) (hG : Good W) (ha : 0 ≤ a ∧ a < nA W) (hp : 1 ≤ p ∧ p ≤ pgs W) : ∃ v T, fn_Searches_evictedPrices 505 a p S = some (v, T) ∧ Off S T 507 508 ∧ EvV W a p v := by
  have b := h.pl.b
  have va := hG.1.2.1 a ha.1 ha.2
  have x2 : g S 10 a.toNat = at_ W 2 a := h.pl.a2 ha
  have x3 : g S 11 a.toNat = at_ W 3 a := h.pl.a3 ha
  have eo : g S 31 p.toNat = stOn W p (-1) := h.s hp.1 hp.2
  have unf : fn_Plan_isUnfit 5 a p S = some (prP W p || (decide (at_ W 2 a = 1) && !coP W p) || !onSd p (at_ W 3 a)) := by
    unfold fn_Plan_isUnfit
    rw [P_isPrinted1 h.pl hp.1 hp.2, bnO_s, if_pos (by omega : 0 ≤ a ∧ a < 40), tg_5_0, tg_6_0, tg_7_2, tg_7_3, x2, x3, P_lacksColor h.pl hp.1 hp.2, P_isWrongSide (by omega) (by omega) (by omega), bnO_s, bnO_s]
    cases prP W p <;> cases (decide (at_ W 2 a = 1) && !coP W p) <;> cases onSd p (at_ W 3 a) <;> rfl
  unfold fn_Searches_evictedPrices
  rw [tg_505_0, unf, bnO_s]
  cases c1 : (prP W p || (decide (at_ W 2 a = 1) && !coP W p) || !onSd p (at_ W 3 a))
  · rw [if_neg Bool.false_ne_true, if_pos (by omega : 0 ≤ p ∧ p < 65), tg_5_6, eo]
    by_cases c2 : stOn W p (-1) = -1
    · obtain ⟨k, T, hk, hL, er⟩ := ev_room h hG ha hp
      have k0 := hL.1.2
      have s4 := sh4 ⟨k0, hk⟩
      rw [if_pos c2, ev_side h hG ha hp, bnO_s, er, bnO_s]
      refine (?_ : ∃ v T', (if (if sdB W a p = true then -1 else sdP W a p (nA W)) = -1 then some (-1, T) else if itR (mnF (vCm W a p T k) (fun z => sgM T 507 k z (at_ W 4)) (-1)) 0 (i_shl 1 k - 0).toNat (-1) = -1 then some (-1, T) else some (wr ((if sdB W a p = true then -1 else sdP W a p (nA W)) + itR (mnF (vCm W a p T k) (fun z => sgM T 507 k z (at_ W 4)) (-1)) 0 (i_shl 1 k - 0).toNat (-1)), T)) = some (v, T') ∧ Off S T' 507 508 ∧ EvV W a p v)
      have eb : EvB W a p = sdB W a p := by
        unfold EvB
        rw [c1, decide_eq_false (by omega : ¬ stOn W p (-1) ≠ -1), Bool.false_or, Bool.false_or]
      cases c3 : sdB W a p
      · have sb := sdP_bd hG.1 (a := a) (p := p) (i := nA W) ⟨by omega, Int.le_refl _⟩
        have pb : ∀ z, 0 ≤ sgM T 507 k z (at_ W 4) ∧ sgM T 507 k z (at_ W 4) ≤ 4 * 999 := fun z => sg_bd ⟨k0, hk⟩ (fun j j0 j1 => by
          have q := (hL.2.2.1 j j0 j1).1
          have v := hG.1.2.1 _ q.1 q.2
          omega) (by decide)
        rw [if_neg Bool.false_ne_true, if_neg (by omega : ¬ sdP W a p (nA W) = -1)]
        -- masks and choices
        have up1 : ∀ z, vCm W a p T k z = true → Ach W a p (sgM T 507 k z (at_ W 4)) := fun z hz => by
          have q := (vCm_iff k0).mp hz
          have cl : ∀ w, sgM T 507 k z w = sR2 (inP W a p) (rvG W a) w (nA W) + slM W a p (selM T 507 k z) w := fun w => corr_L hL (r := rvG W a) (sel := selM T 507 k z) q.1 (fun j j0 j1 => ⟨fun q' => q'.elim (q.1 j j0 j1) (hL.sel j0 j1).mp, fun q' => .inr ((hL.sel j0 j1).mpr q')⟩) w
          exact ⟨selM T 507 k z, by rw [← cl]; exact q.2, cl _⟩
        have dn1 : ∀ x, Ach W a p x → ∃ z, 0 ≤ z ∧ z < i_shl 1 k ∧ vCm W a p T k z = true ∧ sgM T 507 k z (at_ W 4) = x := fun x ⟨sel, hx1, hx2⟩ => by
          obtain ⟨z, z0, z1, z2⟩ := mk_mask ⟨k0, hk⟩ (fun j => rvG W a (g T 507 j.toNat) || sel (g T 507 j.toNat))
          have hr : ∀ j, 0 ≤ j → j < k → rvG W a (g T 507 j.toNat) = true → bt z j = 1 := fun j j0 j1 hq => (z2 j j0 j1).mpr (by rw [Bool.or_eq_true]; exact .inl hq)
          have cl : ∀ w, sgM T 507 k z w = sR2 (inP W a p) (rvG W a) w (nA W) + slM W a p sel w := fun w => corr_L hL (r := rvG W a) (sel := sel) hr (fun j j0 j1 => by rw [← Bool.or_eq_true]; exact (z2 j j0 j1).symm) w
          exact ⟨z, z0, z1, (vCm_iff k0).mpr ⟨hr, by rw [cl]; exact hx1⟩, by rw [cl]; exact hx2.symm⟩
        rcases mnF_spec (p := vCm W a p T k) (k := fun z => sgM T 507 k z (at_ W 4)) (c := -1) (l := 0) (N := (i_shl 1 k - 0).toNat) (fun x _ _ _ => (pb x).1) (i_shl 1 k - 0).toNat (Nat.le_refl _) with ⟨e, f⟩ | ⟨x, x1, x2, x3, x4, x5, x6⟩
        · rw [if_pos e]
          refine ⟨_, _, rfl, hL.2.1, .inr ⟨by rw [eb]; exact c3, .inl ⟨rfl, fun x hx => ?_⟩⟩⟩
          obtain ⟨z, z0, z1, z2, z3⟩ := dn1 x hx
          have := f z z0 (by omega) z2
          have := pb z
          omega
        · have px := pb x
          rw [← x4, if_neg (by omega : ¬ sgM T 507 k x (at_ W 4) = -1), wr_s (by omega) (by omega)]
          refine ⟨_, _, rfl, hL.2.1, .inr ⟨by rw [eb]; exact c3, .inr ⟨sgM T 507 k x (at_ W 4), up1 x x3, fun y hy => ?_, rfl⟩⟩⟩
          obtain ⟨z, z0, z1, z2, z3⟩ := dn1 y hy
          rcases x6 z z0 (by omega) z2 with q | q
          · have := pb z; omega
          · rw [← z3]; exact q
      · rw [if_pos rfl, if_pos rfl]
        exact ⟨_, _, rfl, hL.2.1, .inl ⟨by rw [eb]; exact c3, rfl⟩⟩
    · rw [if_neg c2]
      refine ⟨_, _, rfl, Off.refl, .inl ⟨?_, rfl⟩⟩
      unfold EvB
      rw [decide_eq_true (show stOn W p (-1) ≠ -1 from c2), Bool.or_true, Bool.true_or]
  · rw [if_pos rfl]
    refine ⟨_, _, rfl, Off.refl, .inl ⟨?_, rfl⟩⟩
    unfold EvB
    rw [c1, Bool.true_or, Bool.true_or]
/-! the reference -/
theorem ev_least {T0 : St} {m : Int → Bool} (hM : MV T W) (hG : Good W) {k q : Int} (hL : LsI T0 T 517 m (nA W) k) (hk : k ≤ 4) : fn_Mo_leastOf 514 k q T = some (itR (lsF (fun z => decide (q ≤ sgM T 517 k z (at_ W 0))) (fun z => sgM T 517 k z (at_ W 4))) 0 (i_shl 1 k - 0).toNat 1000000) := by
  have b := hM.b
  have k0 := hL.1.2
  have s4 := sh4 ⟨k0, hk⟩
  have mem : ∀ j, 0 ≤ j → j < k → (0 ≤ g T 517 j.toNat ∧ g T 517 j.toNat < nA W) := fun j j0 j1 => (hL.2.2.1 j j0 j1).1
  have p0 : ∀ z, 0 ≤ sgM T 517 k z (at_ W 0) ∧ sgM T 517 k z (at_ W 0) ≤ 4 * 4 := fun z => sg_bd ⟨k0, hk⟩ (fun j j0 j1 => by
    have q := mem j j0 j1
    have v := hG.1.2.1 _ q.1 q.2
    omega) (by decide)
  have p4 : ∀ z, 0 ≤ sgM T 517 k z (at_ W 4) ∧ sgM T 517 k z (at_ W 4) ≤ 4 * 999 := fun z => sg_bd ⟨k0, hk⟩ (fun j j0 j1 => by
    have q := mem j j0 j1
    have v := hG.1.2.1 _ q.1 q.2
    omega) (by decide)
  have inn : ∀ s z, lo_Mo_leastOf_23 514 k q s z T FU (0, 0, 0) = some (sgM T 517 k z (at_ W 4), sgM T 517 k z (at_ W 0)) := fun s z => by
    have r : lo_Mo_leastOf_23 514 k q s z T FU (0, 0, 0) = some (itR (fun j (s : Int × Int) => (wr (s.1 + (if bt z j = 1 then at_ W 4 (g T 517 j.toNat) else 0)), wr (s.2 + (if bt z j = 1 then at_ W 0 (g T 517 j.toNat) else 0)))) 0 (k - 0).toNat (0, 0)) :=
      lp_it (body := fun go p0 => lb_Mo_leastOf_23 514 k q s z T go p0.1 p0.2.1 p0.2.2) (fun i (s : Int × Int) => (s.1, s.2, i)) (fun j (s : Int × Int) => (wr (s.1 + (if bt z j = 1 then at_ W 4 (g T 517 j.toNat) else 0)), wr (s.2 + (if bt z j = 1 then at_ W 0 (g T 517 j.toNat) else 0)))) (fun s => s) (fun i s => 0 ≤ i) k
        (fun go i s' _ hi => by
          show lb_Mo_leastOf_23 514 k q s z T go s'.1 s'.2 i = _
          unfold lb_Mo_leastOf_23
          rw [if_pos hi])
        (fun go j s' j0 j1 => by
          refine ⟨?_, by omega⟩
          show lb_Mo_leastOf_23 514 k q s z T go s'.1 s'.2 j = go (wr (s'.1 + (if bt z j = 1 then at_ W 4 (g T 517 j.toNat) else 0)), wr (s'.2 + (if bt z j = 1 then at_ W 0 (g T 517 j.toNat) else 0)), j + 1)
          have e0 : fn_Mo_ofAd 514 (g T 517 j.toNat) 0 T = some (at_ W 0 (g T 517 j.toNat)) := Mo_ofAd hM (k := 0) (by omega) (mem j j0 j1)
          have e4 : fn_Mo_ofAd 514 (g T 517 j.toNat) 4 T = some (at_ W 4 (g T 517 j.toNat)) := Mo_ofAd hM (k := 4) (by omega) (mem j j0 j1)
          have eb : i_and (i_shr z j) 1 = bt z j := rfl
          unfold lb_Mo_leastOf_23
          simp only [eb, tg_514_6, e0, e4, bnO_s, nm_x, wr_s (z := j + 1) (by omega) (by omega)]
          rw [if_neg (by omega : ¬ k ≤ j)]
          by_cases c : bt z j = 1
          · rw [if_pos c, if_pos (by omega : 0 ≤ j ∧ j < 4), if_pos c, if_pos c, if_pos c]
          · rw [if_neg c, if_neg c, if_neg c, if_neg c]) (k - 0).toNat FU 0 (0, 0) (Int.le_refl _) rfl (FU_lt (by omega))
    rw [it_sum2 (inRk rfl) (inRk rfl), Int.zero_add, Int.zero_add, Int.sub_zero] at r
    have q0 := p0 z
    have q4 := p4 z
    have f0 : sumR (fun j => if bt z j = 1 then at_ W 0 (g T 517 j.toNat) else 0) 0 k.toNat = sgM T 517 k z (at_ W 0) := rfl
    have f4 : sumR (fun j => if bt z j = 1 then at_ W 4 (g T 517 j.toNat) else 0) 0 k.toNat = sgM T 517 k z (at_ W 4) := rfl
    rw [r, f0, f4, wr_s (by omega) (by omega), wr_s (by omega) (by omega)]
  have out : lo_Mo_leastOf_6 514 k q T FU (1000000, 0) = some (itR (lsF (fun z => decide (q ≤ sgM T 517 k z (at_ W 0))) (fun z => sgM T 517 k z (at_ W 4))) 0 (i_shl 1 k - 0).toNat 1000000) :=
    lp_acc (body := fun go p0 => lb_Mo_leastOf_6 514 k q T go p0.1 p0.2) (lsF (fun z => decide (q ≤ sgM T 517 k z (at_ W 0))) (fun z => sgM T 517 k z (at_ W 4))) 0 (i_shl 1 k)
      (fun go s i hi => by
        show lb_Mo_leastOf_6 514 k q T go s i = _
        unfold lb_Mo_leastOf_6
        rw [if_pos hi])
      (fun go s i i0 i1 => by
        show lb_Mo_leastOf_6 514 k q T go s i = go (lsF (fun z => decide (q ≤ sgM T 517 k z (at_ W 0))) (fun z => sgM T 517 k z (at_ W 4)) i s, i + 1)
        unfold lb_Mo_leastOf_6 lsF
        rw [if_neg (by omega : ¬ i_shl 1 k ≤ i), inn, bnO_s]
        simp only [nm_x, wr_s (z := i + 1) (by omega) (by omega)]
        by_cases c : q ≤ sgM T 517 k i (at_ W 0)
        · rw [if_neg (by omega : ¬ sgM T 517 k i (at_ W 0) < q), if_pos (decide_eq_true c)]
          by_cases d : s ≤ sgM T 517 k i (at_ W 4)
          · rw [if_pos d, if_pos d]
          · rw [if_neg d, if_neg d]
        · rw [if_pos (by omega : sgM T 517 k i (at_ W 0) < q), if_neg (by rw [decide_eq_true_eq]; exact c)]) (FU_lt (by omega))
  unfold fn_Mo_leastOf
  rw [out, bnO_s]
theorem ev_model {T0 : St} (hR : RM T0 T W n hs) (hG : Good W) (ha : 0 ≤ a ∧ a < nA W) (hp : 1 ≤ p ∧ p ≤ pgs W) : ∃ v T', fn_Mo_evictionOf 514 a p T = some (v, T') ∧ RM T0 T' W n hs ∧ EvV W a p v := by
  have hM := hR.2.2.1
  have b := hM.b
  have va := hG.1.2.1 a ha.1 ha.2
  have e2 : fn_Mo_ofAd 514 a 2 T = some (at_ W 2 a) := Mo_ofAd hM (k := 2) (by omega) ha
  have e3 : fn_Mo_ofAd 514 a 3 T = some (at_ W 3 a) := Mo_ofAd hM (k := 3) (by omega) ha
  unfold fn_Mo_evictionOf
  rw [Mo_isPrinted hM hp, bnO_s]
  cases c1 : prP W p
  · rw [if_neg Bool.false_ne_true, Mo_storyOn hM, bnO_s]
    by_cases c2 : stOn W p (-1) = -1
    · rw [if_pos c2, e2, bnO_s, Mo_hasColor hM hp, bnO_s]
      have jj : (decide (at_ W 2 a = 1) && !coP W p) = false → ∃ v T', jf_Mo_evictionOf_36 514 a p T = some (v, T') ∧ RM T0 T' W n hs ∧ EvV W a p v := by
        intro c3
        unfold jf_Mo_evictionOf_36
        rw [e3, bnO_s, Mo_isOnSide (by omega), bnO_s]
        cases c4 : onSd p (at_ W 3 a)
        · rw [if_neg Bool.false_ne_true]
          refine ⟨_, _, rfl, hR, .inl ⟨?_, rfl⟩⟩
          unfold EvB
          rw [c4, Bool.not_false, Bool.or_true, Bool.true_or, Bool.true_or]
        · have lb := lf_bd hG.1 hG.2.1 hp.1 hp.2
          have le := lefO_but hG.1 hG.2.1 (p := p) ha
          have lr : room W p a (-1) = lefO W p a (-1) := by unfold lefO; rw [if_pos c2]
          have lb2 : 0 ≤ lefO W p a (-1) ∧ lefO W p a (-1) ≤ 8 := by rw [le]; split <;> omega
          obtain ⟨a3, a4, k, a6, T', es, hE⟩ := ev_scan hM hG ha hp lb2
          obtain ⟨_, h3, h4, h6, hL⟩ := hE
          have hk := ls_4 hG hp (a := a) (fun x hx => by rw [Bool.and_eq_true] at hx; exact hx.1) hL (Int.le_refl _)
          have k0 := hL.1.2
          have oT : Off T T' 516 522 := hL.2.1.mono (by omega) (by omega)
          have hM' := hM.o6 oT
          have rT : RM T0 T' W n hs := hR.o6 oT
          have e0 : fn_Mo_ofAd 514 a 0 T' = some (at_ W 0 a) := Mo_ofAd hM' (k := 0) (by omega) ha
          have b3 := sR2_bd hG.1 (m := inP W a p) (r := rvG W a) (i := nA W) (q := 4) (w := at_ W 0) ⟨by omega, Int.le_refl _⟩ (fun j j0 j1 => by have := hG.1.2.1 j j0 j1; omega) (by decide)
          have b4 := sR2_bd hG.1 (m := inP W a p) (r := rvG W a) (i := nA W) (q := 999) (w := at_ W 4) ⟨by omega, Int.le_refl _⟩ (fun j j0 j1 => by have := hG.1.2.1 j j0 j1; omega) (by decide)
          have b5 := sdP_bd hG.1 (a := a) (p := p) (i := nA W) ⟨by omega, Int.le_refl _⟩
          have eb : EvB W a p = sdB W a p := by
            unfold EvB
            rw [c1, c3, c4, decide_eq_false (by omega : ¬ stOn W p (-1) ≠ -1)]; rfl
          have ef : anyR (flg W a p) 0 (nA W).toNat = sdB W a p := by
            unfold sdB
            refine anyR_congr (fun x _ _ => ?_)
            unfold flg
            cases ci : inP W a p x
            · rw [Bool.false_and, Bool.or_false]
            · have := (of_decide_eq_true ci).2
              rw [this, c1, Bool.and_false, Bool.and_false]
          rw [if_pos rfl, Mo_roomOn hM, bnO_s, lr, es, bnO_s]
          refine (?_ : ∃ v T'', (if a6 = 0 then bnO (fn_Mo_ofAd 514 a 0 T') (fun p47 => nm (wr (p47 - a3)) fun v48 => bnO (fn_Mo_leastOf 514 k v48 T') fun p49 => if p49 = 1000000 then some (-1, T') else some (wr (a4 + p49), T')) else some (-1, T')) = some (v, T'') ∧ RM T0 T'' W n hs ∧ EvV W a p v)
          rw [ef] at h6
          cases c5 : sdB W a p
          · rw [c5] at h6
            rw [if_pos (show a6 = 0 from h6), e0, bnO_s, nm_x, wr_s (z := at_ W 0 a - a3) (by omega) (by omega), ev_least hM' hG hL hk, bnO_s]
            have p4 : ∀ z, 0 ≤ sgM T' 517 k z (at_ W 4) ∧ sgM T' 517 k z (at_ W 4) ≤ 4 * 999 := fun z => sg_bd ⟨k0, hk⟩ (fun j j0 j1 => by
              have q := (hL.2.2.1 j j0 j1).1
              have v := hG.1.2.1 _ q.1 q.2
              omega) (by decide)
            have s4 := sh4 ⟨k0, hk⟩
            have cm : ∀ z w, sgM T' 517 k z w = slM W a p (selM T' 517 k z) w := fun z w => corr_M hL (sel := selM T' 517 k z) (fun j j0 j1 => hL.sel j0 j1) w
            have dn : ∀ sel, ∃ z, 0 ≤ z ∧ z < i_shl 1 k ∧ ∀ w, sgM T' 517 k z w = slM W a p sel w := fun sel => by
              obtain ⟨z, z0, z1, z2⟩ := mk_mask ⟨k0, hk⟩ (fun j => sel (g T' 517 j.toNat))
              exact ⟨z, z0, z1, fun w => corr_M hL (sel := sel) (fun j j0 j1 => (z2 j j0 j1).symm) w⟩
            rcases lsF_spec (v := fun z => decide (at_ W 0 a - a3 ≤ sgM T' 517 k z (at_ W 0))) (pr := fun z => sgM T' 517 k z (at_ W 4)) (fun z => by have := p4 z; show sgM T' 517 k z (at_ W 4) < 1000000; omega) (i_shl 1 k - 0).toNat with ⟨e, f⟩ | ⟨x, x1, x2, x3, x4, x5⟩
            · rw [if_pos e]
              refine ⟨_, _, rfl, rT, .inr ⟨by rw [eb]; exact c5, .inl ⟨rfl, fun x ⟨sel, hx1, hx2⟩ => ?_⟩⟩⟩
              obtain ⟨z, z0, z1, z2⟩ := dn sel
              have := of_decide_eq_false (f z z0 (by omega))
              rw [z2] at this
              omega
            · have px := p4 x
              have hv := of_decide_eq_true x3
              rw [← x4, if_neg (by omega : ¬ sgM T' 517 k x (at_ W 4) = 1000000), wr_s (by omega) (by omega)]
              refine ⟨_, _, rfl, rT, .inr ⟨by rw [eb]; exact c5, .inr ⟨sR2 (inP W a p) (rvG W a) (at_ W 4) (nA W) + sgM T' 517 k x (at_ W 4), ⟨selM T' 517 k x, by rw [← cm]; omega, by rw [← cm]⟩, fun y ⟨sel, hy1, hy2⟩ => ?_, by omega⟩⟩⟩
              obtain ⟨z, z0, z1, z2⟩ := dn sel
              have q := x5 z z0 (by omega) (decide_eq_true (by rw [z2]; omega))
              have q' : sgM T' 517 k x (at_ W 4) ≤ sgM T' 517 k z (at_ W 4) := q
              rw [z2] at q'
              omega
          · rw [c5] at h6
            rw [if_neg (by rw [h6]; decide)]
            exact ⟨_, _, rfl, rT, .inl ⟨by rw [eb]; exact c5, rfl⟩⟩
      by_cases c3 : at_ W 2 a = 1
      · rw [if_pos c3]
        cases c4 : coP W p
        · rw [if_neg Bool.false_ne_true]
          refine ⟨_, _, rfl, hR, .inl ⟨?_, rfl⟩⟩
          unfold EvB
          rw [c4, decide_eq_true c3]
          cases prP W p <;> rfl
        · rw [if_pos rfl]
          exact jj (by rw [c4, Bool.not_true, Bool.and_false])
      · rw [if_neg c3]
        exact jj (by rw [decide_eq_false c3, Bool.false_and])
    · rw [if_neg c2]
      refine ⟨_, _, rfl, hR, .inl ⟨?_, rfl⟩⟩
      unfold EvB
      rw [decide_eq_true (show stOn W p (-1) ≠ -1 from c2), Bool.or_true, Bool.true_or]
  · rw [if_pos rfl]
    refine ⟨_, _, rfl, hR, .inl ⟨?_, rfl⟩⟩
    unfold EvB
    rw [c1]; rfl
end Evict4
