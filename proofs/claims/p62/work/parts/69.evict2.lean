/-! eviction: the two lists -/
section Corr
variable {S S' T T' : St} {c c' : Nat} {m r : Int → Bool} {i k k' : Int}
theorem LsI.ext (h : LsI S T c m i k) {i' : Int} (hi : i ≤ i') (hm : ∀ x, i ≤ x → x < i' → m x = false) : LsI S T c m i' k := by
  have i0 := h.1.1
  refine ⟨⟨by omega, h.1.2⟩, h.2.1, fun j h1 h2 => ⟨⟨(h.2.2.1 j h1 h2).1.1, by have := (h.2.2.1 j h1 h2).1.2; omega⟩, (h.2.2.1 j h1 h2).2⟩, h.2.2.2.1, fun w => ?_⟩
  rw [h.2.2.2.2 w, show i'.toNat = i.toNat + (i'.toNat - i.toNat) by omega, sumR_app, sumR_0 (n := i'.toNat - i.toNat) (fun j h1 h2 => by
    show (if m j = true then w j else 0) = 0
    rw [if_neg (by rw [hm j (by omega) (by omega)]; exact Bool.false_ne_true)]), Int.add_zero]
def sgM (T : St) (c : Nat) (k z : Int) (w : Int → Int) : Int := sumR (fun j => if bt z j = 1 then w (g T c j.toNat) else 0) 0 k.toNat
def sR2 (m r : Int → Bool) (w : Int → Int) (i : Int) : Int := sumR (fun x => if (m x && r x) = true then w x else 0) 0 i.toNat
theorem corr_L (h : LsI S T c m i k) {z : Int} {sel : Int → Bool} (hr : ∀ j, 0 ≤ j → j < k → r (g T c j.toNat) = true → bt z j = 1) (hs : ∀ j, 0 ≤ j → j < k → (r (g T c j.toNat) = true ∨ sel (g T c j.toNat) = true ↔ bt z j = 1)) (w : Int → Int) :
    sgM T c k z w = sR2 m r w i + sumR (fun x => if (m x && !r x) = true then (if sel x = true then w x else 0) else 0) 0 i.toNat := by
  have k0 := h.1.2
  have e1 : sgM T c k z w = sumR (fun j => (fun x => if r x = true then w x else if sel x = true then w x else 0) (g T c j.toNat)) 0 k.toNat := by
    refine sumR_congr (fun j h1 h2 => ?_)
    have q := hs j h1 (by omega)
    show (if bt z j = 1 then w (g T c j.toNat) else 0) = (if r (g T c j.toNat) = true then w (g T c j.toNat) else if sel (g T c j.toNat) = true then w (g T c j.toNat) else 0)
    by_cases a1 : r (g T c j.toNat) = true
    · rw [if_pos a1, if_pos (q.mp (.inl a1))]
    · rw [if_neg a1]
      by_cases a2 : sel (g T c j.toNat) = true
      · rw [if_pos a2, if_pos (q.mp (.inr a2))]
      · rw [if_neg a2, if_neg (fun e => (q.mpr e).elim a1 a2)]
  rw [e1]
  refine (h.2.2.2.2 (fun x => if r x = true then w x else if sel x = true then w x else 0)).trans ?_
  unfold sR2
  rw [← sumR_add]
  refine sumR_congr (fun x _ _ => ?_)
  show (if m x = true then (if r x = true then w x else if sel x = true then w x else 0) else 0) = (if (m x && r x) = true then w x else 0) + (if (m x && !r x) = true then (if sel x = true then w x else 0) else 0)
  cases m x <;> cases r x <;> simp
theorem corr_M (h : LsI S' T' c' (fun x => m x && !r x) i k') {z : Int} {sel : Int → Bool} (hs : ∀ j, 0 ≤ j → j < k' → (sel (g T' c' j.toNat) = true ↔ bt z j = 1)) (w : Int → Int) :
    sgM T' c' k' z w = sumR (fun x => if (m x && !r x) = true then (if sel x = true then w x else 0) else 0) 0 i.toNat := by
  have k0 := h.1.2
  have e1 : sgM T' c' k' z w = sumR (fun j => (fun x => if sel x = true then w x else 0) (g T' c' j.toNat)) 0 k'.toNat := by
    refine sumR_congr (fun j h1 h2 => ?_)
    have q := hs j h1 (by omega)
    show (if bt z j = 1 then w (g T' c' j.toNat) else 0) = (if sel (g T' c' j.toNat) = true then w (g T' c' j.toNat) else 0)
    by_cases a2 : sel (g T' c' j.toNat) = true
    · rw [if_pos a2, if_pos (q.mp a2)]
    · rw [if_neg a2, if_neg (fun e => a2 (q.mpr e))]
  rw [e1]
  exact h.2.2.2.2 (fun x => if sel x = true then w x else 0)
theorem corr1 (hL : LsI S T c m i k) (hM : LsI S' T' c' (fun x => m x && !r x) i k') (hk : k' ≤ 4) {z : Int} (hr : ∀ j, 0 ≤ j → j < k → r (g T c j.toNat) = true → bt z j = 1) : ∃ z', 0 ≤ z' ∧ z' < i_shl 1 k' ∧ ∀ w, sgM T c k z w = sR2 m r w i + sgM T' c' k' z' w := by
  obtain ⟨z', h0, h1, h2⟩ := mk_mask ⟨hM.1.2, hk⟩ (fun j => selM T c k z (g T' c' j.toNat))
  refine ⟨z', h0, h1, fun w => ?_⟩
  rw [corr_L hL (sel := selM T c k z) hr (fun j j0 j1 => ⟨fun q => q.elim (hr j j0 j1) (hL.sel j0 j1).mp, fun q => .inr ((hL.sel j0 j1).mpr q)⟩) w, corr_M hM (sel := selM T c k z) (fun j j0 j1 => (h2 j j0 j1).symm) w]
theorem corr2 (hL : LsI S T c m i k) (hM : LsI S' T' c' (fun x => m x && !r x) i k') (hk : k ≤ 4) (z' : Int) : ∃ z, 0 ≤ z ∧ z < i_shl 1 k ∧ (∀ j, 0 ≤ j → j < k → r (g T c j.toNat) = true → bt z j = 1) ∧ ∀ w, sgM T c k z w = sR2 m r w i + sgM T' c' k' z' w := by
  obtain ⟨z, h0, h1, h2⟩ := mk_mask ⟨hL.1.2, hk⟩ (fun j => r (g T c j.toNat) || selM T' c' k' z' (g T c j.toNat))
  have hr : ∀ j, 0 ≤ j → j < k → r (g T c j.toNat) = true → bt z j = 1 := fun j j0 j1 hq => (h2 j j0 j1).mpr (by rw [Bool.or_eq_true]; exact .inl hq)
  refine ⟨z, h0, h1, hr, fun w => ?_⟩
  rw [corr_L hL (sel := selM T' c' k' z') hr (fun j j0 j1 => by rw [← Bool.or_eq_true]; exact (h2 j j0 j1).symm) w, corr_M hM (sel := selM T' c' k' z') (fun j j0 j1 => hM.sel j0 j1) w]
end Corr
section Evict2
variable {S T : St} {W : Vw} {n : Int} {hs : Int → Vw} {a p : Int}
theorem ls_4 (hG : Good W) (hp : 1 ≤ p ∧ p ≤ pgs W) {T : St} {c : Nat} {m : Int → Bool} {i k : Int} (hm : ∀ x, m x = true → inP W a p x = true) (h : LsI S T c m i k) (hi : i ≤ nA W) : k ≤ 4 := by
  have q1 := h.cnt
  have q2 := inP_cnt hG hp (a := a)
  have q3 := cnt_mono (m := m) (m' := inP W a p) (i := i) (N := (nA W).toNat) (by have := h.1.1; omega) hm
  omega
theorem ls_full (hG : Good W) (hp : 1 ≤ p ∧ p ≤ pgs W) {T : St} {c : Nat} {i k : Int} (h : LsI S T c (inP W a p) i k) (hi : i ≤ nA W) (hk : 4 ≤ k) : LsI S T c (inP W a p) (nA W) k := by
  refine h.ext hi (fun x h1 h2 => ?_)
  cases e : inP W a p x
  · rfl
  · have i0 := h.1.1
    have q1 := h.cnt
    have q2 := inP_cnt hG hp (a := a)
    have q3 := cnt_mono (m := inP W a p) (m' := inP W a p) (i := i) (N := x.toNat) (by omega) (fun _ h => h)
    have q4 := cnt_mono (m := inP W a p) (m' := inP W a p) (i := x + 1) (N := (nA W).toNat) (by omega) (fun _ h => h)
    rw [show (x + 1).toNat = x.toNat + 1 by omega, sumR_snoc, show (0 : Int) + ((x.toNat : Nat) : Int) = x by omega, if_pos e] at q4
    omega
theorem ev_list (h : PT S 5 W) (hG : Good W) (hp : 1 ≤ p ∧ p ≤ pgs W) : ∀ (m n : Nat) (i k : Int) (T : St), (nA W - i).toNat = m → m < n → i ≤ nA W → LsI S T 507 (inP W a p) i k →
    ∃ k' T', lp (fun go p0 => lb_Searches_pricesForRoom_5 505 a p go p0.1 p0.2.1 p0.2.2) n (k, i, T) = some (k', T') ∧ k' ≤ 4 ∧ LsI S T' 507 (inP W a p) (nA W) k'
  | 0, n + 1, i, k, T, hm, _, hi, hL => by
    have b := h.pl.b
    have e : i = nA W := by have := hL.1.1; omega
    subst e
    refine ⟨k, T, ?_, ls_4 hG hp (fun _ h => h) hL (Int.le_refl _), hL⟩
    rw [lp_succ]
    show lb_Searches_pricesForRoom_5 505 a p _ k (nA W) T = _
    have e7 : g T 7 7 = nA W := (h.off hL.2.1 (by omega)).pl.mA
    unfold lb_Searches_pricesForRoom_5
    rw [tg_505_1, tg_6_0, e7, if_pos (Int.le_refl _)]
  | m + 1, n + 1, i, k, T, hm, hn, hi, hL => by
    have b := h.pl.b
    have i0 := hL.1.1
    have k0 := hL.1.2
    have hT := h.off hL.2.1 (by omega)
    have e7 : g T 7 7 = nA W := hT.pl.mA
    have x6 : g T 14 i.toNat = at_ W 6 i := hT.pl.a6 ⟨i0, by omega⟩
    rw [lp_succ]
    by_cases c1 : 4 ≤ k
    · refine ⟨k, T, ?_, ls_4 hG hp (fun _ h => h) hL hi, ls_full hG hp hL hi c1⟩
      show lb_Searches_pricesForRoom_5 505 a p _ k i T = _
      unfold lb_Searches_pricesForRoom_5
      rw [tg_505_1, tg_6_0, e7, if_neg (by omega : ¬ nA W ≤ i), if_pos c1]
    · by_cases c2 : i ≠ a ∧ at_ W 6 i = p
      · obtain ⟨k', T', e, r⟩ := ev_list h hG hp m n (i + 1) (k + 1) (u T 507 k.toNat i) (by omega) (by omega) (by omega) (hL.add (decide_eq_true c2) (by omega) (by omega))
        refine ⟨k', T', ?_, r⟩
        rw [← e]
        show lb_Searches_pricesForRoom_5 505 a p _ k i T = _
        unfold lb_Searches_pricesForRoom_5
        rw [tg_505_1, tg_6_0, e7, if_neg (by omega : ¬ nA W ≤ i), if_neg c1, if_neg c2.1, if_pos (by omega : 0 ≤ i ∧ i < 40), tg_7_6, x6, if_pos c2.2, if_pos (by omega : 0 ≤ k ∧ k < 4), tg_505_3, nm_x, nm_x, nm_x, wr_s (z := i + 1) (by omega) (by omega), wr_s (z := k + 1) (by omega) (by omega)]
      · obtain ⟨k', T', e, r⟩ := ev_list h hG hp m n (i + 1) k T (by omega) (by omega) (by omega) (hL.skip (decide_eq_false c2))
        refine ⟨k', T', ?_, r⟩
        rw [← e]
        show lb_Searches_pricesForRoom_5 505 a p _ k i T = _
        unfold lb_Searches_pricesForRoom_5
        rw [tg_505_1, tg_6_0, e7, if_neg (by omega : ¬ nA W ≤ i), if_neg c1]
        by_cases c3 : i = a
        · rw [if_pos c3, nm_x, wr_s (z := i + 1) (by omega) (by omega)]
        · rw [if_neg c3, if_pos (by omega : 0 ≤ i ∧ i < 40), tg_7_6, x6, if_neg (fun e => c2 ⟨c3, e⟩), nm_x, wr_s (z := i + 1) (by omega) (by omega)]
theorem sg_bd {T : St} {c : Nat} {k z : Int} {w : Int → Int} {q : Int} (hk : 0 ≤ k ∧ k ≤ 4) (hw : ∀ j, 0 ≤ j → j < k → 0 ≤ w (g T c j.toNat) ∧ w (g T c j.toNat) ≤ q) (hq : 0 ≤ q) : 0 ≤ sgM T c k z w ∧ sgM T c k z w ≤ 4 * q := by
  have r := sumR_bd (w := fun j => if bt z j = 1 then w (g T c j.toNat) else 0) (l := 0) (h := q) (n := k.toNat) (i := 0) (fun j h1 h2 => by
    have := hw j h1 (by omega)
    show 0 ≤ (if bt z j = 1 then w (g T c j.toNat) else 0) ∧ (if bt z j = 1 then w (g T c j.toNat) else 0) ≤ q
    split <;> omega)
  have e : k.toNat = 0 ∨ k.toNat = 1 ∨ k.toNat = 2 ∨ k.toNat = 3 ∨ k.toNat = 4 := by omega
  unfold sgM
  rcases e with e | e | e | e | e <;> rw [e] at r ⊢ <;> omega
def vCm (W : Vw) (a p : Int) (T : St) (k z : Int) : Bool := !(anyR (fun j => decide (bt z j ≠ 1) && rvG W a (g T 507 j.toNat)) 0 (k - 0).toNat) && decide (at_ W 0 a ≤ lefO W p a (-1) + sgM T 507 k z (at_ W 0))
theorem ev_cand (h : PT S 5 W) (hG : Good W) (ha : 0 ≤ a ∧ a < nA W) (hp : 1 ≤ p ∧ p ≤ pgs W) {T : St} {k z : Int} (hL : LsI S T 507 (inP W a p) (nA W) k) (hk : k ≤ 4) : fn_Searches_removedPrices 505 a p k z T = some (if vCm W a p T k z = true then sgM T 507 k z (at_ W 4) else -1) := by
  have b := h.pl.b
  have k0 := hL.1.2
  have hT := h.off hL.2.1 (by omega)
  have va := hG.1.2.1 a ha.1 ha.2
  have mem : ∀ j, 0 ≤ j → j < k → (0 ≤ g T 507 j.toNat ∧ g T 507 j.toNat < nA W) ∧ g T 507 j.toNat ≠ a := fun j j0 j1 => by
    have q := hL.2.2.1 j j0 j1
    exact ⟨q.1, (of_decide_eq_true q.2).1⟩
  have lb := lf_bd hG.1 hG.2.1 hp.1 hp.2
  have le := lefO_but hG.1 hG.2.1 (p := p) ha
  have lb2 : 0 ≤ lefO W p a (-1) ∧ lefO W p a (-1) ≤ 8 := by rw [le]; split <;> omega
  have s0 := sg_bd (T := T) (c := 507) (k := k) (z := z) (w := at_ W 0) (q := 4) ⟨k0, hk⟩ (fun j j0 j1 => by
    have q := mem j j0 j1
    have v := hG.1.2.1 _ q.1.1 q.1.2
    omega) (by decide)
  have s4 := sg_bd (T := T) (c := 507) (k := k) (z := z) (w := at_ W 4) (q := 999) ⟨k0, hk⟩ (fun j j0 j1 => by
    have q := mem j j0 j1
    have v := hG.1.2.1 _ q.1.1 q.1.2
    omega) (by decide)
  have q : lo_Searches_removedPrices_17 505 a k z T FU (lefO W p a (-1), 0, 0) = _ := lp_sumx2 (body := fun go p0 => lb_Searches_removedPrices_17 505 a k z T go p0.1 p0.2.1 p0.2.2) (fun j => decide (bt z j ≠ 1) && rvG W a (g T 507 j.toNat)) (-1) (fun j => if bt z j = 1 then at_ W 0 (g T 507 j.toNat) else 0) (fun j => if bt z j = 1 then at_ W 4 (g T 507 j.toNat) else 0) 0 k
    (fun go x y j hj => by
      show lb_Searches_removedPrices_17 505 a k z T go x y j = _
      unfold lb_Searches_removedPrices_17
      rw [if_pos hj])
    (fun go x y j hx hy j0 j1 => by
      show lb_Searches_removedPrices_17 505 a k z T go x y j = _
      have q := mem j j0 j1
      have x0 : g T 8 (g T 507 j.toNat).toNat = at_ W 0 (g T 507 j.toNat) := hT.pl.a0 q.1
      have x4 : g T 12 (g T 507 j.toNat).toNat = at_ W 4 (g T 507 j.toNat) := hT.pl.a4 q.1
      have eb : i_and (i_shr z j) 1 = bt z j := rfl
      have eR := F_rivals hT ha q.1
      unfold lb_Searches_removedPrices_17
      rw [if_neg (by omega : ¬ k ≤ j), eb]
      by_cases c : bt z j = 1
      · rw [if_pos c, if_pos (by omega : 0 ≤ j ∧ j < 4), tg_505_3, if_pos (by omega : 0 ≤ g T 507 j.toNat ∧ g T 507 j.toNat < 40), tg_505_1, tg_6_0, tg_7_0, tg_7_4, x0, x4, nm_x, nm_x, nm_x, wr_s (z := j + 1) (by omega) (by omega), decide_eq_false (by omega : ¬ bt z j ≠ 1), Bool.false_and, if_neg Bool.false_ne_true, if_pos c, if_pos c]
      · rw [if_neg c, if_pos (by omega : 0 ≤ j ∧ j < 4), tg_505_1, tg_6_0, tg_505_3, eR, bnO_s, nm_x, wr_s (z := j + 1) (by omega) (by omega), decide_eq_true c, Bool.true_and, if_neg c, if_neg c, Int.add_zero, Int.add_zero, wr_id hx, wr_id hy]
        unfold rvG
        by_cases d : at_ W 1 a ≠ 0 ∧ at_ W 1 (g T 507 j.toNat) = at_ W 1 a
        · rw [if_pos (decide_eq_true ⟨fun e => q.2 e.symm, d.1, d.2.symm⟩), if_pos (decide_eq_true d)]
        · rw [if_neg (by rw [decide_eq_true_eq]; exact fun e => d ⟨e.2.1, e.2.2.symm⟩), if_neg (by rw [decide_eq_true_eq]; exact d)]) ⟨by omega, by omega⟩ (inRk rfl) (FU_lt (by omega))
  have e0 : sumR (fun j => if bt z j = 1 then at_ W 0 (g T 507 j.toNat) else 0) 0 (k - 0).toNat = sgM T 507 k z (at_ W 0) := by rw [Int.sub_zero]; rfl
  have e4 : sumR (fun j => if bt z j = 1 then at_ W 4 (g T 507 j.toNat) else 0) 0 (k - 0).toNat = sgM T 507 k z (at_ W 4) := by rw [Int.sub_zero]; rfl
  rw [e0, e4, Int.zero_add, wr_s (z := lefO W p a (-1) + sgM T 507 k z (at_ W 0)) (by omega) (by omega), wr_s (z := sgM T 507 k z (at_ W 4)) (by omega) (by omega)] at q
  have xa : g T 8 a.toNat = at_ W 0 a := hT.pl.a0 ha
  unfold fn_Searches_removedPrices vCm
  rw [tg_505_0, P_roomFor hT ha hp.1 hp.2, bnO_s, q]
  cases d : anyR (fun j => decide (bt z j ≠ 1) && rvG W a (g T 507 j.toNat)) 0 (k - 0).toNat
  · rw [if_neg Bool.false_ne_true, bnS_r, if_pos (by omega : 0 ≤ a ∧ a < 40), tg_505_1, tg_6_0, tg_7_0, xa]
    show (if at_ W 0 a ≤ lefO W p a (-1) + sgM T 507 k z (at_ W 0) then some (sgM T 507 k z (at_ W 4)) else some (-1)) = _
    by_cases f : at_ W 0 a ≤ lefO W p a (-1) + sgM T 507 k z (at_ W 0)
    · rw [if_pos f, decide_eq_true f]; rfl
    · rw [if_neg f, decide_eq_false f]; rfl
  · rw [if_pos rfl, bnS_l]; rfl
theorem ev_room (h : PT S 5 W) (hG : Good W) (ha : 0 ≤ a ∧ a < nA W) (hp : 1 ≤ p ∧ p ≤ pgs W) : ∃ k T, k ≤ 4 ∧ LsI S T 507 (inP W a p) (nA W) k ∧ fn_Searches_pricesForRoom 505 a p S = some (itR (mnF (vCm W a p T k) (fun z => sgM T 507 k z (at_ W 4)) (-1)) 0 (i_shl 1 k - 0).toNat (-1), T) := by
  have b := h.pl.b
  obtain ⟨k, T, e, hk, hL⟩ := ev_list h hG hp (a := a) (nA W - 0).toNat FU 0 0 S rfl (FU_lt (by omega)) (by omega) LsI.zero
  have k0 := hL.1.2
  have s4 := sh4 ⟨k0, hk⟩
  have e' : lo_Searches_pricesForRoom_5 505 a p FU (0, 0, S) = some (k, T) := e
  refine ⟨k, T, hk, hL, ?_⟩
  have q : lo_Searches_pricesForRoom_71 505 a p k T FU (-1, 0) = some (itR (mnF (vCm W a p T k) (fun z => sgM T 507 k z (at_ W 4)) (-1)) 0 (i_shl 1 k - 0).toNat (-1)) :=
    lp_acc (body := fun go p0 => lb_Searches_pricesForRoom_71 505 a p k T go p0.1 p0.2) (mnF (vCm W a p T k) (fun z => sgM T 507 k z (at_ W 4)) (-1)) 0 (i_shl 1 k)
      (fun go s i hi => by
        show lb_Searches_pricesForRoom_71 505 a p k T go s i = _
        unfold lb_Searches_pricesForRoom_71
        rw [if_pos hi])
      (fun go s i i0 i1 => by
        show lb_Searches_pricesForRoom_71 505 a p k T go s i = go (mnF (vCm W a p T k) (fun z => sgM T 507 k z (at_ W 4)) (-1) i s, i + 1)
        have s4 := sg_bd (T := T) (c := 507) (k := k) (z := i) (w := at_ W 4) (q := 999) ⟨k0, hk⟩ (fun j j0 j1 => by
          have q := (hL.2.2.1 j j0 j1).1
          have v := hG.1.2.1 _ q.1 q.2
          omega) (by decide)
        unfold lb_Searches_pricesForRoom_71 mnF
        rw [if_neg (by omega : ¬ i_shl 1 k ≤ i), ev_cand h hG ha hp hL hk, bnO_s]
        simp only [nm_x, wr_s (z := i + 1) (by omega) (by omega)]
        cases c : vCm W a p T k i
        · rw [if_neg Bool.false_ne_true, if_neg Bool.false_ne_true, if_pos rfl]
        · rw [if_pos rfl, if_pos rfl]
          show (if sgM T 507 k i (at_ W 4) = -1 then _ else _) = go (if sgM T 507 k i (at_ W 4) ≤ -1 then s else if s = -1 then sgM T 507 k i (at_ W 4) else if s ≤ sgM T 507 k i (at_ W 4) then s else sgM T 507 k i (at_ W 4), i + 1)
          rw [if_neg (by omega : ¬ sgM T 507 k i (at_ W 4) = -1), if_neg (by omega : ¬ sgM T 507 k i (at_ W 4) ≤ -1)]
          by_cases d : s = -1
          · rw [if_pos d, if_pos d]
          · rw [if_neg d, if_neg d]
            by_cases f : s ≤ sgM T 507 k i (at_ W 4)
            · rw [if_pos f, if_pos f]
            · rw [if_neg f, if_neg f]) (FU_lt (by omega))
  unfold fn_Searches_pricesForRoom
  rw [e', bnO_s]
  show bnO (lo_Searches_pricesForRoom_71 505 a p k T FU (-1, 0)) (fun p22 => some (p22, T)) = _
  rw [q, bnO_s]
end Evict2

