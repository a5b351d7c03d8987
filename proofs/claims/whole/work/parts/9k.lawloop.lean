/-! THE LAW'S LOOP: every call keeps Inv, and no answer differs -/
section LawLoop
variable {sx : Nat → Int} {sn : Nat} {a5 : Int} {S : St} {go : Int × St → Option ((Bool × St) ⊕ St)}
theorem M_thr {T : St} : fn_Mo_thrown 514 T = some (g T 514 4) := rfl
theorem lc_next (h0 : 0 ≤ a5 ∧ a5 + 5 < (sn : Int)) (hn : (sn : Int) ≤ 99999) : jf_Law_law_3073 sx sn 0 514 524 525 go a5 S = go (a5 + 6, S) := by
  unfold jf_Law_law_3073
  rw [nm_x, wr_s (by omega) (by omega)]
theorem tail1 {β : Type} {e r : Int} {S2 : St} {J : St → Option β} {z : Option β} (h : Fin S2 e r) : (bnO (fn_Mo_thrown 514 S2) fun t => if t = e then (if e = 0 then (if (gl S2 524 0) = r then J S2 else z) else J S2) else z) = J S2 := by
  rw [M_thr, bnO_s, h.1, if_pos rfl]
  by_cases c : e = 0
  · rw [if_pos c, h.2.1 c, if_pos rfl]
  · rw [if_neg c]
theorem tail2 {β : Type} {e : Int} {b : Bool} {S2 : St} {J : St → Option β} {z : Option β} (h : Fin S2 e (bi b)) : (bnO (fn_Mo_thrown 514 S2) fun t => if t = e then (if e = 0 then (if (bi b) = 0 then (if (gl S2 524 0) = 0 then J S2 else z) else (if (gl S2 524 0) = 1 then J S2 else z)) else J S2) else z) = J S2 := by
  rw [M_thr, bnO_s, h.1, if_pos rfl]
  by_cases c : e = 0
  · rw [if_pos c, h.2.1 c]
    cases b
    · rw [if_pos (show bi false = 0 from rfl), if_pos (show bi false = 0 from rfl)]
    · rw [if_neg (show ¬ bi true = 0 by decide), if_pos (show bi true = 1 from rfl)]
  · rw [if_neg c]
theorem lc_296 (hI : Inv S) (hx : ∀ j, inR (sx j)) (h0 : 0 ≤ a5 ∧ a5 + 5 < (sn : Int)) (hn : (sn : Int) ≤ 99999) : ∃ S', jf_Law_law_296 sx sn 0 514 524 525 go a5 S = go (a5 + 6, S') ∧ Inv S' := by
  obtain ⟨r, S1, S2, e1, e2, f⟩ := ok_appendInput hI (hx (a5 + 1).toNat) (hx (a5 + 2).toNat) (hx (a5 + 3).toNat) (hx (a5 + 4).toNat) (hx (a5 + 5).toNat)
  refine ⟨S2, ?_, f⟩
  unfold jf_Law_law_296
  rw [if_pos (by omega : 0 ≤ a5 + 1 ∧ a5 + 1 < (sn : Int)), if_pos (by omega : 0 ≤ a5 + 2 ∧ a5 + 2 < (sn : Int)), if_pos (by omega : 0 ≤ a5 + 3 ∧ a5 + 3 < (sn : Int)), if_pos (by omega : 0 ≤ a5 + 4 ∧ a5 + 4 < (sn : Int)), if_pos (by omega : 0 ≤ a5 + 5 ∧ a5 + 5 < (sn : Int)), e1, bnO_s, e2, bnO_s, if_pos rfl]
  exact lc_next h0 hn
theorem lc_369 (hI : Inv S) (hx : ∀ j, inR (sx j)) (h0 : 0 ≤ a5 ∧ a5 + 5 < (sn : Int)) (hn : (sn : Int) ≤ 99999) : ∃ S', jf_Law_law_369 sx sn 0 514 524 525 go a5 S = go (a5 + 6, S') ∧ Inv S' := by
  obtain ⟨r, S1, S2, e1, e2, f⟩ := ok_truncateInput hI (hx (a5 + 1).toNat)
  refine ⟨S2, ?_, f⟩
  unfold jf_Law_law_369
  rw [if_pos (by omega : 0 ≤ a5 + 1 ∧ a5 + 1 < (sn : Int)), e1, bnO_s, e2, bnO_s, if_pos rfl]
  exact lc_next h0 hn
theorem lc_394 (hI : Inv S) (hx : ∀ j, inR (sx j)) (h0 : 0 ≤ a5 ∧ a5 + 5 < (sn : Int)) (hn : (sn : Int) ≤ 99999) : ∃ S', jf_Law_law_394 sx sn 0 514 524 525 go a5 S = go (a5 + 6, S') ∧ Inv S' := by
  obtain ⟨r, S1, S2, e1, e2, f⟩ := ok_load hI 
  refine ⟨S2, ?_, f⟩
  unfold jf_Law_law_394
  rw [e1, bnO_s, e2, bnO_s, if_pos rfl]
  exact lc_next h0 hn
theorem lc_407 (hI : Inv S) (hx : ∀ j, inR (sx j)) (h0 : 0 ≤ a5 ∧ a5 + 5 < (sn : Int)) (hn : (sn : Int) ≤ 99999) : ∃ S', jf_Law_law_407 sx sn 0 514 524 525 go a5 S = go (a5 + 6, S') ∧ Inv S' := by
  obtain ⟨r, S2, e1, e2, f⟩ := ok_errorCode hI 
  refine ⟨S2, ?_, f⟩
  unfold jf_Law_law_407
  rw [e1, bnO_s, e2, bnO_s, if_pos rfl]
  exact lc_next h0 hn
theorem lc_420 (hI : Inv S) (hx : ∀ j, inR (sx j)) (h0 : 0 ≤ a5 ∧ a5 + 5 < (sn : Int)) (hn : (sn : Int) ≤ 99999) : ∃ S', jf_Law_law_420 sx sn 0 514 524 525 go a5 S = go (a5 + 6, S') ∧ Inv S' := by
  obtain ⟨r, S2, e1, e2, f⟩ := ok_errorPosition hI 
  refine ⟨S2, ?_, f⟩
  unfold jf_Law_law_420
  rw [e1, bnO_s, e2, bnO_s, if_pos rfl]
  exact lc_next h0 hn
theorem lc_433 (hI : Inv S) (hx : ∀ j, inR (sx j)) (h0 : 0 ≤ a5 ∧ a5 + 5 < (sn : Int)) (hn : (sn : Int) ≤ 99999) : ∃ S', jf_Law_law_433 sx sn 0 514 524 525 go a5 S = go (a5 + 6, S') ∧ Inv S' := by
  obtain ⟨r, S2, e1, e2, f⟩ := ok_count hI (hx (a5 + 1).toNat)
  refine ⟨S2, ?_, f⟩
  unfold jf_Law_law_433
  rw [if_pos (by omega : 0 ≤ a5 + 1 ∧ a5 + 1 < (sn : Int)), e1, bnO_s, e2, bnO_s, if_pos rfl]
  exact lc_next h0 hn
theorem lc_458 (hI : Inv S) (hx : ∀ j, inR (sx j)) (h0 : 0 ≤ a5 ∧ a5 + 5 < (sn : Int)) (hn : (sn : Int) ≤ 99999) : ∃ S', jf_Law_law_458 sx sn 0 514 524 525 go a5 S = go (a5 + 6, S') ∧ Inv S' := by
  obtain ⟨e, S1, r, S2, e1, e2, f⟩ := ok_addAd hI (hx (a5 + 1).toNat) (hx (a5 + 2).toNat) (hx (a5 + 3).toNat) (hx (a5 + 4).toNat)
  refine ⟨S2, ?_, f.2.2⟩
  unfold jf_Law_law_458
  rw [if_pos (by omega : 0 ≤ a5 + 1 ∧ a5 + 1 < (sn : Int)), if_pos (by omega : 0 ≤ a5 + 2 ∧ a5 + 2 < (sn : Int)), if_pos (by omega : 0 ≤ a5 + 3 ∧ a5 + 3 < (sn : Int)), if_pos (by omega : 0 ≤ a5 + 4 ∧ a5 + 4 < (sn : Int)), e1, bnO_s, e2, bnO_s]
  exact (tail1 (J := fun S => jf_Law_law_3073 sx sn 0 514 524 525 go a5 S) f).trans (lc_next h0 hn)
theorem lc_550 (hI : Inv S) (hx : ∀ j, inR (sx j)) (h0 : 0 ≤ a5 ∧ a5 + 5 < (sn : Int)) (hn : (sn : Int) ≤ 99999) : ∃ S', jf_Law_law_550 sx sn 0 514 524 525 go a5 S = go (a5 + 6, S') ∧ Inv S' := by
  by_cases c : sx (a5 + 2).toNat = 0
  · obtain ⟨e, S1, b, S2, e1, e2, f⟩ := ok_setAd (x := 0) hI (hx (a5 + 1).toNat) (.inl rfl) (hx (a5 + 3).toNat)
    refine ⟨S2, ?_, f.2.2⟩
    unfold jf_Law_law_550
    rw [if_pos (by omega : 0 ≤ a5 + 1 ∧ a5 + 1 < (sn : Int)), if_pos (by omega : 0 ≤ a5 + 2 ∧ a5 + 2 < (sn : Int)), if_pos c]
    unfold jf_Law_law_571
    rw [if_pos (by omega : 0 ≤ a5 + 3 ∧ a5 + 3 < (sn : Int)), e1, bnO_s, if_pos (by omega : 0 ≤ a5 + 1 ∧ a5 + 1 < (sn : Int)), if_pos (by omega : 0 ≤ a5 + 2 ∧ a5 + 2 < (sn : Int)), if_pos c, e2, bnO_s]
    exact (tail2 (J := fun S => jf_Law_law_3073 sx sn 0 514 524 525 go a5 S) f).trans (lc_next h0 hn)
  · obtain ⟨e, S1, b, S2, e1, e2, f⟩ := ok_setAd (x := 1) hI (hx (a5 + 1).toNat) (.inr rfl) (hx (a5 + 3).toNat)
    refine ⟨S2, ?_, f.2.2⟩
    unfold jf_Law_law_550
    rw [if_pos (by omega : 0 ≤ a5 + 1 ∧ a5 + 1 < (sn : Int)), if_pos (by omega : 0 ≤ a5 + 2 ∧ a5 + 2 < (sn : Int)), if_neg c]
    unfold jf_Law_law_571
    rw [if_pos (by omega : 0 ≤ a5 + 3 ∧ a5 + 3 < (sn : Int)), e1, bnO_s, if_pos (by omega : 0 ≤ a5 + 1 ∧ a5 + 1 < (sn : Int)), if_pos (by omega : 0 ≤ a5 + 2 ∧ a5 + 2 < (sn : Int)), if_neg c, e2, bnO_s]
    exact (tail2 (J := fun S => jf_Law_law_3073 sx sn 0 514 524 525 go a5 S) f).trans (lc_next h0 hn)
theorem lc_653 (hI : Inv S) (hx : ∀ j, inR (sx j)) (h0 : 0 ≤ a5 ∧ a5 + 5 < (sn : Int)) (hn : (sn : Int) ≤ 99999) : ∃ S', jf_Law_law_653 sx sn 0 514 524 525 go a5 S = go (a5 + 6, S') ∧ Inv S' := by
  obtain ⟨e, S1, r, S2, e1, e2, f⟩ := ok_setPrice hI (hx (a5 + 1).toNat) (hx (a5 + 2).toNat)
  refine ⟨S2, ?_, f.2.2⟩
  unfold jf_Law_law_653
  rw [if_pos (by omega : 0 ≤ a5 + 1 ∧ a5 + 1 < (sn : Int)), if_pos (by omega : 0 ≤ a5 + 2 ∧ a5 + 2 < (sn : Int)), e1, bnO_s, e2, bnO_s]
  exact (tail1 (J := fun S => jf_Law_law_3073 sx sn 0 514 524 525 go a5 S) f).trans (lc_next h0 hn)
theorem lc_721 (hI : Inv S) (hx : ∀ j, inR (sx j)) (h0 : 0 ≤ a5 ∧ a5 + 5 < (sn : Int)) (hn : (sn : Int) ≤ 99999) : ∃ S', jf_Law_law_721 sx sn 0 514 524 525 go a5 S = go (a5 + 6, S') ∧ Inv S' := by
  obtain ⟨e, S1, r, S2, e1, e2, f⟩ := ok_ad hI (hx (a5 + 1).toNat) (hx (a5 + 2).toNat)
  refine ⟨S2, ?_, f.2.2⟩
  unfold jf_Law_law_721
  rw [if_pos (by omega : 0 ≤ a5 + 1 ∧ a5 + 1 < (sn : Int)), if_pos (by omega : 0 ≤ a5 + 2 ∧ a5 + 2 < (sn : Int)), e1, bnO_s, e2, bnO_s]
  exact (tail1 (J := fun S => jf_Law_law_3073 sx sn 0 514 524 525 go a5 S) f).trans (lc_next h0 hn)
theorem lc_789 (hI : Inv S) (hx : ∀ j, inR (sx j)) (h0 : 0 ≤ a5 ∧ a5 + 5 < (sn : Int)) (hn : (sn : Int) ≤ 99999) : ∃ S', jf_Law_law_789 sx sn 0 514 524 525 go a5 S = go (a5 + 6, S') ∧ Inv S' := by
  obtain ⟨e, S1, r, S2, e1, e2, f⟩ := ok_story hI (hx (a5 + 1).toNat) (hx (a5 + 2).toNat)
  refine ⟨S2, ?_, f.2.2⟩
  unfold jf_Law_law_789
  rw [if_pos (by omega : 0 ≤ a5 + 1 ∧ a5 + 1 < (sn : Int)), if_pos (by omega : 0 ≤ a5 + 2 ∧ a5 + 2 < (sn : Int)), e1, bnO_s, e2, bnO_s]
  exact (tail1 (J := fun S => jf_Law_law_3073 sx sn 0 514 524 525 go a5 S) f).trans (lc_next h0 hn)
theorem lc_857 (hI : Inv S) (hx : ∀ j, inR (sx j)) (h0 : 0 ≤ a5 ∧ a5 + 5 < (sn : Int)) (hn : (sn : Int) ≤ 99999) : ∃ S', jf_Law_law_857 sx sn 0 514 524 525 go a5 S = go (a5 + 6, S') ∧ Inv S' := by
  obtain ⟨e, S1, r, S2, e1, e2, f⟩ := ok_standby hI (hx (a5 + 1).toNat) (hx (a5 + 2).toNat)
  refine ⟨S2, ?_, f.2.2⟩
  unfold jf_Law_law_857
  rw [if_pos (by omega : 0 ≤ a5 + 1 ∧ a5 + 1 < (sn : Int)), if_pos (by omega : 0 ≤ a5 + 2 ∧ a5 + 2 < (sn : Int)), e1, bnO_s, e2, bnO_s]
  exact (tail1 (J := fun S => jf_Law_law_3073 sx sn 0 514 524 525 go a5 S) f).trans (lc_next h0 hn)
theorem lc_925 (hI : Inv S) (hx : ∀ j, inR (sx j)) (h0 : 0 ≤ a5 ∧ a5 + 5 < (sn : Int)) (hn : (sn : Int) ≤ 99999) : ∃ S', jf_Law_law_925 sx sn 0 514 524 525 go a5 S = go (a5 + 6, S') ∧ Inv S' := by
  obtain ⟨e, S1, r, S2, e1, e2, f⟩ := ok_page hI (hx (a5 + 1).toNat) (hx (a5 + 2).toNat)
  refine ⟨S2, ?_, f.2.2⟩
  unfold jf_Law_law_925
  rw [if_pos (by omega : 0 ≤ a5 + 1 ∧ a5 + 1 < (sn : Int)), if_pos (by omega : 0 ≤ a5 + 2 ∧ a5 + 2 < (sn : Int)), e1, bnO_s, e2, bnO_s]
  exact (tail1 (J := fun S => jf_Law_law_3073 sx sn 0 514 524 525 go a5 S) f).trans (lc_next h0 hn)
theorem lc_993 (hI : Inv S) (hx : ∀ j, inR (sx j)) (h0 : 0 ≤ a5 ∧ a5 + 5 < (sn : Int)) (hn : (sn : Int) ≤ 99999) : ∃ S', jf_Law_law_993 sx sn 0 514 524 525 go a5 S = go (a5 + 6, S') ∧ Inv S' := by
  obtain ⟨e, S1, r, S2, e1, e2, f⟩ := ok_adOn hI (hx (a5 + 1).toNat) (hx (a5 + 2).toNat)
  refine ⟨S2, ?_, f.2.2⟩
  unfold jf_Law_law_993
  rw [if_pos (by omega : 0 ≤ a5 + 1 ∧ a5 + 1 < (sn : Int)), if_pos (by omega : 0 ≤ a5 + 2 ∧ a5 + 2 < (sn : Int)), e1, bnO_s, e2, bnO_s]
  exact (tail1 (J := fun S => jf_Law_law_3073 sx sn 0 514 524 525 go a5 S) f).trans (lc_next h0 hn)
theorem lc_1061 (hI : Inv S) (hx : ∀ j, inR (sx j)) (h0 : 0 ≤ a5 ∧ a5 + 5 < (sn : Int)) (hn : (sn : Int) ≤ 99999) : ∃ S', jf_Law_law_1061 sx sn 0 514 524 525 go a5 S = go (a5 + 6, S') ∧ Inv S' := by
  obtain ⟨e, S1, r, S2, e1, e2, f⟩ := ok_form hI (hx (a5 + 1).toNat) (hx (a5 + 2).toNat)
  refine ⟨S2, ?_, f.2.2⟩
  unfold jf_Law_law_1061
  rw [if_pos (by omega : 0 ≤ a5 + 1 ∧ a5 + 1 < (sn : Int)), if_pos (by omega : 0 ≤ a5 + 2 ∧ a5 + 2 < (sn : Int)), e1, bnO_s, e2, bnO_s]
  exact (tail1 (J := fun S => jf_Law_law_3073 sx sn 0 514 524 525 go a5 S) f).trans (lc_next h0 hn)
theorem lc_1129 (hI : Inv S) (hx : ∀ j, inR (sx j)) (h0 : 0 ≤ a5 ∧ a5 + 5 < (sn : Int)) (hn : (sn : Int) ≤ 99999) : ∃ S', jf_Law_law_1129 sx sn 0 514 524 525 go a5 S = go (a5 + 6, S') ∧ Inv S' := by
  obtain ⟨e, S1, r, S2, e1, e2, f⟩ := ok_pageOf hI (hx (a5 + 1).toNat) (hx (a5 + 2).toNat)
  refine ⟨S2, ?_, f.2.2⟩
  unfold jf_Law_law_1129
  rw [if_pos (by omega : 0 ≤ a5 + 1 ∧ a5 + 1 < (sn : Int)), if_pos (by omega : 0 ≤ a5 + 2 ∧ a5 + 2 < (sn : Int)), e1, bnO_s, e2, bnO_s]
  exact (tail1 (J := fun S => jf_Law_law_3073 sx sn 0 514 524 525 go a5 S) f).trans (lc_next h0 hn)
theorem lc_1197 (hI : Inv S) (hx : ∀ j, inR (sx j)) (h0 : 0 ≤ a5 ∧ a5 + 5 < (sn : Int)) (hn : (sn : Int) ≤ 99999) : ∃ S', jf_Law_law_1197 sx sn 0 514 524 525 go a5 S = go (a5 + 6, S') ∧ Inv S' := by
  obtain ⟨e, S1, r, S2, e1, e2, f⟩ := ok_reason hI (hx (a5 + 1).toNat) (hx (a5 + 2).toNat)
  refine ⟨S2, ?_, f.2.2⟩
  unfold jf_Law_law_1197
  rw [if_pos (by omega : 0 ≤ a5 + 1 ∧ a5 + 1 < (sn : Int)), if_pos (by omega : 0 ≤ a5 + 2 ∧ a5 + 2 < (sn : Int)), e1, bnO_s, e2, bnO_s]
  exact (tail1 (J := fun S => jf_Law_law_3073 sx sn 0 514 524 525 go a5 S) f).trans (lc_next h0 hn)
theorem lc_1265 (hI : Inv S) (hx : ∀ j, inR (sx j)) (h0 : 0 ≤ a5 ∧ a5 + 5 < (sn : Int)) (hn : (sn : Int) ≤ 99999) : ∃ S', jf_Law_law_1265 sx sn 0 514 524 525 go a5 S = go (a5 + 6, S') ∧ Inv S' := by
  obtain ⟨e, S1, r, S2, e1, e2, f⟩ := ok_storyReason hI (hx (a5 + 1).toNat) (hx (a5 + 2).toNat)
  refine ⟨S2, ?_, f.2.2⟩
  unfold jf_Law_law_1265
  rw [if_pos (by omega : 0 ≤ a5 + 1 ∧ a5 + 1 < (sn : Int)), if_pos (by omega : 0 ≤ a5 + 2 ∧ a5 + 2 < (sn : Int)), e1, bnO_s, e2, bnO_s]
  exact (tail1 (J := fun S => jf_Law_law_3073 sx sn 0 514 524 525 go a5 S) f).trans (lc_next h0 hn)
theorem lc_1333 (hI : Inv S) (hx : ∀ j, inR (sx j)) (h0 : 0 ≤ a5 ∧ a5 + 5 < (sn : Int)) (hn : (sn : Int) ≤ 99999) : ∃ S', jf_Law_law_1333 sx sn 0 514 524 525 go a5 S = go (a5 + 6, S') ∧ Inv S' := by
  obtain ⟨e, S1, r, S2, e1, e2, f⟩ := ok_put hI (hx (a5 + 1).toNat) (hx (a5 + 2).toNat)
  refine ⟨S2, ?_, f.2.2⟩
  unfold jf_Law_law_1333
  rw [if_pos (by omega : 0 ≤ a5 + 1 ∧ a5 + 1 < (sn : Int)), if_pos (by omega : 0 ≤ a5 + 2 ∧ a5 + 2 < (sn : Int)), e1, bnO_s, e2, bnO_s]
  exact (tail1 (J := fun S => jf_Law_law_3073 sx sn 0 514 524 525 go a5 S) f).trans (lc_next h0 hn)
theorem lc_1401 (hI : Inv S) (hx : ∀ j, inR (sx j)) (h0 : 0 ≤ a5 ∧ a5 + 5 < (sn : Int)) (hn : (sn : Int) ≤ 99999) : ∃ S', jf_Law_law_1401 sx sn 0 514 524 525 go a5 S = go (a5 + 6, S') ∧ Inv S' := by
  obtain ⟨e, S1, r, S2, e1, e2, f⟩ := ok_lay hI (hx (a5 + 1).toNat) (hx (a5 + 2).toNat)
  refine ⟨S2, ?_, f.2.2⟩
  unfold jf_Law_law_1401
  rw [if_pos (by omega : 0 ≤ a5 + 1 ∧ a5 + 1 < (sn : Int)), if_pos (by omega : 0 ≤ a5 + 2 ∧ a5 + 2 < (sn : Int)), e1, bnO_s, e2, bnO_s]
  exact (tail1 (J := fun S => jf_Law_law_3073 sx sn 0 514 524 525 go a5 S) f).trans (lc_next h0 hn)
theorem lc_1469 (hI : Inv S) (hx : ∀ j, inR (sx j)) (h0 : 0 ≤ a5 ∧ a5 + 5 < (sn : Int)) (hn : (sn : Int) ≤ 99999) : ∃ S', jf_Law_law_1469 sx sn 0 514 524 525 go a5 S = go (a5 + 6, S') ∧ Inv S' := by
  obtain ⟨e, S1, r, S2, e1, e2, f⟩ := ok_take hI (hx (a5 + 1).toNat)
  refine ⟨S2, ?_, f.2.2⟩
  unfold jf_Law_law_1469
  rw [if_pos (by omega : 0 ≤ a5 + 1 ∧ a5 + 1 < (sn : Int)), e1, bnO_s, e2, bnO_s]
  exact (tail2 (J := fun S => jf_Law_law_3073 sx sn 0 514 524 525 go a5 S) f).trans (lc_next h0 hn)
theorem lc_1532 (hI : Inv S) (hx : ∀ j, inR (sx j)) (h0 : 0 ≤ a5 ∧ a5 + 5 < (sn : Int)) (hn : (sn : Int) ≤ 99999) : ∃ S', jf_Law_law_1532 sx sn 0 514 524 525 go a5 S = go (a5 + 6, S') ∧ Inv S' := by
  obtain ⟨e, S1, r, S2, e1, e2, f⟩ := ok_takeStory hI (hx (a5 + 1).toNat)
  refine ⟨S2, ?_, f.2.2⟩
  unfold jf_Law_law_1532
  rw [if_pos (by omega : 0 ≤ a5 + 1 ∧ a5 + 1 < (sn : Int)), e1, bnO_s, e2, bnO_s]
  exact (tail2 (J := fun S => jf_Law_law_3073 sx sn 0 514 524 525 go a5 S) f).trans (lc_next h0 hn)
theorem lc_1595 (hI : Inv S) (hx : ∀ j, inR (sx j)) (h0 : 0 ≤ a5 ∧ a5 + 5 < (sn : Int)) (hn : (sn : Int) ≤ 99999) : ∃ S', jf_Law_law_1595 sx sn 0 514 524 525 go a5 S = go (a5 + 6, S') ∧ Inv S' := by
  obtain ⟨e, S1, r, S2, e1, e2, f⟩ := ok_use hI (hx (a5 + 1).toNat) (hx (a5 + 2).toNat)
  refine ⟨S2, ?_, f.2.2⟩
  unfold jf_Law_law_1595
  rw [if_pos (by omega : 0 ≤ a5 + 1 ∧ a5 + 1 < (sn : Int)), if_pos (by omega : 0 ≤ a5 + 2 ∧ a5 + 2 < (sn : Int)), e1, bnO_s, e2, bnO_s]
  exact (tail1 (J := fun S => jf_Law_law_3073 sx sn 0 514 524 525 go a5 S) f).trans (lc_next h0 hn)
theorem lc_1663 (hI : Inv S) (hx : ∀ j, inR (sx j)) (h0 : 0 ≤ a5 ∧ a5 + 5 < (sn : Int)) (hn : (sn : Int) ≤ 99999) : ∃ S', jf_Law_law_1663 sx sn 0 514 524 525 go a5 S = go (a5 + 6, S') ∧ Inv S' := by
  obtain ⟨e, S1, r, S2, e1, e2, f⟩ := ok_clear hI (hx (a5 + 1).toNat)
  refine ⟨S2, ?_, f.2.2⟩
  unfold jf_Law_law_1663
  rw [if_pos (by omega : 0 ≤ a5 + 1 ∧ a5 + 1 < (sn : Int)), e1, bnO_s, e2, bnO_s]
  exact (tail1 (J := fun S => jf_Law_law_3073 sx sn 0 514 524 525 go a5 S) f).trans (lc_next h0 hn)
theorem lc_1719 (hI : Inv S) (hx : ∀ j, inR (sx j)) (h0 : 0 ≤ a5 ∧ a5 + 5 < (sn : Int)) (hn : (sn : Int) ≤ 99999) : ∃ S', jf_Law_law_1719 sx sn 0 514 524 525 go a5 S = go (a5 + 6, S') ∧ Inv S' := by
  obtain ⟨e, S1, r, S2, e1, e2, f⟩ := ok_exchange hI (hx (a5 + 1).toNat) (hx (a5 + 2).toNat)
  refine ⟨S2, ?_, f.2.2⟩
  unfold jf_Law_law_1719
  rw [if_pos (by omega : 0 ≤ a5 + 1 ∧ a5 + 1 < (sn : Int)), if_pos (by omega : 0 ≤ a5 + 2 ∧ a5 + 2 < (sn : Int)), e1, bnO_s, e2, bnO_s]
  exact (tail1 (J := fun S => jf_Law_law_3073 sx sn 0 514 524 525 go a5 S) f).trans (lc_next h0 hn)
theorem lc_1787 (hI : Inv S) (hx : ∀ j, inR (sx j)) (h0 : 0 ≤ a5 ∧ a5 + 5 < (sn : Int)) (hn : (sn : Int) ≤ 99999) : ∃ S', jf_Law_law_1787 sx sn 0 514 524 525 go a5 S = go (a5 + 6, S') ∧ Inv S' := by
  by_cases c : sx (a5 + 2).toNat = 0
  · obtain ⟨e, S1, b, S2, e1, e2, f⟩ := ok_setColor (x := 0) hI (hx (a5 + 1).toNat) (.inl rfl)
    refine ⟨S2, ?_, f.2.2⟩
    unfold jf_Law_law_1787
    rw [if_pos (by omega : 0 ≤ a5 + 1 ∧ a5 + 1 < (sn : Int)), if_pos (by omega : 0 ≤ a5 + 2 ∧ a5 + 2 < (sn : Int)), if_pos c]
    unfold jf_Law_law_1808
    rw [e1, bnO_s, if_pos (by omega : 0 ≤ a5 + 1 ∧ a5 + 1 < (sn : Int)), if_pos (by omega : 0 ≤ a5 + 2 ∧ a5 + 2 < (sn : Int)), if_pos c, e2, bnO_s]
    exact (tail2 (J := fun S => jf_Law_law_3073 sx sn 0 514 524 525 go a5 S) f).trans (lc_next h0 hn)
  · obtain ⟨e, S1, b, S2, e1, e2, f⟩ := ok_setColor (x := 1) hI (hx (a5 + 1).toNat) (.inr rfl)
    refine ⟨S2, ?_, f.2.2⟩
    unfold jf_Law_law_1787
    rw [if_pos (by omega : 0 ≤ a5 + 1 ∧ a5 + 1 < (sn : Int)), if_pos (by omega : 0 ≤ a5 + 2 ∧ a5 + 2 < (sn : Int)), if_neg c]
    unfold jf_Law_law_1808
    rw [e1, bnO_s, if_pos (by omega : 0 ≤ a5 + 1 ∧ a5 + 1 < (sn : Int)), if_pos (by omega : 0 ≤ a5 + 2 ∧ a5 + 2 < (sn : Int)), if_neg c, e2, bnO_s]
    exact (tail2 (J := fun S => jf_Law_law_3073 sx sn 0 514 524 525 go a5 S) f).trans (lc_next h0 hn)
theorem lc_1878 (hI : Inv S) (hx : ∀ j, inR (sx j)) (h0 : 0 ≤ a5 ∧ a5 + 5 < (sn : Int)) (hn : (sn : Int) ≤ 99999) : ∃ S', jf_Law_law_1878 sx sn 0 514 524 525 go a5 S = go (a5 + 6, S') ∧ Inv S' := by
  obtain ⟨e, S1, r, S2, e1, e2, f⟩ := ok_setClosing hI (hx (a5 + 1).toNat) (hx (a5 + 2).toNat)
  refine ⟨S2, ?_, f.2.2⟩
  unfold jf_Law_law_1878
  rw [if_pos (by omega : 0 ≤ a5 + 1 ∧ a5 + 1 < (sn : Int)), if_pos (by omega : 0 ≤ a5 + 2 ∧ a5 + 2 < (sn : Int)), e1, bnO_s, e2, bnO_s]
  exact (tail1 (J := fun S => jf_Law_law_3073 sx sn 0 514 524 525 go a5 S) f).trans (lc_next h0 hn)
theorem lc_1946 (hI : Inv S) (hx : ∀ j, inR (sx j)) (h0 : 0 ≤ a5 ∧ a5 + 5 < (sn : Int)) (hn : (sn : Int) ≤ 99999) : ∃ S', jf_Law_law_1946 sx sn 0 514 524 525 go a5 S = go (a5 + 6, S') ∧ Inv S' := by
  obtain ⟨e, S1, r, S2, e1, e2, f⟩ := ok_pass hI (hx (a5 + 1).toNat)
  refine ⟨S2, ?_, f.2.2⟩
  unfold jf_Law_law_1946
  rw [if_pos (by omega : 0 ≤ a5 + 1 ∧ a5 + 1 < (sn : Int)), e1, bnO_s, e2, bnO_s]
  exact (tail1 (J := fun S => jf_Law_law_3073 sx sn 0 514 524 525 go a5 S) f).trans (lc_next h0 hn)
theorem lc_2002 (hI : Inv S) (hx : ∀ j, inR (sx j)) (h0 : 0 ≤ a5 ∧ a5 + 5 < (sn : Int)) (hn : (sn : Int) ≤ 99999) : ∃ S', jf_Law_law_2002 sx sn 0 514 524 525 go a5 S = go (a5 + 6, S') ∧ Inv S' := by
  obtain ⟨e, S1, r, S2, e1, e2, f⟩ := ok_print hI (hx (a5 + 1).toNat)
  refine ⟨S2, ?_, f.2.2⟩
  unfold jf_Law_law_2002
  rw [if_pos (by omega : 0 ≤ a5 + 1 ∧ a5 + 1 < (sn : Int)), e1, bnO_s, e2, bnO_s]
  exact (tail1 (J := fun S => jf_Law_law_3073 sx sn 0 514 524 525 go a5 S) f).trans (lc_next h0 hn)
theorem lc_2058 (hI : Inv S) (hx : ∀ j, inR (sx j)) (h0 : 0 ≤ a5 ∧ a5 + 5 < (sn : Int)) (hn : (sn : Int) ≤ 99999) : ∃ S', jf_Law_law_2058 sx sn 0 514 524 525 go a5 S = go (a5 + 6, S') ∧ Inv S' := by
  obtain ⟨r, S2, e1, e2, f⟩ := ok_nextClosing hI 
  refine ⟨S2, ?_, f⟩
  unfold jf_Law_law_2058
  rw [e1, bnO_s, e2, bnO_s, if_pos rfl]
  exact lc_next h0 hn
theorem lc_2071 (hI : Inv S) (hx : ∀ j, inR (sx j)) (h0 : 0 ≤ a5 ∧ a5 + 5 < (sn : Int)) (hn : (sn : Int) ≤ 99999) : ∃ S', jf_Law_law_2071 sx sn 0 514 524 525 go a5 S = go (a5 + 6, S') ∧ Inv S' := by
  obtain ⟨r, S1, S2, e1, e2, f⟩ := ok_placeAds hI 
  refine ⟨S2, ?_, f⟩
  unfold jf_Law_law_2071
  rw [e1, bnO_s, e2, bnO_s, if_pos rfl]
  exact lc_next h0 hn
theorem lc_2084 (hI : Inv S) (hx : ∀ j, inR (sx j)) (h0 : 0 ≤ a5 ∧ a5 + 5 < (sn : Int)) (hn : (sn : Int) ≤ 99999) : ∃ S', jf_Law_law_2084 sx sn 0 514 524 525 go a5 S = go (a5 + 6, S') ∧ Inv S' := by
  obtain ⟨r, S1, S2, e1, e2, f⟩ := ok_layStories hI 
  refine ⟨S2, ?_, f⟩
  unfold jf_Law_law_2084
  rw [e1, bnO_s, e2, bnO_s, if_pos rfl]
  exact lc_next h0 hn
theorem lc_2097 (hI : Inv S) (hx : ∀ j, inR (sx j)) (h0 : 0 ≤ a5 ∧ a5 + 5 < (sn : Int)) (hn : (sn : Int) ≤ 99999) : ∃ S', jf_Law_law_2097 sx sn 0 514 524 525 go a5 S = go (a5 + 6, S') ∧ Inv S' := by
  obtain ⟨e, S1, r, S2, e1, e2, f⟩ := ok_choices hI (hx (a5 + 1).toNat)
  refine ⟨S2, ?_, f.2.2⟩
  unfold jf_Law_law_2097
  rw [if_pos (by omega : 0 ≤ a5 + 1 ∧ a5 + 1 < (sn : Int)), e1, bnO_s, e2, bnO_s]
  exact (tail1 (J := fun S => jf_Law_law_3073 sx sn 0 514 524 525 go a5 S) f).trans (lc_next h0 hn)
theorem lc_2153 (hI : Inv S) (hx : ∀ j, inR (sx j)) (h0 : 0 ≤ a5 ∧ a5 + 5 < (sn : Int)) (hn : (sn : Int) ≤ 99999) : ∃ S', jf_Law_law_2153 sx sn 0 514 524 525 go a5 S = go (a5 + 6, S') ∧ Inv S' := by
  obtain ⟨e, S1, r, S2, e1, e2, f⟩ := ok_firstPage hI (hx (a5 + 1).toNat) (hx (a5 + 2).toNat)
  refine ⟨S2, ?_, f.2.2⟩
  unfold jf_Law_law_2153
  rw [if_pos (by omega : 0 ≤ a5 + 1 ∧ a5 + 1 < (sn : Int)), if_pos (by omega : 0 ≤ a5 + 2 ∧ a5 + 2 < (sn : Int)), e1, bnO_s, e2, bnO_s]
  exact (tail1 (J := fun S => jf_Law_law_3073 sx sn 0 514 524 525 go a5 S) f).trans (lc_next h0 hn)
theorem lc_2221 (hI : Inv S) (hx : ∀ j, inR (sx j)) (h0 : 0 ≤ a5 ∧ a5 + 5 < (sn : Int)) (hn : (sn : Int) ≤ 99999) : ∃ S', jf_Law_law_2221 sx sn 0 514 524 525 go a5 S = go (a5 + 6, S') ∧ Inv S' := by
  obtain ⟨r, S2, e1, e2, f⟩ := ok_tightest hI 
  refine ⟨S2, ?_, f⟩
  unfold jf_Law_law_2221
  rw [e1, bnO_s, e2, bnO_s, if_pos rfl]
  exact lc_next h0 hn
theorem lc_2234 (hI : Inv S) (hx : ∀ j, inR (sx j)) (h0 : 0 ≤ a5 ∧ a5 + 5 < (sn : Int)) (hn : (sn : Int) ≤ 99999) : ∃ S', jf_Law_law_2234 sx sn 0 514 524 525 go a5 S = go (a5 + 6, S') ∧ Inv S' := by
  obtain ⟨e, S1, r, S2, e1, e2, f⟩ := ok_eviction hI (hx (a5 + 1).toNat) (hx (a5 + 2).toNat)
  refine ⟨S2, ?_, f.2.2⟩
  unfold jf_Law_law_2234
  rw [if_pos (by omega : 0 ≤ a5 + 1 ∧ a5 + 1 < (sn : Int)), if_pos (by omega : 0 ≤ a5 + 2 ∧ a5 + 2 < (sn : Int)), e1, bnO_s, e2, bnO_s]
  exact (tail1 (J := fun S => jf_Law_law_3073 sx sn 0 514 524 525 go a5 S) f).trans (lc_next h0 hn)
theorem lc_2302 (hI : Inv S) (hx : ∀ j, inR (sx j)) (h0 : 0 ≤ a5 ∧ a5 + 5 < (sn : Int)) (hn : (sn : Int) ≤ 99999) : ∃ S', jf_Law_law_2302 sx sn 0 514 524 525 go a5 S = go (a5 + 6, S') ∧ Inv S' := by
  obtain ⟨e, S1, r, S2, e1, e2, f⟩ := ok_cheapestPage hI (hx (a5 + 1).toNat)
  refine ⟨S2, ?_, f.2.2⟩
  unfold jf_Law_law_2302
  rw [if_pos (by omega : 0 ≤ a5 + 1 ∧ a5 + 1 < (sn : Int)), e1, bnO_s, e2, bnO_s]
  exact (tail1 (J := fun S => jf_Law_law_3073 sx sn 0 514 524 525 go a5 S) f).trans (lc_next h0 hn)
theorem lc_2358 (hI : Inv S) (hx : ∀ j, inR (sx j)) (h0 : 0 ≤ a5 ∧ a5 + 5 < (sn : Int)) (hn : (sn : Int) ≤ 99999) : ∃ S', jf_Law_law_2358 sx sn 0 514 524 525 go a5 S = go (a5 + 6, S') ∧ Inv S' := by
  obtain ⟨r, S1, S2, e1, e2, f⟩ := ok_matching hI 
  refine ⟨S2, ?_, f⟩
  unfold jf_Law_law_2358
  rw [e1, bnO_s, e2, bnO_s, if_pos rfl]
  exact lc_next h0 hn
theorem lc_2371 (hI : Inv S) (hx : ∀ j, inR (sx j)) (h0 : 0 ≤ a5 ∧ a5 + 5 < (sn : Int)) (hn : (sn : Int) ≤ 99999) : ∃ S', jf_Law_law_2371 sx sn 0 514 524 525 go a5 S = go (a5 + 6, S') ∧ Inv S' := by
  obtain ⟨e, S1, r, S2, e1, e2, f⟩ := ok_bestColor hI (hx (a5 + 1).toNat)
  refine ⟨S2, ?_, f.2.2⟩
  unfold jf_Law_law_2371
  rw [if_pos (by omega : 0 ≤ a5 + 1 ∧ a5 + 1 < (sn : Int)), e1, bnO_s, e2, bnO_s]
  exact (tail1 (J := fun S => jf_Law_law_3073 sx sn 0 514 524 525 go a5 S) f).trans (lc_next h0 hn)
theorem lc_2427 (hI : Inv S) (hx : ∀ j, inR (sx j)) (h0 : 0 ≤ a5 ∧ a5 + 5 < (sn : Int)) (hn : (sn : Int) ≤ 99999) : ∃ S', jf_Law_law_2427 sx sn 0 514 524 525 go a5 S = go (a5 + 6, S') ∧ Inv S' := by
  obtain ⟨r, S2, e1, e2, f⟩ := ok_nearRivals hI 
  refine ⟨S2, ?_, f⟩
  unfold jf_Law_law_2427
  rw [e1, bnO_s, e2, bnO_s, if_pos rfl]
  exact lc_next h0 hn
theorem lc_2440 (hI : Inv S) (hx : ∀ j, inR (sx j)) (h0 : 0 ≤ a5 ∧ a5 + 5 < (sn : Int)) (hn : (sn : Int) ≤ 99999) : ∃ S', jf_Law_law_2440 sx sn 0 514 524 525 go a5 S = go (a5 + 6, S') ∧ Inv S' := by
  obtain ⟨e, S1, r, S2, e1, e2, f⟩ := ok_groupOn hI (hx (a5 + 1).toNat) (hx (a5 + 2).toNat)
  refine ⟨S2, ?_, f.2.2⟩
  unfold jf_Law_law_2440
  rw [if_pos (by omega : 0 ≤ a5 + 1 ∧ a5 + 1 < (sn : Int)), if_pos (by omega : 0 ≤ a5 + 2 ∧ a5 + 2 < (sn : Int)), e1, bnO_s, e2, bnO_s]
  exact (tail1 (J := fun S => jf_Law_law_3073 sx sn 0 514 524 525 go a5 S) f).trans (lc_next h0 hn)
theorem lc_2508 (hI : Inv S) (hx : ∀ j, inR (sx j)) (h0 : 0 ≤ a5 ∧ a5 + 5 < (sn : Int)) (hn : (sn : Int) ≤ 99999) : ∃ S', jf_Law_law_2508 sx sn 0 514 524 525 go a5 S = go (a5 + 6, S') ∧ Inv S' := by
  obtain ⟨e, S1, r, S2, e1, e2, f⟩ := ok_spreadsOf hI (hx (a5 + 1).toNat)
  refine ⟨S2, ?_, f.2.2⟩
  unfold jf_Law_law_2508
  rw [if_pos (by omega : 0 ≤ a5 + 1 ∧ a5 + 1 < (sn : Int)), e1, bnO_s, e2, bnO_s]
  exact (tail1 (J := fun S => jf_Law_law_3073 sx sn 0 514 524 525 go a5 S) f).trans (lc_next h0 hn)
theorem lc_2564 (hI : Inv S) (hx : ∀ j, inR (sx j)) (h0 : 0 ≤ a5 ∧ a5 + 5 < (sn : Int)) (hn : (sn : Int) ≤ 99999) : ∃ S', jf_Law_law_2564 sx sn 0 514 524 525 go a5 S = go (a5 + 6, S') ∧ Inv S' := by
  obtain ⟨r, S2, e1, e2, f⟩ := ok_revenue hI 
  refine ⟨S2, ?_, f⟩
  unfold jf_Law_law_2564
  rw [e1, bnO_s, e2, bnO_s, if_pos rfl]
  exact lc_next h0 hn
theorem lc_2577 (hI : Inv S) (hx : ∀ j, inR (sx j)) (h0 : 0 ≤ a5 ∧ a5 + 5 < (sn : Int)) (hn : (sn : Int) ≤ 99999) : ∃ S', jf_Law_law_2577 sx sn 0 514 524 525 go a5 S = go (a5 + 6, S') ∧ Inv S' := by
  obtain ⟨e, S1, r, S2, e1, e2, f⟩ := ok_revenueOf hI (hx (a5 + 1).toNat)
  refine ⟨S2, ?_, f.2.2⟩
  unfold jf_Law_law_2577
  rw [if_pos (by omega : 0 ≤ a5 + 1 ∧ a5 + 1 < (sn : Int)), e1, bnO_s, e2, bnO_s]
  exact (tail1 (J := fun S => jf_Law_law_3073 sx sn 0 514 524 525 go a5 S) f).trans (lc_next h0 hn)
theorem lc_2633 (hI : Inv S) (hx : ∀ j, inR (sx j)) (h0 : 0 ≤ a5 ∧ a5 + 5 < (sn : Int)) (hn : (sn : Int) ≤ 99999) : ∃ S', jf_Law_law_2633 sx sn 0 514 524 525 go a5 S = go (a5 + 6, S') ∧ Inv S' := by
  obtain ⟨e, S1, r, S2, e1, e2, f⟩ := ok_revenueOfGroup hI (hx (a5 + 1).toNat)
  refine ⟨S2, ?_, f.2.2⟩
  unfold jf_Law_law_2633
  rw [if_pos (by omega : 0 ≤ a5 + 1 ∧ a5 + 1 < (sn : Int)), e1, bnO_s, e2, bnO_s]
  exact (tail1 (J := fun S => jf_Law_law_3073 sx sn 0 514 524 525 go a5 S) f).trans (lc_next h0 hn)
theorem lc_2689 (hI : Inv S) (hx : ∀ j, inR (sx j)) (h0 : 0 ≤ a5 ∧ a5 + 5 < (sn : Int)) (hn : (sn : Int) ≤ 99999) : ∃ S', jf_Law_law_2689 sx sn 0 514 524 525 go a5 S = go (a5 + 6, S') ∧ Inv S' := by
  obtain ⟨r, S2, e1, e2, f⟩ := ok_lost hI 
  refine ⟨S2, ?_, f⟩
  unfold jf_Law_law_2689
  rw [e1, bnO_s, e2, bnO_s, if_pos rfl]
  exact lc_next h0 hn
theorem lc_2702 (hI : Inv S) (hx : ∀ j, inR (sx j)) (h0 : 0 ≤ a5 ∧ a5 + 5 < (sn : Int)) (hn : (sn : Int) ≤ 99999) : ∃ S', jf_Law_law_2702 sx sn 0 514 524 525 go a5 S = go (a5 + 6, S') ∧ Inv S' := by
  obtain ⟨r, S2, e1, e2, f⟩ := ok_endangered hI 
  refine ⟨S2, ?_, f⟩
  unfold jf_Law_law_2702
  rw [e1, bnO_s, e2, bnO_s, if_pos rfl]
  exact lc_next h0 hn
theorem lc_2715 (hI : Inv S) (hx : ∀ j, inR (sx j)) (h0 : 0 ≤ a5 ∧ a5 + 5 < (sn : Int)) (hn : (sn : Int) ≤ 99999) : ∃ S', jf_Law_law_2715 sx sn 0 514 524 525 go a5 S = go (a5 + 6, S') ∧ Inv S' := by
  obtain ⟨r, S2, e1, e2, f⟩ := ok_lateItem hI (a := sx (a5 + 1).toNat)
  refine ⟨S2, ?_, f⟩
  unfold jf_Law_law_2715
  rw [if_pos (by omega : 0 ≤ a5 + 1 ∧ a5 + 1 < (sn : Int)), e1, bnO_s, e2, bnO_s, if_pos rfl]
  exact lc_next h0 hn
theorem lc_2740 (hI : Inv S) (hx : ∀ j, inR (sx j)) (h0 : 0 ≤ a5 ∧ a5 + 5 < (sn : Int)) (hn : (sn : Int) ≤ 99999) : ∃ S', jf_Law_law_2740 sx sn 0 514 524 525 go a5 S = go (a5 + 6, S') ∧ Inv S' := by
  obtain ⟨r, S2, e1, e2, f⟩ := ok_lastReady hI 
  refine ⟨S2, ?_, f⟩
  unfold jf_Law_law_2740
  rw [e1, bnO_s, e2, bnO_s, if_pos rfl]
  exact lc_next h0 hn
theorem lc_2753 (hI : Inv S) (hx : ∀ j, inR (sx j)) (h0 : 0 ≤ a5 ∧ a5 + 5 < (sn : Int)) (hn : (sn : Int) ≤ 99999) : ∃ S', jf_Law_law_2753 sx sn 0 514 524 525 go a5 S = go (a5 + 6, S') ∧ Inv S' := by
  obtain ⟨r, S1, S2, e1, e2, f⟩ := ok_betterExchange hI 
  refine ⟨S2, ?_, f⟩
  unfold jf_Law_law_2753
  rw [e1, bnO_s, e2, bnO_s, if_pos rfl]
  exact lc_next h0 hn
theorem lc_2766 (hI : Inv S) (hx : ∀ j, inR (sx j)) (h0 : 0 ≤ a5 ∧ a5 + 5 < (sn : Int)) (hn : (sn : Int) ≤ 99999) : ∃ S', jf_Law_law_2766 sx sn 0 514 524 525 go a5 S = go (a5 + 6, S') ∧ Inv S' := by
  obtain ⟨e, S1, r, S2, e1, e2, f⟩ := ok_emptyRun hI (hx (a5 + 1).toNat)
  refine ⟨S2, ?_, f.2.2⟩
  unfold jf_Law_law_2766
  rw [if_pos (by omega : 0 ≤ a5 + 1 ∧ a5 + 1 < (sn : Int)), e1, bnO_s, e2, bnO_s]
  exact (tail1 (J := fun S => jf_Law_law_3073 sx sn 0 514 524 525 go a5 S) f).trans (lc_next h0 hn)
theorem lc_2822 (hI : Inv S) (hx : ∀ j, inR (sx j)) (h0 : 0 ≤ a5 ∧ a5 + 5 < (sn : Int)) (hn : (sn : Int) ≤ 99999) : ∃ S', jf_Law_law_2822 sx sn 0 514 524 525 go a5 S = go (a5 + 6, S') ∧ Inv S' := by
  obtain ⟨r, S2, e1, e2, f⟩ := ok_emptiest hI (a := sx (a5 + 1).toNat)
  refine ⟨S2, ?_, f⟩
  unfold jf_Law_law_2822
  rw [if_pos (by omega : 0 ≤ a5 + 1 ∧ a5 + 1 < (sn : Int)), e1, bnO_s, e2, bnO_s, if_pos rfl]
  exact lc_next h0 hn
theorem lc_2847 (hI : Inv S) (hx : ∀ j, inR (sx j)) (h0 : 0 ≤ a5 ∧ a5 + 5 < (sn : Int)) (hn : (sn : Int) ≤ 99999) : ∃ S', jf_Law_law_2847 sx sn 0 514 524 525 go a5 S = go (a5 + 6, S') ∧ Inv S' := by
  obtain ⟨r, S2, e1, e2, f3⟩ := ok_fill hI
  refine ⟨S2, ?_, f3⟩
  unfold jf_Law_law_2847
  rw [e1, bnO_s, e2, bnO_s]
  by_cases d : i_dc r r = 0
  · rw [if_pos d]; exact lc_next h0 hn
  · rw [if_neg d, if_neg d, if_neg d]; exact lc_next h0 hn
theorem lc_2888 (hI : Inv S) (hx : ∀ j, inR (sx j)) (h0 : 0 ≤ a5 ∧ a5 + 5 < (sn : Int)) (hn : (sn : Int) ≤ 99999) : ∃ S', jf_Law_law_2888 sx sn 0 514 524 525 go a5 S = go (a5 + 6, S') ∧ Inv S' := by
  obtain ⟨e, S1, r, S2, e1, e2, f1, f2, f3⟩ := ok_quarterPrice hI
  refine ⟨S2, ?_, f3⟩
  unfold jf_Law_law_2888
  rw [e1, bnO_s, e2, bnO_s, M_thr, bnO_s, f1, if_pos rfl]
  by_cases c : e = 0
  · rw [if_pos c, f2 c]
    by_cases d : i_dc r r = 0
    · rw [if_pos d]; exact lc_next h0 hn
    · rw [if_neg d, if_neg d, if_neg d]; exact lc_next h0 hn
  · rw [if_neg c]; exact lc_next h0 hn
theorem lc_2953 (hI : Inv S) (hx : ∀ j, inR (sx j)) (h0 : 0 ≤ a5 ∧ a5 + 5 < (sn : Int)) (hn : (sn : Int) ≤ 99999) : ∃ S', jf_Law_law_2953 sx sn 0 514 524 525 go a5 S = go (a5 + 6, S') ∧ Inv S' := by
  obtain ⟨e, S1, r, S2, e1, e2, f⟩ := ok_describe hI (hx (a5 + 1).toNat)
  refine ⟨S2, ?_, f.2.2⟩
  unfold jf_Law_law_2953
  rw [if_pos (by omega : 0 ≤ a5 + 1 ∧ a5 + 1 < (sn : Int)), e1, bnO_s, e2, bnO_s]
  exact (tail1 (J := fun S => jf_Law_law_3073 sx sn 0 514 524 525 go a5 S) f).trans (lc_next h0 hn)
theorem lc_3009 (hI : Inv S) (hx : ∀ j, inR (sx j)) (h0 : 0 ≤ a5 ∧ a5 + 5 < (sn : Int)) (hn : (sn : Int) ≤ 99999) : ∃ S', jf_Law_law_3009 sx sn 0 514 524 525 go a5 S = go (a5 + 6, S') ∧ Inv S' := by
  obtain ⟨r, S2, e1, e2, f⟩ := ok_describedByte hI (hx (a5 + 1).toNat)
  refine ⟨S2, ?_, f⟩
  unfold jf_Law_law_3009
  rw [if_pos (by omega : 0 ≤ a5 + 1 ∧ a5 + 1 < (sn : Int)), e1, bnO_s, e2, bnO_s, if_pos rfl]
  exact lc_next h0 hn
theorem lc_3034 (hI : Inv S) (hx : ∀ j, inR (sx j)) (h0 : 0 ≤ a5 ∧ a5 + 5 < (sn : Int)) (hn : (sn : Int) ≤ 99999) : ∃ S', jf_Law_law_3034 sx sn 0 514 524 525 go a5 S = go (a5 + 6, S') ∧ Inv S' := by
  obtain ⟨r, S2, e1, e2, f⟩ := ok_digest hI 
  refine ⟨S2, ?_, f⟩
  unfold jf_Law_law_3034
  rw [e1, bnO_s, e2, bnO_s, if_pos rfl]
  exact lc_next h0 hn
theorem lc_3047 (hI : Inv S) (hx : ∀ j, inR (sx j)) (h0 : 0 ≤ a5 ∧ a5 + 5 < (sn : Int)) (hn : (sn : Int) ≤ 99999) : ∃ S', jf_Law_law_3047 sx sn 0 514 524 525 go a5 S = go (a5 + 6, S') ∧ Inv S' := by
  obtain ⟨r, S1, S2, e1, e2, f⟩ := ok_undo hI 
  refine ⟨S2, ?_, f⟩
  unfold jf_Law_law_3047
  rw [e1, bnO_s, e2, bnO_s, if_pos rfl]
  exact lc_next h0 hn
theorem lc_3060 (hI : Inv S) (hx : ∀ j, inR (sx j)) (h0 : 0 ≤ a5 ∧ a5 + 5 < (sn : Int)) (hn : (sn : Int) ≤ 99999) : ∃ S', jf_Law_law_3060 sx sn 0 514 524 525 go a5 S = go (a5 + 6, S') ∧ Inv S' := by
  obtain ⟨r, S2, e1, e2, f⟩ := ok_undoCount hI 
  refine ⟨S2, ?_, f⟩
  unfold jf_Law_law_3060
  rw [e1, bnO_s, e2, bnO_s, if_pos rfl]
  exact lc_next h0 hn
theorem lc_step (hI : Inv S) (hx : ∀ j, inR (sx j)) (h0 : 0 ≤ a5 ∧ a5 + 5 < (sn : Int)) (hn : (sn : Int) ≤ 99999) : ∃ S', lb_Law_law sx sn 0 514 524 525 go a5 S = go (a5 + 6, S') ∧ Inv S' := by
  unfold lb_Law_law
  rw [nm_x, wr_s (z := (sn : Int) - 6) (by omega) (by omega), if_neg (by omega), if_pos (by omega : 0 ≤ a5 ∧ a5 < (sn : Int))]
  by_cases k0 : i_and (sx a5.toNat) 63 = 0
  · rw [if_pos k0]; exact lc_296 hI hx h0 hn
  rw [if_neg k0]
  by_cases k1 : i_and (sx a5.toNat) 63 = 1
  · rw [if_pos k1]; exact lc_369 hI hx h0 hn
  rw [if_neg k1]
  by_cases k2 : i_and (sx a5.toNat) 63 = 2
  · rw [if_pos k2]; exact lc_394 hI hx h0 hn
  rw [if_neg k2]
  by_cases k3 : i_and (sx a5.toNat) 63 = 3
  · rw [if_pos k3]; exact lc_407 hI hx h0 hn
  rw [if_neg k3]
  by_cases k4 : i_and (sx a5.toNat) 63 = 4
  · rw [if_pos k4]; exact lc_420 hI hx h0 hn
  rw [if_neg k4]
  by_cases k5 : i_and (sx a5.toNat) 63 = 5
  · rw [if_pos k5]; exact lc_433 hI hx h0 hn
  rw [if_neg k5]
  by_cases k6 : i_and (sx a5.toNat) 63 = 6
  · rw [if_pos k6]; exact lc_458 hI hx h0 hn
  rw [if_neg k6]
  by_cases k7 : i_and (sx a5.toNat) 63 = 7
  · rw [if_pos k7]; exact lc_550 hI hx h0 hn
  rw [if_neg k7]
  by_cases k8 : i_and (sx a5.toNat) 63 = 8
  · rw [if_pos k8]; exact lc_653 hI hx h0 hn
  rw [if_neg k8]
  by_cases k9 : i_and (sx a5.toNat) 63 = 9
  · rw [if_pos k9]; exact lc_721 hI hx h0 hn
  rw [if_neg k9]
  by_cases k10 : i_and (sx a5.toNat) 63 = 10
  · rw [if_pos k10]; exact lc_789 hI hx h0 hn
  rw [if_neg k10]
  by_cases k11 : i_and (sx a5.toNat) 63 = 11
  · rw [if_pos k11]; exact lc_857 hI hx h0 hn
  rw [if_neg k11]
  by_cases k12 : i_and (sx a5.toNat) 63 = 12
  · rw [if_pos k12]; exact lc_925 hI hx h0 hn
  rw [if_neg k12]
  by_cases k13 : i_and (sx a5.toNat) 63 = 13
  · rw [if_pos k13]; exact lc_993 hI hx h0 hn
  rw [if_neg k13]
  by_cases k14 : i_and (sx a5.toNat) 63 = 14
  · rw [if_pos k14]; exact lc_1061 hI hx h0 hn
  rw [if_neg k14]
  by_cases k15 : i_and (sx a5.toNat) 63 = 15
  · rw [if_pos k15]; exact lc_1129 hI hx h0 hn
  rw [if_neg k15]
  by_cases k16 : i_and (sx a5.toNat) 63 = 16
  · rw [if_pos k16]; exact lc_1197 hI hx h0 hn
  rw [if_neg k16]
  by_cases k17 : i_and (sx a5.toNat) 63 = 17
  · rw [if_pos k17]; exact lc_1265 hI hx h0 hn
  rw [if_neg k17]
  by_cases k18 : i_and (sx a5.toNat) 63 = 18
  · rw [if_pos k18]; exact lc_1333 hI hx h0 hn
  rw [if_neg k18]
  by_cases k19 : i_and (sx a5.toNat) 63 = 19
  · rw [if_pos k19]; exact lc_1401 hI hx h0 hn
  rw [if_neg k19]
  by_cases k20 : i_and (sx a5.toNat) 63 = 20
  · rw [if_pos k20]; exact lc_1469 hI hx h0 hn
  rw [if_neg k20]
  by_cases k21 : i_and (sx a5.toNat) 63 = 21
  · rw [if_pos k21]; exact lc_1532 hI hx h0 hn
  rw [if_neg k21]
  by_cases k22 : i_and (sx a5.toNat) 63 = 22
  · rw [if_pos k22]; exact lc_1595 hI hx h0 hn
  rw [if_neg k22]
  by_cases k23 : i_and (sx a5.toNat) 63 = 23
  · rw [if_pos k23]; exact lc_1663 hI hx h0 hn
  rw [if_neg k23]
  by_cases k24 : i_and (sx a5.toNat) 63 = 24
  · rw [if_pos k24]; exact lc_1719 hI hx h0 hn
  rw [if_neg k24]
  by_cases k25 : i_and (sx a5.toNat) 63 = 25
  · rw [if_pos k25]; exact lc_1787 hI hx h0 hn
  rw [if_neg k25]
  by_cases k26 : i_and (sx a5.toNat) 63 = 26
  · rw [if_pos k26]; exact lc_1878 hI hx h0 hn
  rw [if_neg k26]
  by_cases k27 : i_and (sx a5.toNat) 63 = 27
  · rw [if_pos k27]; exact lc_1946 hI hx h0 hn
  rw [if_neg k27]
  by_cases k28 : i_and (sx a5.toNat) 63 = 28
  · rw [if_pos k28]; exact lc_2002 hI hx h0 hn
  rw [if_neg k28]
  by_cases k29 : i_and (sx a5.toNat) 63 = 29
  · rw [if_pos k29]; exact lc_2058 hI hx h0 hn
  rw [if_neg k29]
  by_cases k30 : i_and (sx a5.toNat) 63 = 30
  · rw [if_pos k30]; exact lc_2071 hI hx h0 hn
  rw [if_neg k30]
  by_cases k31 : i_and (sx a5.toNat) 63 = 31
  · rw [if_pos k31]; exact lc_2084 hI hx h0 hn
  rw [if_neg k31]
  by_cases k32 : i_and (sx a5.toNat) 63 = 32
  · rw [if_pos k32]; exact lc_2097 hI hx h0 hn
  rw [if_neg k32]
  by_cases k33 : i_and (sx a5.toNat) 63 = 33
  · rw [if_pos k33]; exact lc_2153 hI hx h0 hn
  rw [if_neg k33]
  by_cases k34 : i_and (sx a5.toNat) 63 = 34
  · rw [if_pos k34]; exact lc_2221 hI hx h0 hn
  rw [if_neg k34]
  by_cases k35 : i_and (sx a5.toNat) 63 = 35
  · rw [if_pos k35]; exact lc_2234 hI hx h0 hn
  rw [if_neg k35]
  by_cases k36 : i_and (sx a5.toNat) 63 = 36
  · rw [if_pos k36]; exact lc_2302 hI hx h0 hn
  rw [if_neg k36]
  by_cases k37 : i_and (sx a5.toNat) 63 = 37
  · rw [if_pos k37]; exact lc_2358 hI hx h0 hn
  rw [if_neg k37]
  by_cases k38 : i_and (sx a5.toNat) 63 = 38
  · rw [if_pos k38]; exact lc_2371 hI hx h0 hn
  rw [if_neg k38]
  by_cases k39 : i_and (sx a5.toNat) 63 = 39
  · rw [if_pos k39]; exact lc_2427 hI hx h0 hn
  rw [if_neg k39]
  by_cases k40 : i_and (sx a5.toNat) 63 = 40
  · rw [if_pos k40]; exact lc_2440 hI hx h0 hn
  rw [if_neg k40]
  by_cases k41 : i_and (sx a5.toNat) 63 = 41
  · rw [if_pos k41]; exact lc_2508 hI hx h0 hn
  rw [if_neg k41]
  by_cases k42 : i_and (sx a5.toNat) 63 = 42
  · rw [if_pos k42]; exact lc_2564 hI hx h0 hn
  rw [if_neg k42]
  by_cases k43 : i_and (sx a5.toNat) 63 = 43
  · rw [if_pos k43]; exact lc_2577 hI hx h0 hn
  rw [if_neg k43]
  by_cases k44 : i_and (sx a5.toNat) 63 = 44
  · rw [if_pos k44]; exact lc_2633 hI hx h0 hn
  rw [if_neg k44]
  by_cases k45 : i_and (sx a5.toNat) 63 = 45
  · rw [if_pos k45]; exact lc_2689 hI hx h0 hn
  rw [if_neg k45]
  by_cases k46 : i_and (sx a5.toNat) 63 = 46
  · rw [if_pos k46]; exact lc_2702 hI hx h0 hn
  rw [if_neg k46]
  by_cases k47 : i_and (sx a5.toNat) 63 = 47
  · rw [if_pos k47]; exact lc_2715 hI hx h0 hn
  rw [if_neg k47]
  by_cases k48 : i_and (sx a5.toNat) 63 = 48
  · rw [if_pos k48]; exact lc_2740 hI hx h0 hn
  rw [if_neg k48]
  by_cases k49 : i_and (sx a5.toNat) 63 = 49
  · rw [if_pos k49]; exact lc_2753 hI hx h0 hn
  rw [if_neg k49]
  by_cases k50 : i_and (sx a5.toNat) 63 = 50
  · rw [if_pos k50]; exact lc_2766 hI hx h0 hn
  rw [if_neg k50]
  by_cases k51 : i_and (sx a5.toNat) 63 = 51
  · rw [if_pos k51]; exact lc_2822 hI hx h0 hn
  rw [if_neg k51]
  by_cases k52 : i_and (sx a5.toNat) 63 = 52
  · rw [if_pos k52]; exact lc_2847 hI hx h0 hn
  rw [if_neg k52]
  by_cases k53 : i_and (sx a5.toNat) 63 = 53
  · rw [if_pos k53]; exact lc_2888 hI hx h0 hn
  rw [if_neg k53]
  by_cases k54 : i_and (sx a5.toNat) 63 = 54
  · rw [if_pos k54]; exact lc_2953 hI hx h0 hn
  rw [if_neg k54]
  by_cases k55 : i_and (sx a5.toNat) 63 = 55
  · rw [if_pos k55]; exact lc_3009 hI hx h0 hn
  rw [if_neg k55]
  by_cases k56 : i_and (sx a5.toNat) 63 = 56
  · rw [if_pos k56]; exact lc_3034 hI hx h0 hn
  rw [if_neg k56]
  by_cases k57 : i_and (sx a5.toNat) 63 = 57
  · rw [if_pos k57]; exact lc_3047 hI hx h0 hn
  rw [if_neg k57]
  by_cases k58 : i_and (sx a5.toNat) 63 = 58
  · rw [if_pos k58]; exact lc_3060 hI hx h0 hn
  rw [if_neg k58]
  exact ⟨S, lc_next h0 hn, hI⟩
theorem law_loop (hx : ∀ j, inR (sx j)) (hn : (sn : Int) ≤ 99999) : ∀ (fu : Nat) (a5 : Int) (S : St), Inv S → 0 ≤ a5 → (sn : Int) - a5 < 6 * fu → ∃ S', lo_Law_law sx sn 0 514 524 525 (fu + 1) (a5, S) = some (.inr S') ∧ Inv S'
  | fu, a5, S, hI, h0, h1 => by
    show ∃ S', lp (fun go p => lb_Law_law sx sn 0 514 524 525 go p.1 p.2) (fu + 1) (a5, S) = some (.inr S') ∧ Inv S'
    rw [lp_succ]
    by_cases c : (sn : Int) - 6 < a5
    · refine ⟨S, ?_, hI⟩
      show lb_Law_law sx sn 0 514 524 525 _ a5 S = _
      unfold lb_Law_law
      rw [nm_x, wr_s (z := (sn : Int) - 6) (by omega) (by omega), if_pos c]
    · obtain ⟨fu', rfl⟩ : ∃ fu', fu = fu' + 1 := ⟨fu - 1, by omega⟩
      obtain ⟨S1, e1, hI1⟩ := lc_step (sx := sx) (sn := sn) (a5 := a5) (S := S) (go := lp (fun go p => lb_Law_law sx sn 0 514 524 525 go p.1 p.2) (fu' + 1)) hI hx ⟨h0, by omega⟩ hn
      obtain ⟨S', e2, hI2⟩ := law_loop hx hn fu' (a5 + 6) S1 hI1 (by omega) (by omega)
      exact ⟨S', e1.trans e2, hI2⟩
end LawLoop
