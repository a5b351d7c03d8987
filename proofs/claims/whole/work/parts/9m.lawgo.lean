/-! THE LAW FROM ITS FIRST BYTE -/
theorem law_go {E : EV} (hm : eM E = false) {sx : Nat → Int} {sn : Nat} (hsn : ScrE E sx sn) (hle : sn ≤ 3072) (C : Nat → PC) : Go E M_Law_law 2000 40000 0 [(0, .ref (XB + 200))] [] (wdC 0 C, true) 0 0 (fun rk _ => rk = .inl (some (V 1))) := by
  obtain ⟨SP, SD, SM, h5, h33, hM, hI⟩ := first_inv
  obtain ⟨C1, e1⟩ : ∃ D : Nat → PC, D = updC C 0 (10, dfl 10) := ⟨_, rfl⟩
  refine c_new hm (pc := 0) (ci := 10) (N1 := 1) (dK D_Law_law_0 0 rfl) (ltK rfl) q_28 q_29 q_1 (leK rfl) (leK rfl) (by unfold XB; omega) rfl e1 ?_
  refine g_dup (pc := 3) (dK D_Law_law_0 1 rfl) rfl ?_
  refine c_callI (pc := 4) (As := []) (rest := [.ref 0]) (mc' := 513) (ms' := 11950) (dK D_Law_law_0 2 rfl) K_Law_127 (fitK rfl) rfl (leK rfl) (leK rfl) (leK rfl) (ct_FP hm (C := C1) (a := 0) (by omega) ((congrFun e1 _).trans updC_eq) rfl h5 h33) (postI (fun C2 p2 b2 => ?_))
  rw [FP_len]
  show Go E M_Law_law 2000 40000 7 [(0, .ref (XB + 200))] [.ref 0] (wdC 514 C2, true) _ _ _
  refine g_astoren (pc := 7) (i0 := 1) (ls2 := [(1, .ref 0), (0, .ref (XB + 200))]) (dK D_Law_law_0 3 rfl) rfl (ltK rfl) rfl ?_
  obtain ⟨C3, e3⟩ : ∃ D : Nat → PC, D = updC C2 514 (11, dfl 11) := ⟨_, rfl⟩
  refine c_new hm (pc := 8) (ci := 11) (N1 := 515) (dK D_Law_law_0 4 rfl) (ltK rfl) q_1432 q_1433 q_14 (leK rfl) (leK rfl) (by unfold XB; omega) rfl e3 ?_
  refine g_dup (pc := 11) (dK D_Law_law_0 5 rfl) rfl ?_
  refine c_callI (pc := 12) (As := []) (rest := [.ref 514]) (mc' := 9) (ms' := 13239) (dK D_Law_law_0 6 rfl) K_Law_130 (fitK rfl) rfl (leK rfl) (leK rfl) (leK rfl) (ct_ModP hm (C := C3) (a := 514) (by omega) ((congrFun e3 _).trans updC_eq) rfl hM) (postI (fun C4 p4 b4 => ?_))
  rw [mod_len]
  show Go E M_Law_law 2000 40000 15 [(1, .ref 0), (0, .ref (XB + 200))] [.ref 514] (wdC 524 C4, true) _ _ _
  refine g_astoren (pc := 15) (i0 := 2) (ls2 := [(2, .ref 514), (1, .ref 0), (0, .ref (XB + 200))]) (dK D_Law_law_0 7 rfl) rfl (ltK rfl) rfl ?_
  refine vg_iconst' (pc := 16) (dK D_Law_law_0 8 rfl) ?_
  obtain ⟨C5, e5⟩ : ∃ D : Nat → PC, D = updC C4 524 (103, List.replicate 1 (.long 0)) := ⟨_, rfl⟩
  refine c_newarr_long hm (pc := 17) (M := 1) (N1 := 525) (dK D_Law_law_0 9 rfl) rfl (leK rfl) (leK rfl) (by unfold XB; omega) rfl e5 ?_
  refine g_astoren (pc := 19) (i0 := 3) (ls2 := [(3, .ref 524), (2, .ref 514), (1, .ref 0), (0, .ref (XB + 200))]) (dK D_Law_law_0 10 rfl) rfl (ltK rfl) rfl ?_
  refine vg_iconst' (pc := 20) (dK D_Law_law_0 11 rfl) ?_
  obtain ⟨C6, e6⟩ : ∃ D : Nat → PC, D = updC C5 525 (104, List.replicate 1 (.double 0)) := ⟨_, rfl⟩
  refine c_newarr_dbl hm (pc := 21) (M := 1) (N1 := 526) (dK D_Law_law_0 12 rfl) rfl (leK rfl) (leK rfl) (by unfold XB; omega) rfl e6 ?_
  refine g_astore (pc := 23) (i := 4) (ls2 := [(4, .ref 525), (3, .ref 524), (2, .ref 514), (1, .ref 0), (0, .ref (XB + 200))]) (dK D_Law_law_0 13 rfl) (ltK rfl) rfl ?_
  refine vg_iconst' (pc := 25) (dK D_Law_law_0 14 rfl) ?_
  refine g_istore (pc := 26) (i := 5) (ls2 := [(5, V 0), (4, .ref 525), (3, .ref 524), (2, .ref 514), (1, .ref 0), (0, .ref (XB + 200))]) (dK D_Law_law_0 15 rfl) (ltK rfl) rfl ?_
  refine gL_weak (ls' := [(0, .ref (XB + 200)), (1, .ref 0), (2, .ref 514), (3, .ref 524), (4, .ref 525), (5, V 0)]) (sbc 5 rfl (sbc 4 rfl (sbc 3 rfl (sbc 2 rfl (sbc 1 rfl (sbc 0 rfl sbn)))))) ?_
  have hw : ∀ x, x < 526 → C6 x = pC (SF SP SD SM) x := fun x hx => by
    by_cases c1 : x = 525
    · subst c1
      rw [pC_eq (by omega) (by omega), SF_c0 (by omega) (by omega), ← b_525, e6]; exact updC_eq
    by_cases c2 : x = 524
    · subst c2
      rw [pC_eq (by omega) (by omega), SF_c0 (by omega) (by omega), ← b_524, e6, updC_ne (by omega), e5]; exact updC_eq
    have q : C6 x = C4 x := ((congrFun e6 _).trans (updC_ne (by omega))).trans ((congrFun e5 _).trans (updC_ne (by omega)))
    by_cases c3 : x < 514
    · exact q.trans (((p4 _ (by omega)).trans ((congrFun e3 _).trans (updC_ne (by omega)))).trans (first_FP b2 x c3))
    · rw [pC_eq (by omega) (by omega)]
      exact q.trans (first_Mo b4 x (by omega) (by omega))
  have hk : ∀ p, p < 526 → (C6 p).1 < 900 := fun p h => by rw [hw p h]; exact kd_900' _
  obtain ⟨m, hm6⟩ : ∃ m : Nat, m = 526 := ⟨_, rfl⟩
  have hcl := XF_cl (C := C6) hm6
  obtain ⟨S', hl, hI'⟩ := law_loop (sx := sx) (sn := sn) hsn.at (by omega) 513 0 _ hI (by omega) (by omega)
  have eW := XF_w (C' := C6) hm6 hw
  refine Go.down (k' := 526) (n' := 25220) (leK rfl) (leK rfl) ?_
  have fx : ∀ a, PM a = a → gA (mE E) a = gA E a := fun a h => by rw [← gA_P hm, h]
  refine Go.sw (ls' := [(0, .ref (XB + 200)), (1, .ref 0), (2, .ref 514), (3, .ref 524), (4, .ref 525), (5, V 0)]) (st' := []) (S' := WX (XF m C6) (SF SP SD SM)) (K' := fun rk _ => rk = .inl (some (V 1))) ?_ rfl (fun z H h => by rw [eW, hm6]; exact Rep.sw1 hm pm_526 hk h) ?_ ?_
  · show [(0, Value.ref (gA (mE E) (XB + 200))), (1, Value.ref (gA (mE E) 0)), (2, Value.ref (gA (mE E) 514)), (3, Value.ref (gA (mE E) 524)), (4, Value.ref (gA (mE E) 525)), (5, V 0)] = [(0, Value.ref (gA E (XB + 200))), (1, Value.ref (gA E 0)), (2, Value.ref (gA E 514)), (3, Value.ref (gA E 524)), (4, Value.ref (gA E 525)), (5, V 0)]
    rw [fx 0 rfl, fx 514 (PM_hi (by omega)), fx 524 (PM_hi (by omega)), fx 525 (PM_hi (by omega)), fx (XB + 200) (PM_hi (by unfold XB; omega))]
  · intro rk w hw1
    refine ⟨fun v hv => ?_, ([], false), hw1, fun z H h => ⟨fun k q hq => (by cases hq), fun q => (by cases q), Nat.le_trans (Nat.le_add_right _ _) h.2.2⟩⟩
    rw [hw1] at hv
    rw [← Sum.inl.inj hv]; rfl
  obtain ⟨X, eX⟩ : ∃ X : XT, X = XF m C6 := ⟨_, rfl⟩
  have f1 : X.1 = m := by rw [eX]; rfl
  have f2 : ∀ a, X.2.1 a = true := fun a => by rw [eX]; rfl
  have f3 : X.2.2.2 = false := by rw [eX]; rfl
  rw [← eX] at hcl ⊢
  refine tl_Law_law (E := mE E) (X := X) f3 hsn (c1 := 0) (c2 := 514) (c3 := 524) (c4 := 525) ⟨hcl, by rw [f1]; omega, f2 _, by decide +kernel⟩ ⟨hcl, by rw [f1]; omega, f2 _, by decide +kernel⟩ ⟨hcl, by rw [f1]; omega, f2 _, by decide +kernel, by decide +kernel⟩ ⟨hcl, by rw [f1]; omega, f2 _, by decide +kernel, by decide +kernel⟩ (q := .inr S') (fun p hp kk nn hk hn => ?_) (fun p hp => nomatch hp) 514 (0, SF SP SD SM) hl in0 526 25220 (by omega) (by omega)
  refine vg_iconst' (pc := 3079) (dK D_Law_law_36 6 rfl) ?_
  exact g_ireturn (pc := 3080) (ty := .boolean) (dK D_Law_law_36 7 rfl) rfl rfl hk hn (fun q => by have q' : X.2.2.2 = true := q; rw [f3] at q'; cases q') rfl
