/-! BYTES, HISTORY, PLAN -/
def Bytes_l (M a : Nat) : List PC := (1, [.ref (a + 1), .int 0]) :: [(100, List.replicate M (.int 0))]
theorem ct_Bytes {sc : SC} {C : Nat → PC} {a M : Nat} (hM : Nat.ble M 16384 = true) (hx : a + 2 ≤ nCell) (h0 : C a = (1, dfl 1)) (hC : ∀ x, a < x → x < a + 2 → 900 ≤ (C x).1) : EvX sc M_Bytes_init [.ref a, V (M : Int)] (wdC nCell C) 1 M (PostH C a 2 (Bytes_l M a)) := by
  refine EvX.of pn_Bytes rfl (leK rfl) ?_
  show GX sc M_Bytes_init 1 M 0 [(0, .ref a), (1, V (M : Int))] [] (wdC nCell C) 0 0 _
  unfold nCell at hx
  have h0 : C a = (1, [.null, .int 0]) := h0
  have hM' := Nat.le_of_ble_eq_true hM
  refine x_aloadn (pc := 0) (i0 := 0) (j := 0) (dK D_Bytes_init 0 rfl) rfl rfl ?_
  refine x_objinit (pc := 1) (dK D_Bytes_init 1 rfl) q_58 (leK rfl) (leK rfl) (leK rfl) ?_
  refine x_aloadn (pc := 4) (i0 := 0) (j := 0) (dK D_Bytes_init 2 rfl) rfl rfl ?_
  refine x_iloadn (pc := 5) (i0 := 1) (j := 1) (dK D_Bytes_init 3 rfl) rfl rfl ?_
  refine wx_if_ge (pc := 6) (t := 13) (dK D_Bytes_init 4 rfl) rfl (by unfold inR; omega) (fun _ => ?_) (fun hc => absurd (by omega) hc)
  refine x_iloadn (pc := 13) (i0 := 1) (j := 1) (dK D_Bytes_init 7 rfl) rfl rfl ?_
  obtain ⟨C1, e1⟩ : ∃ D : Nat → PC, D = updC C (a + 1) (100, List.replicate M (.int 0)) := ⟨_, rfl⟩
  refine h_newarr (pc := 14) (M := M) (dK D_Bytes_init 8 rfl) hM (leK rfl) (by omega) (by unfold nCell; omega) (hC _ (by omega) (by omega)) e1 ?_
  have f1 : C1 a = (1, [.null, .int 0]) := by rw [e1, updC_ne (by omega)]; exact h0
  obtain ⟨C2, e2⟩ : ∃ D : Nat → PC, D = updC C1 a (1, [.ref (a + 1), .int 0]) := ⟨_, rfl⟩
  refine h_putF (pc := 16) (ci := 1) (f := 0) (dK D_Bytes_init 9 rfl) q_59 (ltK rfl) (ltK rfl) rfl rfl rfl (okV_arr _ _) (by unfold nCell; omega) f1 (ltK rfl) rfl e2 ?_
  have f2 : C2 a = (1, [.ref (a + 1), .int 0]) := by rw [e2]; exact updC_eq
  exact x_return (pc := 19) (dK D_Bytes_init 10 rfl) rfl (leK rfl) (by omega) ⟨rfl, C2, rfl, fun x hx => ((congrFun e2 _).trans (updC_ne (by omega))).trans (((congrFun e1 _).trans (updC_ne (by omega))).trans rfl), ⟨f2, ⟨((congrFun e2 _).trans (updC_ne (by omega))).trans ((congrFun e1 _).trans updC_eq), trivial⟩⟩⟩
def kept_l (a i : Nat) : List Value := (List.range 20).map (fun j => if j < i then .ref (a + 2 + 22 * j) else .null)
def hist_l (a : Nat) : List PC := (3, [.ref (a + 1), .int 0, .int 0]) :: ((105, kept_l a 20) :: ((List.range 20).flatMap (fun j => State_l (a + 2 + 22 * j))))
theorem map_set2 {f h : Nat → Value} {n i : Nat} {v : Value} (hi : i < n → h i = v) (hj : ∀ j, j ≠ i → h j = f j) : ((List.range n).map f).set i v = (List.range n).map h := by
  apply List.ext_getElem?
  intro j
  rw [List.getElem?_set, List.getElem?_map, List.length_map, List.length_range, List.getElem?_map]
  by_cases hl : j < n
  · rw [List.getElem?_range hl]
    by_cases e : i = j
    · subst e
      rw [if_pos rfl, if_pos hl]
      exact congrArg some (hi hl).symm
    · rw [if_neg e]
      exact congrArg some (hj j (fun q => e q.symm)).symm
  · rw [List.getElem?_eq_none (by rw [List.length_range]; omega)]
    split
    · rw [if_neg (by omega)]; rfl
    · rfl
theorem kept_set {a i : Nat} : (kept_l a i).set i (.ref (a + 2 + 22 * i)) = kept_l a (i + 1) := by
  unfold kept_l
  refine map_set2 (fun _ => ?_) (fun j hj => ?_)
  · exact if_pos (by omega)
  · by_cases h : j < i
    · rw [if_pos h, if_pos (by omega)]
    · rw [if_neg h, if_neg (by omega)]
theorem kept_len {a i : Nat} : (kept_l a i).length = 20 := by unfold kept_l; rw [List.length_map, List.length_range]
theorem ct_hloop {sc : SC} {C : Nat → PC} {a : Nat} (hx : a + 442 ≤ 514) (hC : ∀ x, a < x → x < a + 442 → 900 ≤ (C x).1) : ∀ (m i : Nat) (Ci : Nat → PC), i + m = 20 → (∀ x, (x < a ∨ a + 2 + 22 * i ≤ x) → Ci x = C x) → Ci a = (3, [.ref (a + 1), .int 0, .int 0]) → Ci (a + 1) = (105, kept_l a i) → (∀ j, j < i → Blk Ci (a + 2 + 22 * j) (State_l (a + 2 + 22 * j))) →
    GX sc M_History_init 441 7980 15 [(0, .ref a), (1, V (i : Int))] [] (wdC nCell Ci) (1 + 22 * i) (20 + 398 * i) (PostH C a 442 (hist_l a)) := by
  intro m
  induction m with
  | zero =>
    intro i Ci hi hp ha hk hb
    have hi : i = 20 := by omega
    subst hi
    refine x_iloadn (pc := 15) (i0 := 1) (j := 1) (dK D_History_init 8 rfl) rfl rfl ?_
    refine h_bipush (pc := 16) (dK D_History_init 9 rfl) rfl ?_
    refine wx_icmp_ge (pc := 18) (t := 40) (dK D_History_init 10 rfl) rfl (inRk rfl) (inRk rfl) (fun _ => ?_) (fun hc => absurd (by decide) hc)
    have q := Blk.flat (C := Ci) (f := fun j => State_l (a + 2 + 22 * j)) (fun _ => rfl) (n := 20) (b := a + 2) hb
    exact x_return (pc := 40) (dK D_History_init 20 rfl) rfl (leK rfl) (leK rfl) ⟨rfl, Ci, rfl, fun x hx => hp x (by omega), ⟨ha, ⟨hk, q.1⟩⟩⟩
  | succ m ih =>
    intro i Ci hi hp ha hk hb
    refine x_iloadn (pc := 15) (i0 := 1) (j := 1) (dK D_History_init 8 rfl) rfl rfl ?_
    refine h_bipush (pc := 16) (dK D_History_init 9 rfl) rfl ?_
    refine wx_icmp_ge (pc := 18) (t := 40) (dK D_History_init 10 rfl) rfl (by unfold inR; omega) (inRk rfl) (fun hc => absurd hc (by omega)) (fun _ => ?_)
    refine x_aloadn (pc := 21) (i0 := 0) (j := 0) (dK D_History_init 11 rfl) rfl rfl ?_
    refine h_get (pc := 22) (ci := 3) (f := 0) (dK D_History_init 12 rfl) q_420 (ltK rfl) (ltK rfl) (by unfold nCell; omega) ha rfl ?_
    refine x_iloadn (pc := 25) (i0 := 1) (j := 1) (dK D_History_init 13 rfl) rfl rfl ?_
    obtain ⟨C1, e1⟩ : ∃ D : Nat → PC, D = updC Ci (a + 2 + 22 * i) (8, dfl 8) := ⟨_, rfl⟩
    refine h_new (pc := 26) (ci := 8) (dK D_History_init 14 rfl) (ltK rfl) q_417 q_76 q_5 (by omega) (by show 20 + 398 * i + 8 ≤ 7980; omega) (by unfold nCell; omega) (by rw [hp _ (by omega)]; exact hC _ (by omega) (by omega)) e1 ?_
    refine x_dup (pc := 29) (dK D_History_init 15 rfl) rfl ?_
    refine x_callIN (pc := 30) (As := []) (rest := [.ref (a + 2 + 22 * i), V (i : Int), .ref (a + 1)]) (mc' := 21) (ms' := 390) (dK D_History_init 16 rfl) K_History_17 (fitK rfl) rfl (leK rfl) (by omega) (by show 20 + 398 * i + 8 + 390 ≤ 7980; omega) (ct_State (C := C1) (a := a + 2 + 22 * i) (by unfold nCell; omega) ((congrFun e1 _).trans updC_eq) (fun x h1 h2 => by rw [e1, updC_ne (by omega), hp _ (by omega)]; exact hC _ (by omega) (by omega))) (postH (fun C2 p2 b2 => ?_))
    show GX sc M_History_init 441 7980 33 [(0, .ref a), (1, V (i : Int))] [.ref (a + 2 + 22 * i), V (i : Int), .ref (a + 1)] (wdC nCell C2) _ _ _
    obtain ⟨C3, e3⟩ : ∃ D : Nat → PC, D = updC C2 (a + 1) (105, (kept_l a i).set i (.ref (a + 2 + 22 * i))) := ⟨_, rfl⟩
    have f2 : C2 (a + 1) = (105, kept_l a i) := by rw [p2 _ (by omega), e1, updC_ne (by omega)]; exact hk
    refine h_aast (pc := 33) (dK D_History_init 17 rfl) (by unfold nCell; omega) (by unfold nCell; omega) f2 b2.1 (by rw [kept_len]; omega) (by omega) e3 ?_
    have ei : ((i + 1 : Nat) : Int) = wr ((i : Int) + 1) := by rw [wr_id (by unfold inR; omega)]; omega
    refine wx_iinc (pc := 34) (j := 1) (a := (i : Int)) (z := 1) (x := ((i + 1 : Nat) : Int)) (ls2 := [(1, V ((i + 1 : Nat) : Int)), (0, .ref a)]) (dK D_History_init 18 rfl) rfl ei (ltK rfl) rfl ?_
    refine x_goto (pc := 37) (tgt := 15) (dK D_History_init 19 rfl) rfl ?_
    refine x_weak (ls' := [(0, .ref a), (1, V ((i + 1 : Nat) : Int))]) (sbc 1 rfl (sbc 0 rfl sbn)) ?_
    have low : ∀ x, (x < a + 2 + 22 * i ∨ a + 2 + 22 * i + 22 ≤ x) → x ≠ a + 1 → C3 x = Ci x := fun x h1 h2 => ((congrFun e3 _).trans (updC_ne h2)).trans ((p2 _ h1).trans ((congrFun e1 _).trans (updC_ne (by omega))))
    have q := ih (i + 1) C3 (by omega) (fun x h => (low x (by omega) (by omega)).trans (hp x (by omega))) ((low a (by omega) (by omega)).trans ha) (by rw [e3, updC_eq, kept_set]) (fun j hj => by
      by_cases hj2 : j = i
      · subst hj2
        exact Blk.pres (fun x h1 h2 => (congrFun e3 _).trans (updC_ne (by omega))) b2
      · exact Blk.pres (fun x h1 h2 => low x (by have h2 : x < a + 2 + 22 * j + 22 := h2; omega) (by omega)) (hb j (by omega)))
    rw [show 1 + 22 * (i + 1) = 1 + 22 * i + 1 + 21 by omega, show 20 + 398 * (i + 1) = 20 + 398 * i + NC 8 + 390 by show _ = 20 + 398 * i + 8 + 390; omega] at q
    exact q
theorem ct_History {sc : SC} {C : Nat → PC} {a : Nat} (hx : a + 442 ≤ nCell) (h0 : C a = (3, dfl 3)) (hC : ∀ x, a < x → x < a + 442 → 900 ≤ (C x).1) : EvX sc M_History_init [.ref a] (wdC nCell C) 441 7980 (PostH C a 442 (hist_l a)) := by
  refine EvX.of pn_History rfl (leK rfl) ?_
  show GX sc M_History_init 441 7980 0 [(0, .ref a)] [] (wdC nCell C) 0 0 _
  unfold nCell at hx
  have h0 : C a = (3, [.null, .int 0, .int 0]) := h0
  refine x_aloadn (pc := 0) (i0 := 0) (j := 0) (dK D_History_init 0 rfl) rfl rfl ?_
  refine x_objinit (pc := 1) (dK D_History_init 1 rfl) q_416 (leK rfl) (leK rfl) (leK rfl) ?_
  refine x_aloadn (pc := 4) (i0 := 0) (j := 0) (dK D_History_init 2 rfl) rfl rfl ?_
  refine h_bipush (pc := 5) (dK D_History_init 3 rfl) rfl ?_
  obtain ⟨C1, e1⟩ : ∃ D : Nat → PC, D = updC C (a + 1) (105, List.replicate 20 .null) := ⟨_, rfl⟩
  refine h_anew (pc := 7) (M := 20) (dK D_History_init 4 rfl) q_417 rfl (leK rfl) (leK rfl) (by unfold nCell; omega) (hC _ (by omega) (by omega)) e1 ?_
  have f1 : C1 a = (3, [.null, .int 0, .int 0]) := by rw [e1, updC_ne (by omega)]; exact h0
  obtain ⟨C2, e2⟩ : ∃ D : Nat → PC, D = updC C1 a (3, [.ref (a + 1), .int 0, .int 0]) := ⟨_, rfl⟩
  refine h_putF (pc := 10) (ci := 3) (f := 0) (dK D_History_init 5 rfl) q_420 (ltK rfl) (ltK rfl) rfl rfl rfl (okV_arr _ _) (by unfold nCell; omega) f1 (ltK rfl) rfl e2 ?_
  refine h_iconst (pc := 13) (dK D_History_init 6 rfl) ?_
  refine x_istoren (pc := 14) (i0 := 1) (ls2 := [(1, V 0), (0, .ref a)]) (dK D_History_init 7 rfl) rfl (ltK rfl) rfl ?_
  refine x_weak (ls' := [(0, .ref a), (1, V 0)]) (sbc 1 rfl (sbc 0 rfl sbn)) ?_
  exact ct_hloop hx hC 20 0 C2 rfl (fun x h => ((congrFun e2 _).trans (updC_ne (by omega))).trans ((congrFun e1 _).trans (updC_ne (by omega)))) ((congrFun e2 _).trans updC_eq) (((congrFun e2 _).trans (updC_ne (by omega))).trans ((congrFun e1 _).trans updC_eq)) (fun j hj => by omega)

def PlanP_l (a : Nat) : List PC := (4, [.ref (a + 1), .int 0, .int 0, .ref (a + 23), .ref (a + 24), .ref (a + 25), .ref (a + 26), .ref (a + 27)]) :: ((State_l (a + 1)) ++ ((100, List.replicate 65 (.int 0)) :: ((100, List.replicate 65 (.int 0)) :: ((100, List.replicate 65 (.int 0)) :: ((100, List.replicate 65 (.int 0)) :: ((100, List.replicate 330 (.int 0)) :: ([])))))))
def Zz : St := (fun _ _ => 0, fun _ _ => 0, fun _ _ => 0)
def cS (S : St) (x : Nat) : PC := (kd x, sl S x)
/-- masked worlds: what a call of the class's own methods keeps -/
theorem gr_X {X : XT} {S S1 : St} (hcl : Cl X) : Gr (gmX X S) (gmX X S1) := fun a ⟨c, hc, hk⟩ => by
  have ha : a < X.1 := by
    have := (List.getElem?_eq_some_iff.mp hc).1
    unfold gmX at this
    rw [List.length_map, List.length_range] at this
    exact this
  unfold gmX at hc
  rw [List.getElem?_map, List.getElem?_range ha] at hc
  have hc : (if X.2.1 a = true then (kd a, sl S a) else X.2.2.1 a) = c := Option.some.inj hc
  by_cases hm : X.2.1 a = true
  · refine ⟨(kd a, sl S1 a), ?_, Nat.le_of_ble_eq_true (kd9 a (hcl.1 a ha hm))⟩
    unfold gmX
    rw [List.getElem?_map, List.getElem?_range ha]
    show some (if X.2.1 a = true then _ else _) = _
    rw [if_pos hm]
  · refine ⟨c, ?_, hk⟩
    rw [if_neg hm] at hc
    unfold gmX
    rw [List.getElem?_map, List.getElem?_range ha]
    show some (if X.2.1 a = true then _ else _) = _
    rw [if_neg hm, hc]
theorem wf_X {X : XT} {S S1 : St} (hcl : Cl X) (h : WfW (gmX X S)) : WfW (gmX X S1) := fun c hc => by
  obtain ⟨a, ha, rfl⟩ := List.mem_map.mp hc
  have ha' := List.mem_range.mp ha
  refine ScV.gr (gr_X (S := S) hcl) ?_
  have h0 := h (if X.2.1 a = true then (kd a, sl S a) else X.2.2.1 a) (List.mem_map.mpr ⟨a, ha, rfl⟩)
  by_cases hm : X.2.1 a = true
  · rw [if_pos hm] at h0 ⊢
    intro v hv
    cases v with
    | ref x => exact h0 _ (sl_ref (hcl.1 a ha' hm) hv)
    | _ => trivial
  · rw [if_neg hm] at h0 ⊢
    exact h0
theorem clX {sc : SC} {Y : MI} {As : List Value} {mc ms : Nat} {X : XT} {S S1 : St} (hfl : X.2.2.2 = false) (hcl : Cl X) (h : ∀ E, Ev E Y As (WX X S) mc ms (KU X S1)) : EvX sc Y As (gmX X S) mc ms (fun v w => v = none ∧ w = gmX X S1) := by
  have e : ∀ S : St, WX X S = (gmX X S, false) := fun S => Prod.ext rfl hfl
  refine EvX.ofEv (K0 := KU X S1) (fun E => by rw [← e]; exact h E) ?_
  rintro _ _ ⟨rfl, rfl⟩
  rw [e]
  exact ⟨_, rfl, rfl, fun x hx => (by cases hx), gr_X hcl, fun hw => wf_X hcl hw, rfl, rfl⟩
/-- all of the class's cells, of which the plan at b is told by numbers -/
def mkP (b : Nat) (Cn : Nat → PC) : XT := (nCell, fun x => Nat.ble b x && Nat.ble (x + 1) (b + 28), Cn, false)
theorem mkP_m {b : Nat} {Cn : Nat → PC} {x : Nat} : (mkP b Cn).2.1 x = true ↔ b ≤ x ∧ x < b + 28 := by
  show (Nat.ble b x && Nat.ble (x + 1) (b + 28)) = true ↔ _
  rw [Bool.and_eq_true, Nat.ble_eq, Nat.ble_eq]
  exact Iff.rfl
theorem mkP_cl {b : Nat} {Cn : Nat → PC} (h : ∀ x, x < b + 28 → b ≤ x → (∀ q ∈ fkT, kd x = q.1 → b ≤ tgt x q.2.1 ∧ tgt x q.2.1 < b + 28) ∧ kd x ≠ 105) (hb : b + 28 ≤ nCell) : Cl (mkP b Cn) := by
  refine ⟨fun a ha _ => ha, fun x f hx hm hf => ?_⟩
  have hm := mkP_m.mp hm
  have q := h x hm.2 hm.1
  rcases hf with ⟨k, l, hm2⟩ | ⟨h5, _⟩
  · have z := q.1 _ hm2 rfl
    exact ⟨Nat.lt_of_lt_of_le z.2 hb, mkP_m.mpr z⟩
  · exact absurd h5 q.2
theorem plan_cl5 : ∀ x, x < 33 → 5 ≤ x → (∀ q ∈ fkT, kd x = q.1 → 5 ≤ tgt x q.2.1 ∧ tgt x q.2.1 < 33) ∧ kd x ≠ 105 := by decide +kernel
theorem plan_cl33 : ∀ x, x < 61 → 33 ≤ x → (∀ q ∈ fkT, kd x = q.1 → 33 ≤ tgt x q.2.1 ∧ tgt x q.2.1 < 61) ∧ kd x ≠ 105 := by decide +kernel
theorem mkP_w {b : Nat} {Cn : Nat → PC} {S : St} (h : ∀ j, j < 28 → Cn (b + j) = cS S (b + j)) : gmX (mkP b Cn) S = wdC nCell Cn := List.map_congr_left (fun x hx => by
  by_cases c : b ≤ x ∧ x < b + 28
  · rw [if_pos (mkP_m.mpr c)]
    have q := h (x - b) (by omega)
    rw [show b + (x - b) = x by omega] at q
    exact q.symm
  · rw [if_neg (fun z => c (mkP_m.mp z))]; rfl)
theorem mkP_o {b : Nat} {Cn : Nat → PC} {S : St} : gmX (mkP b Cn) S = wdC nCell (fun x => if (mkP b Cn).2.1 x = true then cS S x else Cn x) := rfl
def plan_l (a : Nat) (S1 : St) : List PC := (List.range 28).map (fun j => cS S1 (a + j))
theorem plan_len {a : Nat} {S1 : St} : (plan_l a S1).length = 28 := by unfold plan_l; rw [List.length_map, List.length_range]
theorem planZ5 : ∀ j, j < 28 → (PlanP_l 5)[j]? = some (cS Zz (5 + j)) := by decide +kernel
theorem planZ33 : ∀ j, j < 28 → (PlanP_l 33)[j]? = some (cS Zz (33 + j)) := by decide +kernel
theorem plan_end {sc : SC} {C Cn : Nat → PC} {a : Nat} {S1 : St} (ha : a = 5 ∨ a = 33) (hfn : fn_Plan_begin a 1 16 Zz = some S1) (hb : Blk Cn a (PlanP_l a)) (hp : ∀ x, (x < a ∨ a + 28 ≤ x) → Cn x = C x) :
    GX sc M_Plan_init 27 988 60 [(0, .ref a)] [V 16, V 1, .ref a] (wdC nCell Cn) 27 988 (PostH C a 28 (plan_l a S1)) := by
  have hz : ∀ j, j < 28 → Cn (a + j) = cS Zz (a + j) := by
    rcases ha with rfl | rfl
    · exact fun j hj => hb.at (planZ5 j hj)
    · exact fun j hj => hb.at (planZ33 j hj)
  have hc : HC (mkP a Cn) 4 a := by
    refine ⟨?_, ?_, mkP_m.mpr ⟨Nat.le_refl _, by omega⟩, ?_⟩
    · rcases ha with rfl | rfl
      · exact mkP_cl plan_cl5 (Nat.le_of_ble_eq_true rfl)
      · exact mkP_cl plan_cl33 (Nat.le_of_ble_eq_true rfl)
    · show a < nCell
      rcases ha with rfl | rfl <;> exact ltK rfl
    · rcases ha with rfl | rfl <;> rfl
  have hce : EvX sc M_Plan_begin [.ref a, V 1, V 16] (wdC nCell Cn) 0 0 (fun v w => v = none ∧ w = gmX (mkP a Cn) S1) := by
    rw [← mkP_w hz]
    exact clX rfl hc.1 (fun E => tf_Plan_begin hc (inRk rfl) (inRk rfl) hfn)
  refine x_callV (pc := 60) (ci := 4) (As := [V 1, V 16]) (rest := []) (mc' := 0) (ms' := 0) (dK D_Plan_init 30 rfl) K_Plan_34 (fitK rfl) (ltK rfl) (lt_XB hc.2.1) (vs := sl Zz a) ?_ rfl (leK rfl) (leK rfl) (leK rfl) hce (fun v w hv => ?_)
  · rw [← mkP_w hz]
    exact hc.at Zz
  rw [hv.1, hv.2, mkP_o]
  refine x_return (pc := 63) (dK D_Plan_init 31 rfl) rfl (leK rfl) (leK rfl) ⟨rfl, _, rfl, fun x hx => ?_, Blk.of (fun j hj => ?_)⟩
  · show (if (mkP a Cn).2.1 x = true then cS S1 x else Cn x) = C x
    rw [if_neg (fun z => by have := mkP_m.mp z; omega)]
    exact hp x hx
  · show (if (mkP a Cn).2.1 (a + j) = true then cS S1 (a + j) else Cn (a + j)) = _
    rw [if_pos (mkP_m.mpr (by omega))]

theorem ct_PlanP {sc : SC} {C : Nat → PC} {a : Nat} {S1 : St} (ha : a = 5 ∨ a = 33) (hfn : fn_Plan_begin a 1 16 Zz = some S1) (hx : a + 28 ≤ nCell) (h0 : C a = (4, dfl 4)) (hC : ∀ x, a < x → x < a + 28 → 900 ≤ (C x).1) : EvX sc M_Plan_init [.ref a] (wdC nCell C) 27 988 (PostH C a 28 (plan_l a S1)) := by
  refine EvX.of pn_Plan rfl (leK rfl) ?_
  show GX sc M_Plan_init 27 988 0 [(0, .ref a)] [] (wdC nCell C) 0 0 _
  unfold nCell at hx
  have h0 : C a = (4, [.null, .int 0, .int 0, .null, .null, .null, .null, .null]) := h0
  refine x_aloadn (pc := 0) (i0 := 0) (j := 0) (dK D_Plan_init 0 rfl) rfl rfl ?_
  refine x_objinit (pc := 1) (dK D_Plan_init 1 rfl) q_74 (leK rfl) (leK rfl) (leK rfl) ?_
  refine x_aloadn (pc := 4) (i0 := 0) (j := 0) (dK D_Plan_init 2 rfl) rfl rfl ?_
  obtain ⟨C1, e1⟩ : ∃ D : Nat → PC, D = updC C (a + 1) (8, dfl 8) := ⟨_, rfl⟩
  refine h_new (pc := 5) (ci := 8) (dK D_Plan_init 3 rfl) (ltK rfl) q_75 q_76 q_5 (leK rfl) (leK rfl) (by unfold nCell; omega) (by rw [show C (a + 1) = C (a + 1) from rfl]; exact hC _ (by omega) (by omega)) e1 ?_
  have f1 : C1 a = (4, [.null, .int 0, .int 0, .null, .null, .null, .null, .null]) := by rw [e1, updC_ne (by omega)]; exact h0
  refine x_dup (pc := 8) (dK D_Plan_init 4 rfl) rfl ?_
  refine x_callIN (pc := 9) (As := []) (rest := [.ref (a + 1), .ref a]) (mc' := 21) (ms' := 390) (dK D_Plan_init 5 rfl) K_Plan_11 (fitK rfl) rfl (leK rfl) (leK rfl) (leK rfl) (ct_State (C := C1) (a := (a + 1)) (by unfold nCell; omega) ((congrFun e1 _).trans updC_eq) (fun x h1 h2 => by rw [show C1 x = C x from ((congrFun e1 _).trans (updC_ne (by omega))).trans (rfl)]; exact hC x (by omega) (by omega))) (postH (fun C2 p2 b2_0 => ?_))
  have f2 : C2 a = (4, [.null, .int 0, .int 0, .null, .null, .null, .null, .null]) := by rw [p2 a (by omega)]; exact f1
  show GX sc M_Plan_init 27 988 12 [(0, .ref a)] [.ref (a + 1), .ref a] (wdC nCell C2) _ _ _
  obtain ⟨C3, e3⟩ : ∃ D : Nat → PC, D = updC C2 a (4, [.ref (a + 1), .int 0, .int 0, .null, .null, .null, .null, .null]) := ⟨_, rfl⟩
  refine h_putF (pc := 12) (ci := 4) (f := 0) (dK D_Plan_init 6 rfl) q_301 (ltK rfl) (ltK rfl) rfl rfl rfl (okV_obj _ _) (by unfold nCell; omega) f2 (ltK rfl) rfl e3 ?_
  have f3 : C3 a = (4, [.ref (a + 1), .int 0, .int 0, .null, .null, .null, .null, .null]) := by rw [e3]; exact updC_eq
  refine x_aloadn (pc := 15) (i0 := 0) (j := 0) (dK D_Plan_init 7 rfl) rfl rfl ?_
  refine h_bipush (pc := 16) (dK D_Plan_init 8 rfl) rfl ?_
  obtain ⟨C4, e4⟩ : ∃ D : Nat → PC, D = updC C3 (a + 23) (100, List.replicate 65 (.int 0)) := ⟨_, rfl⟩
  refine h_newarr (pc := 18) (M := 65) (dK D_Plan_init 9 rfl) rfl (leK rfl) (leK rfl) (by unfold nCell; omega) (by rw [show C3 (a + 23) = C (a + 23) from ((congrFun e3 _).trans (updC_ne (by omega))).trans ((p2 _ (by omega)).trans (((congrFun e1 _).trans (updC_ne (by omega))).trans (rfl)))]; exact hC _ (by omega) (by omega)) e4 ?_
  have f4 : C4 a = (4, [.ref (a + 1), .int 0, .int 0, .null, .null, .null, .null, .null]) := by rw [e4, updC_ne (by omega)]; exact f3
  obtain ⟨C5, e5⟩ : ∃ D : Nat → PC, D = updC C4 a (4, [.ref (a + 1), .int 0, .int 0, .ref (a + 23), .null, .null, .null, .null]) := ⟨_, rfl⟩
  refine h_putF (pc := 20) (ci := 4) (f := 3) (dK D_Plan_init 10 rfl) q_313 (ltK rfl) (ltK rfl) rfl rfl rfl (okV_arr _ _) (by unfold nCell; omega) f4 (ltK rfl) rfl e5 ?_
  have f5 : C5 a = (4, [.ref (a + 1), .int 0, .int 0, .ref (a + 23), .null, .null, .null, .null]) := by rw [e5]; exact updC_eq
  refine x_aloadn (pc := 23) (i0 := 0) (j := 0) (dK D_Plan_init 11 rfl) rfl rfl ?_
  refine h_bipush (pc := 24) (dK D_Plan_init 12 rfl) rfl ?_
  obtain ⟨C6, e6⟩ : ∃ D : Nat → PC, D = updC C5 (a + 24) (100, List.replicate 65 (.int 0)) := ⟨_, rfl⟩
  refine h_newarr (pc := 26) (M := 65) (dK D_Plan_init 13 rfl) rfl (leK rfl) (leK rfl) (by unfold nCell; omega) (by rw [show C5 (a + 24) = C (a + 24) from ((congrFun e5 _).trans (updC_ne (by omega))).trans (((congrFun e4 _).trans (updC_ne (by omega))).trans (((congrFun e3 _).trans (updC_ne (by omega))).trans ((p2 _ (by omega)).trans (((congrFun e1 _).trans (updC_ne (by omega))).trans (rfl)))))]; exact hC _ (by omega) (by omega)) e6 ?_
  have f6 : C6 a = (4, [.ref (a + 1), .int 0, .int 0, .ref (a + 23), .null, .null, .null, .null]) := by rw [e6, updC_ne (by omega)]; exact f5
  obtain ⟨C7, e7⟩ : ∃ D : Nat → PC, D = updC C6 a (4, [.ref (a + 1), .int 0, .int 0, .ref (a + 23), .ref (a + 24), .null, .null, .null]) := ⟨_, rfl⟩
  refine h_putF (pc := 28) (ci := 4) (f := 4) (dK D_Plan_init 14 rfl) q_316 (ltK rfl) (ltK rfl) rfl rfl rfl (okV_arr _ _) (by unfold nCell; omega) f6 (ltK rfl) rfl e7 ?_
  have f7 : C7 a = (4, [.ref (a + 1), .int 0, .int 0, .ref (a + 23), .ref (a + 24), .null, .null, .null]) := by rw [e7]; exact updC_eq
  refine x_aloadn (pc := 31) (i0 := 0) (j := 0) (dK D_Plan_init 15 rfl) rfl rfl ?_
  refine h_bipush (pc := 32) (dK D_Plan_init 16 rfl) rfl ?_
  obtain ⟨C8, e8⟩ : ∃ D : Nat → PC, D = updC C7 (a + 25) (100, List.replicate 65 (.int 0)) := ⟨_, rfl⟩
  refine h_newarr (pc := 34) (M := 65) (dK D_Plan_init 17 rfl) rfl (leK rfl) (leK rfl) (by unfold nCell; omega) (by rw [show C7 (a + 25) = C (a + 25) from ((congrFun e7 _).trans (updC_ne (by omega))).trans (((congrFun e6 _).trans (updC_ne (by omega))).trans (((congrFun e5 _).trans (updC_ne (by omega))).trans (((congrFun e4 _).trans (updC_ne (by omega))).trans (((congrFun e3 _).trans (updC_ne (by omega))).trans ((p2 _ (by omega)).trans (((congrFun e1 _).trans (updC_ne (by omega))).trans (rfl)))))))]; exact hC _ (by omega) (by omega)) e8 ?_
  have f8 : C8 a = (4, [.ref (a + 1), .int 0, .int 0, .ref (a + 23), .ref (a + 24), .null, .null, .null]) := by rw [e8, updC_ne (by omega)]; exact f7
  obtain ⟨C9, e9⟩ : ∃ D : Nat → PC, D = updC C8 a (4, [.ref (a + 1), .int 0, .int 0, .ref (a + 23), .ref (a + 24), .ref (a + 25), .null, .null]) := ⟨_, rfl⟩
  refine h_putF (pc := 36) (ci := 4) (f := 5) (dK D_Plan_init 18 rfl) q_318 (ltK rfl) (ltK rfl) rfl rfl rfl (okV_arr _ _) (by unfold nCell; omega) f8 (ltK rfl) rfl e9 ?_
  have f9 : C9 a = (4, [.ref (a + 1), .int 0, .int 0, .ref (a + 23), .ref (a + 24), .ref (a + 25), .null, .null]) := by rw [e9]; exact updC_eq
  refine x_aloadn (pc := 39) (i0 := 0) (j := 0) (dK D_Plan_init 19 rfl) rfl rfl ?_
  refine h_bipush (pc := 40) (dK D_Plan_init 20 rfl) rfl ?_
  obtain ⟨C10, e10⟩ : ∃ D : Nat → PC, D = updC C9 (a + 26) (100, List.replicate 65 (.int 0)) := ⟨_, rfl⟩
  refine h_newarr (pc := 42) (M := 65) (dK D_Plan_init 21 rfl) rfl (leK rfl) (leK rfl) (by unfold nCell; omega) (by rw [show C9 (a + 26) = C (a + 26) from ((congrFun e9 _).trans (updC_ne (by omega))).trans (((congrFun e8 _).trans (updC_ne (by omega))).trans (((congrFun e7 _).trans (updC_ne (by omega))).trans (((congrFun e6 _).trans (updC_ne (by omega))).trans (((congrFun e5 _).trans (updC_ne (by omega))).trans (((congrFun e4 _).trans (updC_ne (by omega))).trans (((congrFun e3 _).trans (updC_ne (by omega))).trans ((p2 _ (by omega)).trans (((congrFun e1 _).trans (updC_ne (by omega))).trans (rfl)))))))))]; exact hC _ (by omega) (by omega)) e10 ?_
  have f10 : C10 a = (4, [.ref (a + 1), .int 0, .int 0, .ref (a + 23), .ref (a + 24), .ref (a + 25), .null, .null]) := by rw [e10, updC_ne (by omega)]; exact f9
  obtain ⟨C11, e11⟩ : ∃ D : Nat → PC, D = updC C10 a (4, [.ref (a + 1), .int 0, .int 0, .ref (a + 23), .ref (a + 24), .ref (a + 25), .ref (a + 26), .null]) := ⟨_, rfl⟩
  refine h_putF (pc := 44) (ci := 4) (f := 6) (dK D_Plan_init 22 rfl) q_320 (ltK rfl) (ltK rfl) rfl rfl rfl (okV_arr _ _) (by unfold nCell; omega) f10 (ltK rfl) rfl e11 ?_
  have f11 : C11 a = (4, [.ref (a + 1), .int 0, .int 0, .ref (a + 23), .ref (a + 24), .ref (a + 25), .ref (a + 26), .null]) := by rw [e11]; exact updC_eq
  refine x_aloadn (pc := 47) (i0 := 0) (j := 0) (dK D_Plan_init 23 rfl) rfl rfl ?_
  refine h_sipush (pc := 48) (dK D_Plan_init 24 rfl) rfl ?_
  obtain ⟨C12, e12⟩ : ∃ D : Nat → PC, D = updC C11 (a + 27) (100, List.replicate 330 (.int 0)) := ⟨_, rfl⟩
  refine h_newarr (pc := 51) (M := 330) (dK D_Plan_init 25 rfl) rfl (leK rfl) (leK rfl) (by unfold nCell; omega) (by rw [show C11 (a + 27) = C (a + 27) from ((congrFun e11 _).trans (updC_ne (by omega))).trans (((congrFun e10 _).trans (updC_ne (by omega))).trans (((congrFun e9 _).trans (updC_ne (by omega))).trans (((congrFun e8 _).trans (updC_ne (by omega))).trans (((congrFun e7 _).trans (updC_ne (by omega))).trans (((congrFun e6 _).trans (updC_ne (by omega))).trans (((congrFun e5 _).trans (updC_ne (by omega))).trans (((congrFun e4 _).trans (updC_ne (by omega))).trans (((congrFun e3 _).trans (updC_ne (by omega))).trans ((p2 _ (by omega)).trans (((congrFun e1 _).trans (updC_ne (by omega))).trans (rfl)))))))))))]; exact hC _ (by omega) (by omega)) e12 ?_
  have f12 : C12 a = (4, [.ref (a + 1), .int 0, .int 0, .ref (a + 23), .ref (a + 24), .ref (a + 25), .ref (a + 26), .null]) := by rw [e12, updC_ne (by omega)]; exact f11
  obtain ⟨C13, e13⟩ : ∃ D : Nat → PC, D = updC C12 a (4, [.ref (a + 1), .int 0, .int 0, .ref (a + 23), .ref (a + 24), .ref (a + 25), .ref (a + 26), .ref (a + 27)]) := ⟨_, rfl⟩
  refine h_putF (pc := 53) (ci := 4) (f := 7) (dK D_Plan_init 26 rfl) q_323 (ltK rfl) (ltK rfl) rfl rfl rfl (okV_arr _ _) (by unfold nCell; omega) f12 (ltK rfl) rfl e13 ?_
  have f13 : C13 a = (4, [.ref (a + 1), .int 0, .int 0, .ref (a + 23), .ref (a + 24), .ref (a + 25), .ref (a + 26), .ref (a + 27)]) := by rw [e13]; exact updC_eq
  refine x_aloadn (pc := 56) (i0 := 0) (j := 0) (dK D_Plan_init 27 rfl) rfl rfl ?_
  refine h_iconst (pc := 57) (dK D_Plan_init 28 rfl) ?_
  refine h_bipush (pc := 58) (dK D_Plan_init 29 rfl) rfl ?_
  have hb : Blk C13 a (PlanP_l a) := ⟨f13, Blk.app' (n := 22) rfl (Blk.pres (fun x h1 h2 => ((congrFun e13 _).trans (updC_ne (by have h2 : x < _ + 22 := h2; omega))).trans (((congrFun e12 _).trans (updC_ne (by have h2 : x < _ + 22 := h2; omega))).trans (((congrFun e11 _).trans (updC_ne (by have h2 : x < _ + 22 := h2; omega))).trans (((congrFun e10 _).trans (updC_ne (by have h2 : x < _ + 22 := h2; omega))).trans (((congrFun e9 _).trans (updC_ne (by have h2 : x < _ + 22 := h2; omega))).trans (((congrFun e8 _).trans (updC_ne (by have h2 : x < _ + 22 := h2; omega))).trans (((congrFun e7 _).trans (updC_ne (by have h2 : x < _ + 22 := h2; omega))).trans (((congrFun e6 _).trans (updC_ne (by have h2 : x < _ + 22 := h2; omega))).trans (((congrFun e5 _).trans (updC_ne (by have h2 : x < _ + 22 := h2; omega))).trans (((congrFun e4 _).trans (updC_ne (by have h2 : x < _ + 22 := h2; omega))).trans (((congrFun e3 _).trans (updC_ne (by have h2 : x < _ + 22 := h2; omega))).trans (rfl)))))))))))) b2_0) (⟨((congrFun e13 _).trans (updC_ne (by omega))).trans (((congrFun e12 _).trans (updC_ne (by omega))).trans (((congrFun e11 _).trans (updC_ne (by omega))).trans (((congrFun e10 _).trans (updC_ne (by omega))).trans (((congrFun e9 _).trans (updC_ne (by omega))).trans (((congrFun e8 _).trans (updC_ne (by omega))).trans (((congrFun e7 _).trans (updC_ne (by omega))).trans (((congrFun e6 _).trans (updC_ne (by omega))).trans (((congrFun e5 _).trans (updC_ne (by omega))).trans ((congrFun e4 _).trans updC_eq))))))))), ⟨((congrFun e13 _).trans (updC_ne (by omega))).trans (((congrFun e12 _).trans (updC_ne (by omega))).trans (((congrFun e11 _).trans (updC_ne (by omega))).trans (((congrFun e10 _).trans (updC_ne (by omega))).trans (((congrFun e9 _).trans (updC_ne (by omega))).trans (((congrFun e8 _).trans (updC_ne (by omega))).trans (((congrFun e7 _).trans (updC_ne (by omega))).trans ((congrFun e6 _).trans updC_eq))))))), ⟨((congrFun e13 _).trans (updC_ne (by omega))).trans (((congrFun e12 _).trans (updC_ne (by omega))).trans (((congrFun e11 _).trans (updC_ne (by omega))).trans (((congrFun e10 _).trans (updC_ne (by omega))).trans (((congrFun e9 _).trans (updC_ne (by omega))).trans ((congrFun e8 _).trans updC_eq))))), ⟨((congrFun e13 _).trans (updC_ne (by omega))).trans (((congrFun e12 _).trans (updC_ne (by omega))).trans (((congrFun e11 _).trans (updC_ne (by omega))).trans ((congrFun e10 _).trans updC_eq))), ⟨((congrFun e13 _).trans (updC_ne (by omega))).trans ((congrFun e12 _).trans updC_eq), trivial⟩⟩⟩⟩⟩)⟩
  have hp : ∀ x, (x < a ∨ a + 28 ≤ x) → C13 x = C x := fun x hx => ((congrFun e13 _).trans (updC_ne (by omega))).trans (((congrFun e12 _).trans (updC_ne (by omega))).trans (((congrFun e11 _).trans (updC_ne (by omega))).trans (((congrFun e10 _).trans (updC_ne (by omega))).trans (((congrFun e9 _).trans (updC_ne (by omega))).trans (((congrFun e8 _).trans (updC_ne (by omega))).trans (((congrFun e7 _).trans (updC_ne (by omega))).trans (((congrFun e6 _).trans (updC_ne (by omega))).trans (((congrFun e5 _).trans (updC_ne (by omega))).trans (((congrFun e4 _).trans (updC_ne (by omega))).trans (((congrFun e3 _).trans (updC_ne (by omega))).trans ((p2 _ (by omega)).trans (((congrFun e1 _).trans (updC_ne (by omega))).trans (rfl)))))))))))))
  exact plan_end ha hfn hb hp
