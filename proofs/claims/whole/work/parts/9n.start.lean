/-! WHAT THE STATEMENT GIVES OF THE START -/
def narL : List Cond := flatC (Jvm.Cond.and given_1 narrow_1)
def tmI : List Nat := [48, 75, 80, 85, 90, 95, 100, 105]
def tmS (i : Nat) : Term := .string "FlatPlan$Reader" (tmI.getD i 0)
theorem n_ex : ∀ i, i < nLit → Cond.exactly (tmS i) "java/lang/String" ∈ narL := by decide +kernel
theorem n_co : ∀ i, i < nLit → Cond.eq (.field (tmS i) "java/lang/String" "coder" "B") (.int 0) ∈ narL := by decide +kernel
theorem n_ar : ∀ i, i < nLit → Cond.arrayOf (.field (tmS i) "java/lang/String" "value" "[B") .byte ∈ narL := by decide +kernel
theorem n_le : ∀ i, i < nLit → Cond.eq (.length (.field (tmS i) "java/lang/String" "value" "[B")) (.int (Int32.ofNat (lenS.getD i 0))) ∈ narL := by decide +kernel
theorem n_el : ∀ i, i < nLit → ∀ j, j < lenS.getD i 0 → Cond.eq (.elem (.field (tmS i) "java/lang/String" "value" "[B") (.int (Int32.ofNat j))) (.int ((bytS.getD i []).getD j 0)) ∈ narL := by decide +kernel
theorem n_ne : ∀ i, i < nLit → ∀ j, j < nLit → i ≠ j → Cond.not (.eq (tmS i) (tmS j)) ∈ narL ∨ Cond.not (.eq (tmS j) (tmS i)) ∈ narL := by decide +kernel
theorem n_st : ∀ q ∈ strT, Cond.exactly (.string q.1 q.2.1) "java/lang/String" ∈ narL := by decide +kernel
theorem n_nc : ∀ q ∈ ncT, Cond.not (.castable q.1 q.2) ∈ narL := by decide +kernel
theorem n_cs : Cond.eq (.static "java/lang/String" "COMPACT_STRINGS" "Z") (.int 1) ∈ narL := by decide +kernel
theorem n_sf : Cond.isRef (.static "jdk/internal/util/Preconditions" "SIOOBE_FORMATTER" "Ljava/util/function/BiFunction;") ∈ narL := by decide +kernel
theorem n_us : Cond.isRef (.static Bundle.tN "UNASSIGNED_STACK" Bundle.steD) ∈ narL := by decide +kernel
theorem n_su : Cond.isRef (.static Bundle.tN "SUPPRESSED_SENTINEL" Bundle.listD) ∈ narL := by decide +kernel
theorem w_ls : ∀ i, i < nLit → Cond.stringRef "FlatPlan$Reader" (tmI.getD i 0) ((litT.map (fun q => q.2.2.1)).getD i "") ∈ lw_tbl := by
  intro i hi
  match i, hi with
  | 0, _ => exact tb3 (i := 0) rfl
  | 1, _ => exact tb3 (i := 77) rfl
  | 2, _ => exact tb3 (i := 82) rfl
  | 3, _ => exact tb3 (i := 98) rfl
  | 4, _ => exact tb3 (i := 107) rfl
  | 5, _ => exact tb3 (i := 116) rfl
  | 6, _ => exact tb3 (i := 121) rfl
  | 7, _ => exact tb3 (i := 150) rfl
theorem w_st : ∀ q ∈ strT, Cond.stringRef q.1 q.2.1 q.2.2 ∈ lw_tbl := by
  unfold strT
  exact List.forall_mem_cons.mpr ⟨tb5 (i := 13) rfl, List.forall_mem_cons.mpr ⟨tb5 (i := 84) rfl, List.forall_mem_cons.mpr ⟨tb5 (i := 88) rfl, List.forall_mem_cons.mpr ⟨tb5 (i := 96) rfl, List.forall_mem_cons.mpr ⟨tb5 (i := 119) rfl, List.forall_mem_cons.mpr ⟨tb5 (i := 131) rfl, List.forall_mem_cons.mpr ⟨tb5 (i := 144) rfl, List.forall_mem_cons.mpr ⟨tb5 (i := 166) rfl, List.forall_mem_cons.mpr ⟨tb6 (i := 42) rfl, List.forall_mem_cons.mpr ⟨tb6 (i := 67) rfl, List.forall_mem_cons.mpr ⟨tb6 (i := 139) rfl, List.forall_mem_cons.mpr ⟨tb6 (i := 165) rfl, List.forall_mem_cons.mpr ⟨tb6 (i := 166) rfl, List.forall_mem_cons.mpr ⟨tb6 (i := 195) rfl, List.forall_mem_cons.mpr ⟨tb6 (i := 218) rfl, fun _ h => nomatch h⟩⟩⟩⟩⟩⟩⟩⟩⟩⟩⟩⟩⟩⟩⟩
theorem w_ne : ∀ q ∈ nestT, Cond.methodLinkNest q.1 q.2.1 q.2.2.1 q.2.2.2 ∈ lw_tbl := by
  unfold nestT
  exact List.forall_mem_cons.mpr ⟨tb1 (i := 38) rfl, List.forall_mem_cons.mpr ⟨tb1 (i := 66) rfl, List.forall_mem_cons.mpr ⟨tb1 (i := 72) rfl, List.forall_mem_cons.mpr ⟨tb1 (i := 129) rfl, List.forall_mem_cons.mpr ⟨tb1 (i := 173) rfl, List.forall_mem_cons.mpr ⟨tb1 (i := 196) rfl, List.forall_mem_cons.mpr ⟨tb2 (i := 122) rfl, List.forall_mem_cons.mpr ⟨tb2 (i := 168) rfl, List.forall_mem_cons.mpr ⟨tb3 (i := 91) rfl, fun _ h => nomatch h⟩⟩⟩⟩⟩⟩⟩⟩⟩
theorem w_ca : ∀ q ∈ castT, Cond.castable q.1 q.2 ∈ lw_tbl := by
  unfold castT
  exact List.forall_mem_cons.mpr ⟨tb4 (i := 213) rfl, List.forall_mem_cons.mpr ⟨tb5 (i := 58) rfl, List.forall_mem_cons.mpr ⟨tb5 (i := 77) rfl, List.forall_mem_cons.mpr ⟨tb6 (i := 211) rfl, List.forall_mem_cons.mpr ⟨tb9 (i := 210) rfl, fun _ h => nomatch h⟩⟩⟩⟩⟩
theorem w_de : ∀ q ∈ privT, Cond.declares q ∈ lw_tbl := by
  unfold privT
  exact List.forall_mem_cons.mpr ⟨tb4 (i := 214) rfl, List.forall_mem_cons.mpr ⟨tb4 (i := 215) rfl, List.forall_mem_cons.mpr ⟨tb4 (i := 216) rfl, List.forall_mem_cons.mpr ⟨tb4 (i := 217) rfl, List.forall_mem_cons.mpr ⟨tb4 (i := 218) rfl, List.forall_mem_cons.mpr ⟨tb4 (i := 219) rfl, List.forall_mem_cons.mpr ⟨tb5 (i := 59) rfl, List.forall_mem_cons.mpr ⟨tb5 (i := 60) rfl, fun _ h => nomatch h⟩⟩⟩⟩⟩⟩⟩⟩
theorem ev_ex {args : Array Value} {s : State} {t : Term} {c : String} (h : (Cond.exactly t c).before args s = true) : ∃ a, t.eval args s none [] s = some (.ref a) := by
  obtain ⟨a, c, cA, kA, q1, -⟩ := Cond.exactly_spec (args := args) (first := s) (o := none) (s := s) (idx := []) h
  exact ⟨a, q1⟩
theorem arr_w {args : Array Value} {s : State} {ty : FieldType} (h : (Cond.arrayClass ty).before args s = true) : ∃ cA, ArrOfT s cA ty ∧ s.vm.findClass ("[" ++ ty.toString) = some cA := by
  obtain ⟨cA, kA, comp, h1, h2, h3⟩ := Cond.arrayClass_spec (args := args) (first := s) (o := none) (s := s) (idx := []) h
  exact ⟨cA, fun n z => ⟨(fun k h => by cases h), kA, h2, comp, h3⟩, h1⟩
theorem arr_o {args : Array Value} {s : State} {C : String} (h : (Cond.arrayOver (.object C)).before args s = true) : ∃ cA, ArrOfT s cA (.object C) ∧ va_RA s cA (.object C) := by
  obtain ⟨comp, cA, kA, h1, -, h2, h3, h4⟩ := Cond.arrayOver_spec (args := args) (first := s) (o := none) (s := s) (idx := []) h
  exact ⟨cA, fun n z => ⟨(fun k h => by cases h), kA, h2, comp, h3⟩, kA, comp, h2, h3, h1, h4⟩
theorem start_K {args : Array Value} {s : State} (hg : ∀ w ∈ gtbl, w.before args s = true) : ∃ D : va_G, ∀ (k : Nat) (q : vw_C), CL[k]? = some q → u_Kn s q.1 q.2.1 q.2.2 (D.1 k) (D.2 k) := by
  have h0 : ∀ k : Nat, ∃ p : ClassId × (Nat → Nat), ∀ q : vw_C, CL[k]? = some q → u_Kn s q.1 q.2.1 q.2.2 p.1 p.2 := by
    intro k
    match k with
    | 0 => obtain ⟨c, f, h⟩ := u_known hg uw0 (hg _ q_71); exact ⟨(c, f), fun q hq => by cases hq; exact h⟩
    | 1 => obtain ⟨c, f, h⟩ := u_known hg uw1 (hg _ q_43); exact ⟨(c, f), fun q hq => by cases hq; exact h⟩
    | 2 => obtain ⟨c, f, h⟩ := u_known hg uw2 (hg _ q_195); exact ⟨(c, f), fun q hq => by cases hq; exact h⟩
    | 3 => obtain ⟨c, f, h⟩ := u_known hg uw3 (hg _ q_401); exact ⟨(c, f), fun q hq => by cases hq; exact h⟩
    | 4 => obtain ⟨c, f, h⟩ := u_known hg uw4 (hg _ q_59); exact ⟨(c, f), fun q hq => by cases hq; exact h⟩
    | 5 => obtain ⟨c, f, h⟩ := u_known hg uw5 (hg _ q_37); exact ⟨(c, f), fun q hq => by cases hq; exact h⟩
    | 6 => obtain ⟨c, f, h⟩ := u_known hg uw6 (hg _ q_361); exact ⟨(c, f), fun q hq => by cases hq; exact h⟩
    | 7 => obtain ⟨c, f, h⟩ := u_known hg uw7 (hg _ q_172); exact ⟨(c, f), fun q hq => by cases hq; exact h⟩
    | 8 => obtain ⟨c, f, h⟩ := u_known hg uw8 (hg _ q_65); exact ⟨(c, f), fun q hq => by cases hq; exact h⟩
    | 9 => obtain ⟨c, f, h⟩ := u_known hg uw9 (hg _ q_128); exact ⟨(c, f), fun q hq => by cases hq; exact h⟩
    | 10 => obtain ⟨c, f, h⟩ := u_known hg uw10 (hg _ q_29); exact ⟨(c, f), fun q hq => by cases hq; exact h⟩
    | 11 => obtain ⟨c, f, h⟩ := u_known hg uw11 (hg _ q_1433); exact ⟨(c, f), fun q hq => by cases hq; exact h⟩
    | k + 12 => obtain ⟨c, f, h⟩ := u_known hg uw0 (hg _ q_71); exact ⟨(c, f), fun q hq => by simp [CL] at hq⟩
  obtain ⟨d, hd⟩ := Classical.axiomOfChoice h0
  exact ⟨(fun k => (d k).1, fun k => (d k).2), fun k q hq => hd k q hq⟩
theorem start_T {args : Array Value} {s : State} (hg : ∀ w ∈ gtbl, w.before args s = true) (ho : (Cond.arrayOver (.object "FlatPlan$State")).before args s = true) : ∃ eC : Nat → ClassId, ∀ t, t < 6 → ArrOfT s (eC t) (aT t) ∧ va_RA s (eC t) (aT t) := by
  obtain ⟨c0, a0, b0⟩ := arr_w (hg _ q_57)
  obtain ⟨c1, a1, b1⟩ := arr_w (hg _ q_680)
  obtain ⟨c2, a2, b2⟩ := arr_w (hg _ q_1509)
  obtain ⟨c3, a3, b3⟩ := arr_w (hg _ q_2127)
  obtain ⟨c4, a4, b4⟩ := arr_w (hg _ q_2128)
  obtain ⟨c5, a5, b5⟩ := arr_o ho
  refine ⟨fun t => match t with | 0 => c0 | 1 => c1 | 2 => c2 | 3 => c3 | 4 => c4 | _ => c5, fun t ht => ?_⟩
  match t, ht with
  | 0, _ => exact ⟨a0, b0⟩
  | 1, _ => exact ⟨a1, b1⟩
  | 2, _ => exact ⟨a2, b2⟩
  | 3, _ => exact ⟨a3, b3⟩
  | 4, _ => exact ⟨a4, b4⟩
  | 5, _ => exact ⟨a5, b5⟩
theorem start_E {args : Array Value} {s : State} (l : Launch) (hflags : l.flags = flags0) {b Ln : Nat} {xs : Nat → Int32} (hts : ∀ w ∈ lw_tbl, w.before args s = true) (hX : va_X b Ln xs s s.heap) (hbl : b < s.heap.size) (hgv : (Jvm.Cond.and given_1 narrow_1).before args s = true) : ∃ E : EV, eL E = l ∧ eB E = s.heap.size ∧ eSb E = b ∧ eSl E = Ln ∧ eSx E = xs ∧ eM E = false ∧ EnvS E s := by
  have hs : ∀ w ∈ narL, w.before args s = true := flat_of_before _ hgv
  have hg : ∀ w ∈ gtbl, w.before args s = true := fun w hw => hts w (List.mem_filter.mp hw).1
  have ho : (Cond.arrayOver (.object "FlatPlan$State")).before args s = true := hts _ (tb2 (i := 167) rfl)
  have hA : ∀ a : Nat, a < s.heap.size → ¬ (s.heap.size ≤ a) := fun a h q => Nat.lt_irrefl _ (Nat.lt_of_lt_of_le h q)
  obtain ⟨D, hD⟩ := start_K hg
  obtain ⟨eC, hC⟩ := start_T hg ho
  obtain ⟨adK, adV, hS, hev⟩ := vk_Sof (args := args) (s := s) (N := nLit) (tm := tmS) (len := lenS) (byt := bytS) (A := fun q => s.heap.size ≤ q) (by decide +kernel) (fun i hi => hs _ (n_ex i hi)) (fun i hi => hs _ (n_co i hi)) (fun i hi => hs _ (n_ar i hi)) (fun i hi => hs _ (n_le i hi)) (fun i hi j hj => hs _ (n_el i hi j hj)) (fun i j hi hj e => (n_ne i hi j hj e).imp (hs _) (hs _)) hA
  have hZ : ∀ C n d, Cond.laysStatic C n d ∈ lw_tbl → Cond.initialized C ∈ gtbl → Cond.isRef (.static C n d) ∈ narL → vx_Zq C n d (fun q => s.heap.size ≤ q) s s.heap := fun C n d h1 h2 h3 => vx_Zqof (hts _ h1) (hg _ h2) (hs _ h3) hA
  refine ⟨(l, s.heap.size, D, eC, adK, adV, b, Ln, xs, false), rfl, rfl, rfl, rfl, rfl, rfl, ⟨⟨hD, fun k q hk => ?_⟩, Nat.le_refl _, hbl, ?_⟩, va_AO.of ho, ⟨hZ _ _ _ (tb4 (i := 238) rfl) q_20 n_us, hZ _ _ _ (tb5 (i := 0) rfl) q_20 n_su⟩, fun q hq => ?_, ⟨fun q hq => va_Nw.of rfl (hts _ (w_ne q hq)), fun q hq => va_Nw.of rfl (hts _ (w_ca q hq)), fun q hq => va_Nc.of (hs _ (n_nc q hq)), fun q hq => va_Nw.of rfl (hts _ (w_de q hq))⟩, ⟨hS, ?_, va_Zof (hts _ (tb3 (i := 14) rfl)) (hg _ q_15) (va_eqt (hs _ n_cs)) hA, va_Zqof (hts _ (tb3 (i := 30) rfl)) (hg _ q_17) (hs _ n_sf) hA⟩, hX⟩
  · match k, hk with
    | 0, hk => cases hk; exact hC 0 (by decide)
    | 1, hk => cases hk; exact hC 1 (by decide)
    | 2, hk => cases hk; exact hC 2 (by decide)
    | 3, hk => cases hk; exact hC 3 (by decide)
    | 4, hk => cases hk; exact hC 4 (by decide)
    | 5, hk => cases hk; exact hC 5 (by decide)
    | k + 6, hk => cases hk
  · show (!l.flags.contains noTraceFlag) = false
    rw [hflags]
    decide +kernel
  · obtain ⟨a, ha⟩ := ev_ex (hs _ (n_st q hq))
    exact ⟨a, vk_R.of (hts _ (w_st q hq)) ha⟩
  · have key : ∀ i, i < nLit → vk_R "FlatPlan$Reader" (tmI.getD i 0) ((litT.map (fun q => q.2.2.1)).getD i "") (adK i) s := fun i hi => vk_R.of (hts _ (w_ls i hi)) (hev i hi)
    unfold litT
    exact List.forall_mem_cons.mpr ⟨key 0 (by decide), List.forall_mem_cons.mpr ⟨key 1 (by decide), List.forall_mem_cons.mpr ⟨key 2 (by decide), List.forall_mem_cons.mpr ⟨key 3 (by decide), List.forall_mem_cons.mpr ⟨key 4 (by decide), List.forall_mem_cons.mpr ⟨key 5 (by decide), List.forall_mem_cons.mpr ⟨key 6 (by decide), List.forall_mem_cons.mpr ⟨key 7 (by decide), fun _ h => nomatch h⟩⟩⟩⟩⟩⟩⟩⟩
