/-! THE START: the environment -/
theorem w_st : ∀ q ∈ strT, Cond.stringRef q.1 q.2.1 q.2.2 ∈ lw_tbl := by
  unfold strT
  exact List.forall_mem_cons.mpr ⟨tb5 (i := 127) rfl, List.forall_mem_cons.mpr ⟨tb5 (i := 168) rfl, List.forall_mem_cons.mpr ⟨tb5 (i := 177) rfl, List.forall_mem_cons.mpr ⟨tb5 (i := 234) rfl, List.forall_mem_cons.mpr ⟨tb6 (i := 20) rfl, List.forall_mem_cons.mpr ⟨tb7 (i := 67) rfl, List.forall_mem_cons.mpr ⟨tb7 (i := 85) rfl, List.forall_mem_cons.mpr ⟨tb7 (i := 143) rfl, List.forall_mem_cons.mpr ⟨tb8 (i := 58) rfl, List.forall_mem_cons.mpr ⟨tb8 (i := 59) rfl, List.forall_mem_cons.mpr ⟨tb8 (i := 103) rfl, List.forall_mem_cons.mpr ⟨tb8 (i := 106) rfl, List.forall_mem_cons.mpr ⟨tb9 (i := 44) rfl, List.forall_mem_cons.mpr ⟨tb9 (i := 66) rfl, List.forall_mem_cons.mpr ⟨tb9 (i := 113) rfl, List.forall_mem_cons.mpr ⟨tb9 (i := 119) rfl, List.forall_mem_cons.mpr ⟨tb9 (i := 124) rfl, List.forall_mem_cons.mpr ⟨tb9 (i := 138) rfl, List.forall_mem_cons.mpr ⟨tb9 (i := 147) rfl, fun _ h => nomatch h⟩⟩⟩⟩⟩⟩⟩⟩⟩⟩⟩⟩⟩⟩⟩⟩⟩⟩⟩
theorem w_ne : ∀ q ∈ nestT, Cond.methodLinkNest q.1 q.2.1 q.2.2.1 q.2.2.2 ∈ lw_tbl := by
  unfold nestT
  exact List.forall_mem_cons.mpr ⟨tb1 (i := 49) rfl, List.forall_mem_cons.mpr ⟨tb1 (i := 77) rfl, List.forall_mem_cons.mpr ⟨tb1 (i := 83) rfl, List.forall_mem_cons.mpr ⟨tb1 (i := 140) rfl, List.forall_mem_cons.mpr ⟨tb1 (i := 184) rfl, List.forall_mem_cons.mpr ⟨tb1 (i := 207) rfl, List.forall_mem_cons.mpr ⟨tb2 (i := 133) rfl, List.forall_mem_cons.mpr ⟨tb2 (i := 179) rfl, List.forall_mem_cons.mpr ⟨tb3 (i := 86) rfl, List.forall_mem_cons.mpr ⟨tb4 (i := 14) rfl, List.forall_mem_cons.mpr ⟨tb8 (i := 206) rfl, fun _ h => nomatch h⟩⟩⟩⟩⟩⟩⟩⟩⟩⟩⟩
theorem w_ca : ∀ q ∈ castT, Cond.castable q.1 q.2 ∈ lw_tbl := by
  unfold castT
  exact List.forall_mem_cons.mpr ⟨tb4 (i := 122) rfl, List.forall_mem_cons.mpr ⟨tb5 (i := 18) rfl, List.forall_mem_cons.mpr ⟨tb5 (i := 23) rfl, List.forall_mem_cons.mpr ⟨tb5 (i := 87) rfl, List.forall_mem_cons.mpr ⟨tb5 (i := 216) rfl, List.forall_mem_cons.mpr ⟨tb6 (i := 13) rfl, List.forall_mem_cons.mpr ⟨tb6 (i := 133) rfl, List.forall_mem_cons.mpr ⟨tb7 (i := 60) rfl, List.forall_mem_cons.mpr ⟨tb9 (i := 176) rfl, List.forall_mem_cons.mpr ⟨tb9 (i := 177) rfl, List.forall_mem_cons.mpr ⟨tb9 (i := 178) rfl, List.forall_mem_cons.mpr ⟨tb9 (i := 179) rfl, List.forall_mem_cons.mpr ⟨tb9 (i := 180) rfl, List.forall_mem_cons.mpr ⟨tb9 (i := 181) rfl, List.forall_mem_cons.mpr ⟨tb9 (i := 182) rfl, List.forall_mem_cons.mpr ⟨tb9 (i := 183) rfl, List.forall_mem_cons.mpr ⟨tb9 (i := 184) rfl, List.forall_mem_cons.mpr ⟨tb9 (i := 185) rfl, List.forall_mem_cons.mpr ⟨tb9 (i := 186) rfl, List.forall_mem_cons.mpr ⟨tb9 (i := 187) rfl, List.forall_mem_cons.mpr ⟨tb9 (i := 188) rfl, List.forall_mem_cons.mpr ⟨tb9 (i := 189) rfl, List.forall_mem_cons.mpr ⟨tb9 (i := 190) rfl, List.forall_mem_cons.mpr ⟨tb9 (i := 191) rfl, List.forall_mem_cons.mpr ⟨tb9 (i := 192) rfl, List.forall_mem_cons.mpr ⟨tb9 (i := 193) rfl, List.forall_mem_cons.mpr ⟨tb9 (i := 194) rfl, List.forall_mem_cons.mpr ⟨tb9 (i := 195) rfl, List.forall_mem_cons.mpr ⟨tb9 (i := 196) rfl, List.forall_mem_cons.mpr ⟨tb9 (i := 197) rfl, List.forall_mem_cons.mpr ⟨tb9 (i := 198) rfl, List.forall_mem_cons.mpr ⟨tb9 (i := 199) rfl, List.forall_mem_cons.mpr ⟨tb9 (i := 203) rfl, List.forall_mem_cons.mpr ⟨tb9 (i := 204) rfl, List.forall_mem_cons.mpr ⟨tb9 (i := 205) rfl, List.forall_mem_cons.mpr ⟨tb9 (i := 206) rfl, List.forall_mem_cons.mpr ⟨tb9 (i := 207) rfl, fun _ h => nomatch h⟩⟩⟩⟩⟩⟩⟩⟩⟩⟩⟩⟩⟩⟩⟩⟩⟩⟩⟩⟩⟩⟩⟩⟩⟩⟩⟩⟩⟩⟩⟩⟩⟩⟩⟩⟩⟩
theorem w_de : ∀ q ∈ privT, Cond.declares q ∈ lw_tbl := by
  unfold privT
  exact List.forall_mem_cons.mpr ⟨tb4 (i := 121) rfl, List.forall_mem_cons.mpr ⟨tb4 (i := 131) rfl, List.forall_mem_cons.mpr ⟨tb5 (i := 88) rfl, List.forall_mem_cons.mpr ⟨tb5 (i := 89) rfl, List.forall_mem_cons.mpr ⟨tb5 (i := 90) rfl, List.forall_mem_cons.mpr ⟨tb5 (i := 91) rfl, List.forall_mem_cons.mpr ⟨tb5 (i := 92) rfl, List.forall_mem_cons.mpr ⟨tb5 (i := 93) rfl, List.forall_mem_cons.mpr ⟨tb5 (i := 217) rfl, List.forall_mem_cons.mpr ⟨tb5 (i := 218) rfl, List.forall_mem_cons.mpr ⟨tb9 (i := 202) rfl, fun _ h => nomatch h⟩⟩⟩⟩⟩⟩⟩⟩⟩⟩⟩
theorem w_ap : ∀ y ∈ asbT, Cond.privateMethod y ∈ lw_tbl := by
  unfold asbT
  exact List.forall_mem_cons.mpr ⟨tb6 (i := 114) rfl, List.forall_mem_cons.mpr ⟨tb6 (i := 118) rfl, List.forall_mem_cons.mpr ⟨tb6 (i := 166) rfl, List.forall_mem_cons.mpr ⟨tb6 (i := 161) rfl, List.forall_mem_cons.mpr ⟨tb6 (i := 122) rfl, List.forall_mem_cons.mpr ⟨tb6 (i := 157) rfl, fun _ h => nomatch h⟩⟩⟩⟩⟩⟩
theorem w_ai : ∀ y ∈ asbT, Cond.instanceMethod y ∈ gtbl := by
  unfold asbT
  exact List.forall_mem_cons.mpr ⟨q_1315, List.forall_mem_cons.mpr ⟨q_1319, List.forall_mem_cons.mpr ⟨q_1367, List.forall_mem_cons.mpr ⟨q_1362, List.forall_mem_cons.mpr ⟨q_1323, List.forall_mem_cons.mpr ⟨q_1358, fun _ h => nomatch h⟩⟩⟩⟩⟩⟩
theorem w_ac : ∀ y ∈ asbT, y.cls = "java/lang/AbstractStringBuilder" ∧ (y.cls ≠ "java/lang/invoke/MethodHandle" ∧ y.cls ≠ "java/lang/invoke/VarHandle") := by decide +kernel
/-- a private method of a class above, selected for the class below: by another of that class's methods of which the tables say it -/
theorem sel_priv {args : Array Value} {s : State} {C : String} {y z : MethodName} (hy : y.cls ≠ "java/lang/invoke/MethodHandle" ∧ y.cls ≠ "java/lang/invoke/VarHandle") (hz : z.cls = y.cls) (hs : (Cond.selects C z z).before args s = true) (hp : (Cond.privateMethod y).before args s = true) (hi : (Cond.instanceMethod y).before args s = true) : (Cond.selects C y y).before args s = true := by
  obtain ⟨c, r, m, hc, -, hm, -, kz, hkz, hnz⟩ := Cond.selects_spec (args := args) (first := s) (o := none) (s := s) (idx := []) hs
  obtain ⟨mk, methM, hnamed, hmethM, -, -⟩ := Cond.instanceMethod_spec (args := args) (first := s) (o := none) (s := s) (idx := []) hi
  have hfound : s.methodFound? y.cls y.name y.desc = some mk := State.methodFound?_of_named hnamed hy
  have hcls : m.cls = mk.cls := Option.some.inj ((findClass_of_methodNamed hm).symm.trans ((congrArg s.vm.findClass hz).trans (findClass_of_methodNamed hnamed)))
  have hsel : selectMethod {} s.vm c mk = .method mk := selectMethod_private hmethM (Cond.privateMethod_at hp mk methM hnamed hmethM)
  rw [hcls] at hkz
  simp only [Cond.before, Cond.holds, Cond.value, hc, hfound, hnamed, hsel, hkz]
  simp; exact hnz
theorem ev_ex {args : Array Value} {s : State} {t : Term} {c : String} (h : (Cond.exactly t c).before args s = true) : ∃ a, t.eval args s none [] s = some (.ref a) := by
  obtain ⟨a, c, cA, kA, q1, -⟩ := Cond.exactly_spec (args := args) (first := s) (o := none) (s := s) (idx := []) h
  exact ⟨a, q1⟩
theorem ev_eq {args : Array Value} {s : State} {t u : Term} {a b : Nat} (h : (Cond.eq t u).before args s = true) (h1 : t.eval args s none [] s = some (.ref a)) (h2 : u.eval args s none [] s = some (.ref b)) : a = b := by
  simpa [Cond.before, Cond.holds, Cond.value, h1, h2] using h
theorem arr_w {args : Array Value} {s : State} {ty : FieldType} (h : (Cond.arrayClass ty).before args s = true) : ∃ cA, ArrOfT s cA ty ∧ s.vm.findClass ("[" ++ ty.toString) = some cA := by
  obtain ⟨cA, kA, comp, h1, h2, h3⟩ := Cond.arrayClass_spec (args := args) (first := s) (o := none) (s := s) (idx := []) h
  exact ⟨cA, fun n z => ⟨(fun k h => by cases h), kA, h2, comp, h3⟩, h1⟩
theorem arr_o {args : Array Value} {s : State} {C : String} (h : (Cond.arrayOver (.object C)).before args s = true) : ∃ cA, ArrOfT s cA (.object C) ∧ va_RA s cA (.object C) := by
  obtain ⟨comp, cA, kA, h1, -, h2, h3, h4⟩ := Cond.arrayOver_spec (args := args) (first := s) (o := none) (s := s) (idx := []) h
  exact ⟨cA, fun n z => ⟨(fun k h => by cases h), kA, h2, comp, h3⟩, kA, comp, h2, h3, h1, h4⟩
theorem start_K {args : Array Value} {s : State} (hg : ∀ w ∈ gtbl, w.before args s = true) : ∃ D : va_G, ∀ (k : Nat) (q : vw_C), CL[k]? = some q → u_Kn s q.1 q.2.1 q.2.2 (D.1 k) (D.2 k) := by
  have h0 : ∀ k : Nat, ∃ p : ClassId × (Nat → Nat), ∀ q : vw_C, CL[k]? = some q → u_Kn s q.1 q.2.1 q.2.2 p.1 p.2 := by
    intro k
    match k with
    | 0 => obtain ⟨c, f, h⟩ := u_known hg uw0 (hg _ q_82); exact ⟨(c, f), fun q hq => by cases hq; exact h⟩
    | 1 => obtain ⟨c, f, h⟩ := u_known hg uw1 (hg _ q_54); exact ⟨(c, f), fun q hq => by cases hq; exact h⟩
    | 2 => obtain ⟨c, f, h⟩ := u_known hg uw2 (hg _ q_206); exact ⟨(c, f), fun q hq => by cases hq; exact h⟩
    | 3 => obtain ⟨c, f, h⟩ := u_known hg uw3 (hg _ q_412); exact ⟨(c, f), fun q hq => by cases hq; exact h⟩
    | 4 => obtain ⟨c, f, h⟩ := u_known hg uw4 (hg _ q_70); exact ⟨(c, f), fun q hq => by cases hq; exact h⟩
    | 5 => obtain ⟨c, f, h⟩ := u_known hg uw5 (hg _ q_48); exact ⟨(c, f), fun q hq => by cases hq; exact h⟩
    | 6 => obtain ⟨c, f, h⟩ := u_known hg uw6 (hg _ q_372); exact ⟨(c, f), fun q hq => by cases hq; exact h⟩
    | 7 => obtain ⟨c, f, h⟩ := u_known hg uw7 (hg _ q_183); exact ⟨(c, f), fun q hq => by cases hq; exact h⟩
    | 8 => obtain ⟨c, f, h⟩ := u_known hg uw8 (hg _ q_76); exact ⟨(c, f), fun q hq => by cases hq; exact h⟩
    | 9 => obtain ⟨c, f, h⟩ := u_known hg uw9 (hg _ q_139); exact ⟨(c, f), fun q hq => by cases hq; exact h⟩
    | 10 => obtain ⟨c, f, h⟩ := u_known hg uw10 (hg _ q_40); exact ⟨(c, f), fun q hq => by cases hq; exact h⟩
    | 11 => obtain ⟨c, f, h⟩ := u_known hg uw11 (hg _ q_867); exact ⟨(c, f), fun q hq => by cases hq; exact h⟩
    | 12 => obtain ⟨c, f, h⟩ := u_known hg uw12 (hg _ q_733); exact ⟨(c, f), fun q hq => by cases hq; exact h⟩
    | 13 => obtain ⟨c, f, h⟩ := u_known hg uw13 (hg _ q_739); exact ⟨(c, f), fun q hq => by cases hq; exact h⟩
    | 14 => obtain ⟨c, f, h⟩ := u_known hg uw14 (hg _ q_820); exact ⟨(c, f), fun q hq => by cases hq; exact h⟩
    | 15 => obtain ⟨c, f, h⟩ := u_known hg uw15 (hg _ q_1276); exact ⟨(c, f), fun q hq => by cases hq; exact h⟩
    | 16 => obtain ⟨c, f, h⟩ := u_known hg uw16 (hg _ q_1180); exact ⟨(c, f), fun q hq => by cases hq; exact h⟩
    | 17 => obtain ⟨c, f, h⟩ := u_known hg uw17 (hg _ q_1240); exact ⟨(c, f), fun q hq => by cases hq; exact h⟩
    | k + 18 => obtain ⟨c, f, h⟩ := u_known hg uw0 (hg _ q_82); exact ⟨(c, f), fun q hq => by simp [CL] at hq⟩
  obtain ⟨d, hd⟩ := Classical.axiomOfChoice h0
  exact ⟨(fun k => (d k).1, fun k => (d k).2), fun k q hq => hd k q hq⟩
theorem start_T {args : Array Value} {s : State} (hg : ∀ w ∈ gtbl, w.before args s = true) (ho : (Cond.arrayOver (.object "FlatPlan$State")).before args s = true) (hj : (Cond.arrayOver (.object "java/lang/Object")).before args s = true) : ∃ eC : Nat → ClassId, ∀ t, t < 6 → ArrOfT s (eC t) (aT t) ∧ va_RA s (eC t) (aT t) := by
  obtain ⟨c0, a0, b0⟩ := arr_w (hg _ q_68)
  obtain ⟨c1, a1, b1⟩ := arr_w (hg _ q_675)
  obtain ⟨c2, a2, b2⟩ := arr_w (hg _ q_808)
  obtain ⟨c3, a3, b3⟩ := arr_o hj
  obtain ⟨c5, a5, b5⟩ := arr_o ho
  refine ⟨fun t => match t with | 0 => c0 | 1 => c1 | 2 => c2 | 3 => c3 | 4 => c0 | _ => c5, fun t ht => ?_⟩
  match t, ht with
  | 0, _ => exact ⟨a0, b0⟩
  | 1, _ => exact ⟨a1, b1⟩
  | 2, _ => exact ⟨a2, b2⟩
  | 3, _ => exact ⟨a3, b3⟩
  | 4, _ => exact ⟨a0, b0⟩
  | 5, _ => exact ⟨a5, b5⟩
/-- the text constants: each one's cell and bytes -/
theorem start_S {args : Array Value} {s : State} (hs : ∀ w ∈ narL, w.before args s = true) (hA : ∀ a : Nat, a < s.heap.size → ¬ (s.heap.size ≤ a)) : ∃ adK adV : Nat → Nat, ∀ i, i < nLit → (tmS i).eval args s none [] s = some (.ref (adK i)) ∧ va_O "java/lang/String" (adK i) (fun q => s.heap.size ≤ q) s s.heap ∧ va_OF "java/lang/String" "coder" "B" (.int 0) (adK i) (fun q => s.heap.size ≤ q) s s.heap ∧ va_OF "java/lang/String" "value" "[B" (.ref (adV i)) (adK i) (fun q => s.heap.size ≤ q) s s.heap ∧ va_T .byte (adV i) (lenS.getD i 0) (fun j => .int ((bytS.getD i []).getD j 0)) (fun q => s.heap.size ≤ q) s s.heap := by
  have h0 : ∀ i : Nat, ∃ p : Nat × Nat, i < nLit → (tmS i).eval args s none [] s = some (.ref p.1) ∧ va_O "java/lang/String" p.1 (fun q => s.heap.size ≤ q) s s.heap ∧ va_OF "java/lang/String" "coder" "B" (.int 0) p.1 (fun q => s.heap.size ≤ q) s s.heap ∧ va_OF "java/lang/String" "value" "[B" (.ref p.2) p.1 (fun q => s.heap.size ≤ q) s s.heap ∧ va_T .byte p.2 (lenS.getD i 0) (fun j => .int ((bytS.getD i []).getD j 0)) (fun q => s.heap.size ≤ q) s s.heap := by
    intro i
    by_cases hi : i < nLit
    · have hlen : ∀ i, i < nLit → lenS.getD i 0 < 2 ^ 31 := by decide +kernel
      obtain ⟨adK, adV, hS, hev⟩ := vk_Sof (args := args) (s := s) (N := 1) (tm := fun _ => tmS i) (len := [lenS.getD i 0]) (byt := [bytS.getD i []]) (A := fun q => s.heap.size ≤ q)
        (fun k hk => by obtain rfl : k = 0 := by omega
                        exact hlen i hi) (fun k hk => hs _ (n_ex i hi)) (fun k hk => hs _ (n_co i hi)) (fun k hk => hs _ (n_ar i hi))
        (fun k hk => by obtain rfl : k = 0 := by omega
                        exact hs _ (n_le i hi))
        (fun k hk j hj => by obtain rfl : k = 0 := by omega
                             exact hs _ (n_el i hi j hj)) (fun k j hk hj e => absurd (show k = j by omega) e) hA
      have q := hS.1 0 (by decide)
      exact ⟨(adK 0, adV 0), fun _ => ⟨hev 0 (by decide), q⟩⟩
    · exact ⟨(0, 0), fun h => absurd h hi⟩
  obtain ⟨f, hf⟩ := Classical.axiomOfChoice h0
  exact ⟨fun i => (f i).1, fun i => (f i).2, fun i hi => hf i hi⟩
theorem byt_ne : ∀ i, i < nLit → ∀ j, j < nLit → lenS.getD i 0 = lenS.getD j 0 → (∀ k, k < lenS.getD i 0 → (bytS.getD i []).getD k 0 = (bytS.getD j []).getD k 0) → i = j := by decide +kernel
theorem of_one {s : State} {A : Nat → Prop} {a v w : Nat} (h1 : va_OF "java/lang/String" "value" "[B" (.ref v) a A s s.heap) (h2 : va_OF "java/lang/String" "value" "[B" (.ref w) a A s s.heap) : v = w := by
  obtain ⟨cf, k, i, f, cell, q1, -, q3, -, q5, -⟩ := h1
  obtain ⟨cf', k', i', f', cell', r1, -, r3, -, r5, -⟩ := h2
  cases q1.symm.trans r1
  cases q3.symm.trans r3
  exact Value.ref.inj (Option.some.inj (q5.symm.trans r5))
/-- two constants of one cell have one text -/
theorem start_I {s : State} {A : Nat → Prop} {adK adV : Nat → Nat} (h : ∀ i, i < nLit → va_OF "java/lang/String" "value" "[B" (.ref (adV i)) (adK i) A s s.heap ∧ va_T .byte (adV i) (lenS.getD i 0) (fun j => .int ((bytS.getD i []).getD j 0)) A s s.heap) : ∀ i j : Nat, i < nLit → j < nLit → adK i = adK j → i = j := by
  intro i j hi hj e
  obtain ⟨a1, b1⟩ := h i hi
  obtain ⟨a2, b2⟩ := h j hj
  rw [e] at a1
  have ev := of_one a1 a2
  rw [ev] at b1
  obtain ⟨cell, q1, -, -, q4, q5, q6, -⟩ := b1
  obtain ⟨cell', r1, -, -, r4, r5, r6, -⟩ := b2
  cases q1.symm.trans r1
  have hlen : ∀ i, i < nLit → lenS.getD i 0 < 2 ^ 31 := by decide +kernel
  have e5 : Int32.ofNat (lenS.getD i 0) = Int32.ofNat (lenS.getD j 0) := q5.symm.trans r5
  have el : lenS.getD i 0 = lenS.getD j 0 := by
    have z1 := Int32.toInt_ofNat_of_lt (hlen i hi)
    have z2 := Int32.toInt_ofNat_of_lt (hlen j hj)
    rw [e5] at z1
    omega
  refine byt_ne i hi j hj el (fun k hk => ?_)
  exact Value.int.inj (Option.some.inj ((q6 k hk).symm.trans (r6 k (by omega))))
/-- a static row -/
theorem st_row {args : Array Value} {s : State} {C n d : String} {ty : FieldType} {N t : Nat} {f : Nat → Value} (hl : (Cond.laysStatic C n d).before args s = true) (hini : (Cond.initialized C).before args s = true) (hA : ∀ a : Nat, a < s.heap.size → ¬ (s.heap.size ≤ a)) (h : (Term.static C n d).eval args s none [] s = some (.ref t)) (hT : va_T ty t N f (fun q => s.heap.size ≤ q) s s.heap) : va_Z C n d (.ref t) (fun q => s.heap.size ≤ q) s s.heap ∧ va_T ty t N f (fun q => s.heap.size ≤ q) s s.heap := ⟨va_Zof hl hini h hA, hT⟩
theorem start_E {args : Array Value} {s : State} (l : Launch) (hflags : l.flags = flags0) {b Ln : Nat} {xs : Nat → Int32} (hts : ∀ w ∈ lw_tbl, w.before args s = true) (hX : va_X b Ln xs s s.heap) (hbl : b < s.heap.size) (hgv : (Jvm.Cond.and given_1 narrow_1).before args s = true) : ∃ E : EV, eL E = l ∧ eB E = s.heap.size ∧ eSb E = b ∧ eSl E = Ln ∧ eSx E = xs ∧ EnvS E s := by
  have hs : ∀ w ∈ narL, w.before args s = true := flat_of_before _ hgv
  have hg : ∀ w ∈ gtbl, w.before args s = true := fun w hw => hts w (List.mem_filter.mp hw).1
  have ho : (Cond.arrayOver (.object "FlatPlan$State")).before args s = true := hts _ (tb2 (i := 178) rfl)
  have hj : (Cond.arrayOver (.object "java/lang/Object")).before args s = true := hts _ (tb5 (i := 7) rfl)
  have hA : ∀ a : Nat, a < s.heap.size → ¬ (s.heap.size ≤ a) := fun a h q => Nat.lt_irrefl _ (Nat.lt_of_lt_of_le h q)
  obtain ⟨D, hD⟩ := start_K hg
  obtain ⟨eC, hC⟩ := start_T hg ho hj
  obtain ⟨adK, adV, hS⟩ := start_S hs hA
  obtain ⟨ad, hc1, hc2⟩ := vb_Cof (args := args) (s := s) (A := fun q => s.heap.size ≤ q) (st := tCa) rfl (va_eqt (hs _ n_cal)) (hs _ n_cae) hA
  obtain ⟨t0, u0, v0⟩ := va_Tof (f := fun _ => .null) (N := 0) (A := fun q => s.heap.size ≤ q) (by decide) (hs _ n_ema) (va_eqt (hs _ n_eml)) (fun j hj => absurd hj (Nat.not_lt_zero j)) hA
  obtain ⟨t1, u1, v1⟩ := va_Tof (f := fun j => .int (Int32.ofNat (48 + j % 10))) (N := 100) (A := fun q => s.heap.size ≤ q) (by decide) (hs _ n_Ona) (va_eqt (hs _ n_Onl)) (fun j hj => va_eqt (hs _ (n_One j hj))) hA
  obtain ⟨t2, u2, v2⟩ := va_Tof (f := fun j => .int (Int32.ofNat (48 + j / 10))) (N := 100) (A := fun q => s.heap.size ≤ q) (by decide) (hs _ n_Tea) (va_eqt (hs _ n_Tel)) (fun j hj => va_eqt (hs _ (n_Tee j hj))) hA
  obtain ⟨t4, v4⟩ := va_Mi.of (hs _ n_mi)
  obtain ⟨eK0, hK⟩ : ∃ eK0 : Nat → Nat → Nat, ∀ t3, (∀ i, i < 100 → eK0 t3 i = adK i) ∧ (∀ j, j < 256 → eK0 t3 (100 + j) = ad j) ∧ eK0 t3 400 = t0 ∧ eK0 t3 401 = t1 ∧ eK0 t3 402 = t2 ∧ eK0 t3 403 = t3 ∧ eK0 t3 404 = t4 := by
    refine ⟨fun t3 i => if i < 100 then adK i else if i = 400 then t0 else if i = 401 then t1 else if i = 402 then t2 else if i = 403 then t3 else if i = 404 then t4 else ad (i - 100), fun t3 => ⟨fun i hi => if_pos hi, fun j hj => ?_, rfl, rfl, rfl, rfl, rfl⟩⟩
    show (if 100 + j < 100 then _ else _) = _
    rw [if_neg (by omega), if_neg (by omega), if_neg (by omega), if_neg (by omega), if_neg (by omega), if_neg (by omega)]
    exact congrArg ad (by omega)
  obtain ⟨t3, u3, v3⟩ := va_Tof (f := fun j => .ref (ad j)) (N := 256) (A := fun q => s.heap.size ≤ q) (by decide) (hs _ n_caa) (va_eqt (hs _ n_cal)) (fun j hj => hc2 j hj) hA
  obtain ⟨k1, k2, k3, k4, k5, k6, k7⟩ := hK t3
  have l100 : ∀ i, i < nLit → i < 100 := fun i hi => Nat.lt_trans hi (by decide)
  have hZ : ∀ C n d, Cond.laysStatic C n d ∈ lw_tbl → Cond.initialized C ∈ gtbl → Cond.isRef (.static C n d) ∈ narL → vx_Zq C n d (fun q => s.heap.size ≤ q) s s.heap := fun C n d h1 h2 h3 => vx_Zqof (hts _ h1) (hg _ h2) (hs _ h3) hA
  have hT3 : va_T (.object "java/lang/Integer") t3 256 (fun j => .ref (eK0 t3 (100 + j))) (fun q => s.heap.size ≤ q) s s.heap := by
    obtain ⟨cell, h1, h2, h3, h4, h5, h6, h7⟩ := v3
    exact ⟨cell, h1, h2, h3, h4, h5, fun j hj => (h6 j hj).trans (congrArg (fun z => some (Value.ref z)) (k2 j hj).symm), h7⟩
  have hC2 : vb_C (fun j => eK0 t3 (100 + j)) (fun q => s.heap.size ≤ q) s s.heap := ⟨fun j hj => by show va_O _ (eK0 t3 (100 + j)) _ _ _; rw [k2 j hj]; exact hc1.1 j hj, fun j hj => by show va_OF _ _ _ _ (eK0 t3 (100 + j)) _ _ _; rw [k2 j hj]; exact hc1.2 j hj⟩
  refine ⟨(l, s.heap.size, D, eC, eK0 t3, adV, b, Ln, xs, fun _ => 0), rfl, rfl, rfl, rfl, rfl, ⟨⟨hD, fun k q hk => ?_⟩, Nat.le_refl _, hbl, ?_⟩, va_AO.of ho, ⟨hZ _ _ _ (tb5 (i := 112) rfl) q_20 n_us, hZ _ _ _ (tb5 (i := 114) rfl) q_20 n_su⟩, fun q hq => ?_, ⟨fun q hq => va_Nw.of rfl (hts _ (w_ne q hq)), fun q hq => va_Nw.of rfl (hts _ (w_ca q hq)), fun q hq => va_Nc.of (hs _ (n_nc q hq)), fun q hq => va_Nw.of rfl (hts _ (w_de q hq))⟩, ⟨?_, ?_, va_Zof (hts _ (tb3 (i := 9) rfl)) (hg _ q_25) (va_eqt (hs _ n_cs)) hA, va_Zqof (hts _ (tb3 (i := 25) rfl)) (hg _ q_19) (hs _ n_sf) hA⟩, hX, ?_⟩
  · match k, hk with
    | 0, hk => cases hk; exact hC 0 (by decide)
    | 1, hk => cases hk; exact hC 1 (by decide)
    | 2, hk => cases hk; exact hC 2 (by decide)
    | 3, hk => cases hk; exact hC 3 (by decide)
    | 4, hk => cases hk; exact hC 4 (by decide)
    | 5, hk => cases hk; exact hC 5 (by decide)
    | k + 6, hk => cases hk
  · show (!l.flags.contains noTraceFlag) = false
    rw [hflags]
    decide +kernel
  · obtain ⟨a, ha⟩ := ev_ex (hs _ (n_st q hq))
    exact ⟨a, vk_R.of (hts _ (w_st q hq)) ha⟩
  · have key : ∀ i, i < nLit → va_O "java/lang/String" (eK0 t3 i) (fun q => s.heap.size ≤ q) s s.heap ∧ va_OF "java/lang/String" "coder" "B" (.int 0) (eK0 t3 i) (fun q => s.heap.size ≤ q) s s.heap ∧ va_OF "java/lang/String" "value" "[B" (.ref (adV i)) (eK0 t3 i) (fun q => s.heap.size ≤ q) s s.heap ∧ va_T .byte (adV i) (lenS.getD i 0) (fun j => .int ((bytS.getD i []).getD j 0)) (fun q => s.heap.size ≤ q) s s.heap := fun i hi => by
      rw [k1 i (l100 i hi)]
      exact (hS i hi).2
    exact ⟨key, start_I (A := fun q => s.heap.size ≤ q) (adV := adV) (fun i hi => ⟨(key i hi).2.2.1, (key i hi).2.2.2⟩)⟩
  · have key : ∀ i, i < nLit → vk_R (tmI.getD i ("", 0)).1 (tmI.getD i ("", 0)).2 ((litT.map (fun q => q.2.2.1)).getD i "") (eK0 t3 i) s := fun i hi => by
      rw [k1 i (l100 i hi)]
      exact vk_R.of (hts _ (w_ls i hi)) (hS i hi).1
    have k24 : vk_R "java/lang/StringLatin1" 151 "" (eK0 t3 8) s := by
      obtain ⟨a, ha⟩ := ev_ex (hs _ n_sx)
      have e8 : adK 8 = a := ev_eq (hs _ n_sl) (hS 8 (by decide)).1 ha
      rw [k1 8 (by decide), e8]
      exact vk_R.of (hts _ (tb9 (i := 138) rfl)) ha
    unfold litT
    exact List.forall_mem_cons.mpr ⟨key 0 (by decide), List.forall_mem_cons.mpr ⟨key 1 (by decide), List.forall_mem_cons.mpr ⟨key 2 (by decide), List.forall_mem_cons.mpr ⟨key 3 (by decide), List.forall_mem_cons.mpr ⟨key 4 (by decide), List.forall_mem_cons.mpr ⟨key 5 (by decide), List.forall_mem_cons.mpr ⟨key 6 (by decide), List.forall_mem_cons.mpr ⟨key 7 (by decide), List.forall_mem_cons.mpr ⟨key 8 (by decide), List.forall_mem_cons.mpr ⟨key 9 (by decide), List.forall_mem_cons.mpr ⟨key 10 (by decide), List.forall_mem_cons.mpr ⟨key 11 (by decide), List.forall_mem_cons.mpr ⟨key 12 (by decide), List.forall_mem_cons.mpr ⟨key 13 (by decide), List.forall_mem_cons.mpr ⟨key 14 (by decide), List.forall_mem_cons.mpr ⟨key 15 (by decide), List.forall_mem_cons.mpr ⟨key 16 (by decide), List.forall_mem_cons.mpr ⟨key 17 (by decide), List.forall_mem_cons.mpr ⟨key 18 (by decide), List.forall_mem_cons.mpr ⟨key 19 (by decide), List.forall_mem_cons.mpr ⟨key 20 (by decide), List.forall_mem_cons.mpr ⟨key 21 (by decide), List.forall_mem_cons.mpr ⟨key 22 (by decide), List.forall_mem_cons.mpr ⟨key 23 (by decide), List.forall_mem_cons.mpr ⟨k24, fun _ h => nomatch h⟩⟩⟩⟩⟩⟩⟩⟩⟩⟩⟩⟩⟩⟩⟩⟩⟩⟩⟩⟩⟩⟩⟩⟩⟩
  · refine ⟨⟨va_AO.of hj, ?_, va_Dc.of (hts _ (tb9 (i := 202) rfl))⟩, ?_, ?_, ?_, ⟨?_, ?_, hC2⟩, va_Zof (hts _ (tb6 (i := 36) rfl)) (hg _ q_29) (va_eqt (hs _ n_hi)) hA, fun q hq => ?_, fun y hy => va_Nw.of rfl (sel_priv (w_ac y hy).2 (w_ac y hy).1.symm (hg _ q_1338) (hts _ (w_ap y hy)) (hg _ (w_ai y hy))), va_Nw.of rfl (hts _ (tb4 (i := 34) rfl))⟩
    · show va_Mi _ (eK0 t3 404) s
      rw [k7]; exact v4
    · show va_Z _ _ _ (.ref (eK0 t3 400)) _ _ _ ∧ va_T _ (eK0 t3 400) _ _ _ _ _
      rw [k3]
      exact st_row (hts _ (tb4 (i := 31) rfl)) (hg _ q_17) hA u0 v0
    · show va_Z _ _ _ (.ref (eK0 t3 401)) _ _ _ ∧ va_T _ (eK0 t3 401) _ _ _ _ _
      rw [k4]
      exact st_row (hts _ (tb6 (i := 204) rfl)) (hg _ q_28) hA u1 v1
    · show va_Z _ _ _ (.ref (eK0 t3 402)) _ _ _ ∧ va_T _ (eK0 t3 402) _ _ _ _ _
      rw [k5]
      exact st_row (hts _ (tb6 (i := 206) rfl)) (hg _ q_28) hA u2 v2
    · show va_Z _ _ _ (.ref (eK0 t3 403)) _ _ _
      rw [k6]
      exact va_Zof (hts _ (tb6 (i := 38) rfl)) (hg _ q_29) u3 hA
    · show va_T _ (eK0 t3 403) _ _ _ _ _
      rw [k6]; exact hT3
    · unfold itT at hq
      rcases List.mem_cons.mp hq with rfl | hq
      · exact va_Fw.of (hts _ (tb4 (i := 121) rfl)) (hts _ (tb4 (i := 120) rfl)) (hts _ (tb4 (i := 126) rfl)) (hts _ (tb4 (i := 124) rfl)) (hts _ (tb4 (i := 122) rfl))
      rcases List.mem_cons.mp hq with rfl | hq
      · exact va_Fw.of (hts _ (tb4 (i := 131) rfl)) (hts _ (tb4 (i := 130) rfl)) (hts _ (tb4 (i := 135) rfl)) (hts _ (tb4 (i := 133) rfl)) (hts _ (tb4 (i := 122) rfl))
      · exact nomatch hq
