/-! COPIES -/
def rmN (n : Nat) : Nat := if n = 0 then 0 else if n ≤ 10 then 10 else if n ≤ 15 then 15 else if n ≤ 22 then 22 else if n ≤ 33 then 33 else if n ≤ 49 then 49 else 73
def gsn (n : Nat) : Nat := if n = 0 then 0 else if n ≤ 10 then 10 else if n ≤ 15 then 25 else if n ≤ 22 then 47 else if n ≤ 33 then 80 else if n ≤ 49 then 129 else 202
def gcn (n : Nat) : Nat := if n = 0 then 0 else if n ≤ 10 then 1 else if n ≤ 15 then 2 else if n ≤ 22 then 3 else if n ≤ 33 then 4 else if n ≤ 49 then 5 else 6
theorem rm_s : ∀ n : Nat, n < 49 → n ≤ rmN n ∧ gsn n ≤ gsn (n + 1) ∧ gcn n ≤ gcn (n + 1) ∧ ((n < rmN n ∧ rmN (n + 1) = rmN n ∧ gsn (n + 1) = gsn n ∧ gcn (n + 1) = gcn n) ∨ (n = rmN n ∧ rmN n ≤ 120 ∧ rmN (n + 1) = nxc (rmN n) ∧ gsn (n + 1) = gsn n + nxc (rmN n) ∧ gcn (n + 1) = gcn n + 1)) := by decide +kernel
theorem gs_le : ∀ n : Nat, n < 49 → gsn n ≤ 129 ∧ gcn n ≤ 5 ∧ (n ≤ 10 → gsn n ≤ 10 ∧ gcn n ≤ 1) := by decide +kernel
theorem gs_mono : ∀ n : Nat, n < 49 → ∀ m : Nat, m < 49 → n ≤ m → gsn n ≤ gsn m ∧ gcn n ≤ gcn m := by decide +kernel
theorem hp_ne {L : List PC} {a b k k' : Nat} {vs vs' : List Value} (h1 : hp L a = some (k, vs)) (h2 : hp L b = some (k', vs')) (hk : k ≠ k') : a ≠ b := by
  rintro rfl
  rw [h1] at h2
  cases h2
  exact hk rfl
section Copy
variable {S : St} {L L' : List PC} {P : PA} {W : Vw} {a r x : Nat} {m : Int} {xs : List Nat}
theorem k_addR (h : LsH L a r m (rmN xs.length) xs) (hok : okE L (Value.ref x) = true) (hx : ∀ y ∈ xs, okE L (Value.ref y) = true) (hn : xs.length < 49) (hL : L.length < 800000000) : ∃ L1 r1 m1, gn_AL_add a (Value.ref x) S L = some ((true, (S, L1)), gcn (xs.length + 1) - gcn xs.length, gsn (xs.length + 1) - gsn xs.length) ∧ LsH L1 a r1 m1 (rmN (xs.length + 1)) (xs ++ [x]) ∧ L1.length = L.length + (gcn (xs.length + 1) - gcn xs.length) ∧ (r1 = r ∨ r1 = nCell + L.length) ∧ ∀ b, b ≠ a → b ≠ r1 → hp L1 b = hp L b := by
  have q := rm_s xs.length hn
  rcases q.2.2.2 with ⟨q1, q2, q3, q4⟩ | ⟨q1, q2, q3, q4, q5⟩
  · obtain ⟨L1, e, f1, f2, f3⟩ := k_add (S := S) h hok q1
    exact ⟨L1, r, _, by rw [q3, q4, Nat.sub_self, Nat.sub_self]; exact e, by rw [q2]; exact f1, by rw [q4]; omega, .inl rfl, f3⟩
  · obtain ⟨L1, e, f1, f2, f3⟩ := k_addG (S := S) h hok hx q1 q2 hL
    exact ⟨L1, _, _, by rw [q4, q5, Nat.add_sub_cancel_left, Nat.add_sub_cancel_left]; exact e, by rw [q3]; exact f1, by rw [q5]; omega, .inr rfl, f3⟩
/-- what an add leaves: a cell of another kind -/
theorem add_keep {L1 : List PC} {r1 cp b k : Nat} {vs : List Value} (h : LsH L a r m cp xs) (h1 : r1 = r ∨ r1 = nCell + L.length) (hf : ∀ b, b ≠ a → b ≠ r1 → hp L1 b = hp L b) (hb : hp L b = some (k, vs)) (hk : k ≠ 13 ∧ k ≠ 103) : hp L1 b = some (k, vs) := by
  rw [hf b (hp_ne hb h.2.1 hk.1) ?_]
  · exact hb
  · rintro rfl
    rcases h1 with e | e
    · rcases h.2.2 with ⟨q, _⟩ | ⟨vs', q, _⟩
      · have := (hp_bd hb).2.1; omega
      · rw [← e] at q; exact hp_ne hb q hk.2 rfl
    · rw [e, hp_new] at hb; cases hb
def Itm (v : List Value) : Prop := ∃ sz gr sd pr rd pg co, v = itV sz gr sd pr rd pg co ∧ (inR sz ∧ inR gr ∧ inR sd) ∧ (inR pr ∧ inR rd ∧ inR pg) ∧ (co = 0 ∨ co = 1)
theorem k_itemCopy {v : List Value} (hx : hp L x = some (11, v)) (hv : Itm v) (hL : L.length < 900000000) : ∃ L1, gn_LI_copy x S L = some ((Value.ref (nCell + L.length), (S, L1)), 1, 7) ∧ N1 L L1 (nCell + L.length) (11, v) := by
  obtain ⟨sz, gr, sd, pr, rd, pg, co, rfl, ⟨i0, i1, i2⟩, ⟨i3, i4, i5⟩, i6⟩ := hv
  have i6' : inR co := by unfold inR; omega
  have hn := N1.of (L := L) (c := (11, dfl 11)) hL
  have hxL : x ≠ nCell + L.length := by have := hp_lt hx; omega
  have x0 : hp (L ++ [(11, dfl 11)]) x = some (11, itV sz gr sd pr rd pg co) := by rw [hn.2.2, if_neg hxL]; exact hx
  obtain ⟨L1, e1, w1⟩ := pf_s hn.at (f := 0) (Nat.le_of_ble_eq_true rfl) (V sz)
  have x1 : hp L1 x = some (11, itV sz gr sd pr rd pg co) := by rw [w1.ne hxL]; exact x0
  obtain ⟨L2, e2, w2⟩ := pf_s w1.at (f := 1) (Nat.le_of_ble_eq_true rfl) (V gr)
  have x2 : hp L2 x = some (11, itV sz gr sd pr rd pg co) := by rw [w2.ne hxL]; exact x1
  obtain ⟨L3, e3, w3⟩ := pf_s w2.at (f := 2) (Nat.le_of_ble_eq_true rfl) (V sd)
  have x3 : hp L3 x = some (11, itV sz gr sd pr rd pg co) := by rw [w3.ne hxL]; exact x2
  obtain ⟨L4, e4, w4⟩ := pf_s w3.at (f := 3) (Nat.le_of_ble_eq_true rfl) (V pr)
  have x4 : hp L4 x = some (11, itV sz gr sd pr rd pg co) := by rw [w4.ne hxL]; exact x3
  obtain ⟨L5, e5, w5⟩ := pf_s w4.at (f := 4) (Nat.le_of_ble_eq_true rfl) (V rd)
  have x5 : hp L5 x = some (11, itV sz gr sd pr rd pg co) := by rw [w5.ne hxL]; exact x4
  obtain ⟨L6, e6, w6⟩ := pf_s w5.at (f := 5) (Nat.le_of_ble_eq_true rfl) (V pg)
  have x6 : hp L6 x = some (11, itV sz gr sd pr rd pg co) := by rw [w6.ne hxL]; exact x5
  obtain ⟨L7, e7, w7⟩ := pf_s w6.at (f := 6) (Nat.le_of_ble_eq_true rfl) (V co)
  refine ⟨L7, ?_, ((((((hn.w w1).w w2).w w3).w w4).w w5).w w6).w w7⟩
  unfold gn_LI_copy gn_LI_init
  rw [if_pos hL, nw_x, bnO_s, gfI_s (f := 0) x0 rfl i0, bnO_s, e1, bnO_s, gfI_s (f := 1) x1 rfl i1, bnO_s, e2, bnO_s, gfI_s (f := 2) x2 rfl i2, bnO_s, e3, bnO_s, gfI_s (f := 3) x3 rfl i3, bnO_s, e4, bnO_s, gfI_s (f := 4) x4 rfl i4, bnO_s, e5, bnO_s, gfI_s (f := 5) x5 rfl i5, bnO_s, e6, bnO_s, gfI_s (f := 6) x6 rfl i6', bnO_s, if_pos i6, e7, bnO_s]
  rfl
/-- the loop over a list of items -/
def cpyB (c1 c2 fd : Nat) (go : LZ → Option (LZ × Nat × Nat)) (S : St) (L : List PC) : Option (LZ × Nat × Nat) := if isK L c2 14 = true then (bnO (gn_Itr_hasNext c2 S L) fun p19 => if p19 = true then (if isK L c2 14 = true then (bnO (gn_Itr_next c2 S L) fun p22 => adC p22.2.1 p22.2.2 (rfB p22.1.1 fun r24 => if isK p22.1.2.2 r24 11 = true then (bnO (gfV p22.1.2.2 c1 12 fd) fun v26 => if isK p22.1.2.2 r24 11 = true then (bnO (gn_LI_copy r24 p22.1.2.1 p22.1.2.2) fun p27 => adC p27.2.1 p27.2.2 (rfB v26 fun r29 => if isK p27.1.2.2 r29 13 = true then (bnO (gn_AL_add r29 p27.1.1 p27.1.2.1 p27.1.2.2) fun p30 => adC p30.2.1 p30.2.2 (go (p30.1.2.1, p30.1.2.2))) else none)) else none) else none)) else none) else (some ((S, L), 0, 0))) else none
theorem cp_48 {c0 c1 c2 : Nat} : lo2_LP_copy_48 c0 c1 c2 = lp (fun go p => cpyB c1 c2 4 go p.1 p.2) := rfl
theorem cp_90 {c0 c1 c2 : Nat} : lo2_LP_copy_90 c0 c1 c2 = lp (fun go p => cpyB c1 c2 5 go p.1 p.2) := rfl
theorem cp_132 {c0 c1 c2 : Nat} : lo2_LP_copy_132 c0 c1 c2 = lp (fun go p => cpyB c1 c2 6 go p.1 p.2) := rfl
theorem nd_snoc {ys : List Nat} {y : Nat} (h : ys.Nodup) (hy : y ∉ ys) : (ys ++ [y]).Nodup := by
  rw [List.nodup_append]
  refine ⟨h, List.nodup_cons.mpr ⟨(fun q => nomatch q), List.nodup_nil⟩, fun a ha b hb => ?_⟩
  rw [List.mem_singleton] at hb
  rintro rfl
  exact hy (hb ▸ ha)
theorem cp_loop {c1 c2 fd l2 a0 r0 cp0 r2 : Nat} {m0 m2 : Int} {xs : List Nat} {f : Nat → List Value} {K0 : List PC} (hK0 : K0.length < 600000000) (hsrc : LsH K0 a0 r0 m0 cp0 xs) (hit : ItH K0 c2 a0 m0 0)
    (hitm : ∀ i x : Nat, xs[i]? = some x → hp K0 x = some (11, f i) ∧ Itm (f i)) (hc1 : ∃ vs, hp K0 c1 = some (12, vs) ∧ vs[fd]? = some (Value.ref l2)) (hl2 : LsH K0 l2 r2 m2 0 []) (hne : l2 ≠ a0) (hn : xs.length ≤ 48) :
    Ok (lp (fun go p => cpyB c1 c2 fd go p.1 p.2) FU (S, K0)) (xs.length + gcn xs.length) (7 * xs.length + gsn xs.length) (fun v => ∃ K r m ys, v = (S, K) ∧ LsH K l2 r m (rmN xs.length) ys ∧ ys.length = xs.length ∧ (∀ i y : Nat, ys[i]? = some y → hp K y = some (11, f i)) ∧ (∀ y ∈ ys, nCell + K0.length ≤ y) ∧ ys.Nodup ∧ (r < XB → nCell + K0.length ≤ r) ∧ Sf (fun b => b = l2 ∨ b = c2) K0 K ∧ K.length = K0.length + xs.length + gcn xs.length) := by
  obtain ⟨vc, hcv, hcf⟩ := hc1
  obtain ⟨lit0, hit0⟩ := hit
  have n1 : a0 ≠ c2 := hp_ne hsrc.2.1 hit0 (by decide)
  have n2 : l2 ≠ c2 := hp_ne hl2.2.1 hit0 (by decide)
  have n3 : c1 ≠ c2 := hp_ne hcv hit0 (by decide)
  have n4 : c1 ≠ l2 := hp_ne hcv hl2.2.1 (by decide)
  have hr0 : r0 < XB → ¬ (r0 = l2 ∨ r0 = c2) := fun q => by
    rcases hsrc.2.2 with ⟨e, _⟩ | ⟨vs, e, _⟩
    · omega
    · have q1 := hp_ne e hl2.2.1 (by decide)
      have q2 := hp_ne e hit0 (by decide)
      exact fun z => z.elim q1 q2
  have h := lp_Ok (body := fun go p => cpyB c1 c2 fd go p.1 p.2) (R := fun v : LZ => ∃ K r m ys, v = (S, K) ∧ LsH K l2 r m (rmN xs.length) ys ∧ ys.length = xs.length ∧ (∀ i y : Nat, ys[i]? = some y → hp K y = some (11, f i)) ∧ (∀ y ∈ ys, nCell + K0.length ≤ y) ∧ ys.Nodup ∧ (r < XB → nCell + K0.length ≤ r) ∧ Sf (fun b => b = l2 ∨ b = c2) K0 K ∧ K.length = K0.length + xs.length + gcn xs.length)
    (fun n z => ∃ K r m ys, z = (S, K) ∧ ys.length + n = xs.length ∧ ItH K c2 a0 m0 ys.length ∧ LsH K l2 r m (rmN ys.length) ys ∧ (∀ i y : Nat, ys[i]? = some y → hp K y = some (11, f i)) ∧ (∀ y ∈ ys, nCell + K0.length ≤ y) ∧ ys.Nodup ∧ (r < XB → nCell + K0.length ≤ r) ∧ Sf (fun b => b = l2 ∨ b = c2) K0 K ∧ K.length = K0.length + ys.length + gcn ys.length)
    (fun n => n + (gcn xs.length - gcn (xs.length - n))) (fun n => 7 * n + (gsn xs.length - gsn (xs.length - n)))
    (fun go z hz => by
      obtain ⟨K, r, m, ys, rfl, h1, h2, h3, h4, h5, h6, h7, h8, h9⟩ := hz
      have hs : LsH K a0 r0 m0 cp0 xs := hsrc.sf h8 (fun q => q.elim hne.symm n1) hr0
      show Ok (cpyB c1 c2 fd go S K) _ _ _
      have q := k_hasNext (S := S) hs h2 ⟨by omega, by omega⟩
      rw [decide_eq_false (by omega)] at q
      unfold cpyB
      rw [if_pos h2.k, q, bnO_s, if_neg Bool.false_ne_true]
      have e : ys.length = xs.length := by omega
      rw [e] at h3 h9
      exact Ok.ret ⟨K, r, m, ys, rfl, h3, e, h4, h5, h6, h7, h8, h9⟩)
    (fun go n z hz hgo => by
      obtain ⟨K, r, m, ys, rfl, h1, h2, h3, h4, h5, h6, h7, h8, h9⟩ := hz
      have hs : LsH K a0 r0 m0 cp0 xs := hsrc.sf h8 (fun q => q.elim hne.symm n1) hr0
      show Ok (cpyB c1 c2 fd go S K) (n + 1 + (gcn xs.length - gcn (xs.length - (n + 1)))) (7 * (n + 1) + (gsn xs.length - gsn (xs.length - (n + 1)))) _
      have ey : xs.length - (n + 1) = ys.length := by omega
      have ey2 : xs.length - n = ys.length + 1 := by omega
      rw [ey2] at hgo
      rw [ey]
      have g1 := rm_s ys.length (by omega)
      have g2 := gs_mono (ys.length + 1) (by omega) xs.length (by omega) (by omega)
      have g3 := gs_le ys.length (by omega)
      obtain ⟨x, hx⟩ : ∃ x, xs[ys.length]? = some x := ⟨_, List.getElem?_eq_getElem (by omega)⟩
      have q := k_hasNext (S := S) hs h2 ⟨by omega, by omega⟩
      rw [decide_eq_true (by omega)] at q
      obtain ⟨K1, e1, w1⟩ := k_next (S := S) hs h2 (by omega) (x := x) (by rw [Int.toNat_natCast]; exact hx)
      have hkt := h2.k
      obtain ⟨l0, hl0⟩ := h2
      obtain ⟨hx0, hxi⟩ := hitm _ _ hx
      have nx2 : x ≠ c2 := hp_ne hx0 hit0 (by decide)
      have nxl : x ≠ l2 := hp_ne hx0 hl2.2.1 (by decide)
      have hx1 : hp K1 x = some (11, f ys.length) := by rw [w1.ne nx2]; exact h8.at hx0 (fun q => q.elim nxl nx2)
      have hc1K : hp K1 c1 = some (12, vc) := by rw [w1.ne n3]; exact h8.at hcv (fun q => q.elim n4 n3)
      have b9 : K.length < 700000000 := by omega
      obtain ⟨K2, e2, w2⟩ := k_itemCopy (S := S) hx1 hxi (by rw [w1.1]; omega)
      have h31 : LsH K1 l2 r m (rmN ys.length) ys := h3.w1 hl0 (show (14 : Nat) ≠ 13 ∧ (14 : Nat) ≠ 103 by decide) w1
      have h32 : LsH K2 l2 r m (rmN ys.length) ys := h31.sf w2.sf0 id (fun _ => id)
      have h42 : ∀ i y : Nat, ys[i]? = some y → hp K2 y = some (11, f i) := fun i y hy => by
        have q1 := h4 i y hy
        have q2 : hp K1 y = some (11, f i) := by rw [w1.ne (hp_ne q1 hl0 (by decide))]; exact q1
        exact w2.sf0.at0 q2
      obtain ⟨K3, r3, m3, e3, f1, f2, f3, f4⟩ := k_addR (S := S) (x := nCell + K1.length) h32 (okE_i w2.at (.inl rfl)) (fun y hy => by
        obtain ⟨i, hi⟩ := List.mem_iff_getElem?.mp hy
        exact okE_i (h42 i y hi) (.inl rfl)) (by omega) (by rw [w2.2.1, w1.1]; omega)
      have l1 := w1.1
      have l2' := w2.2.1
      unfold cpyB
      rw [if_pos hkt, q, bnO_s, if_pos rfl, if_pos hkt, e1, bnO_s]
      show Ok (adC 0 0 (rfB (Value.ref x) fun r24 => if isK K1 r24 11 = true then (bnO (gfV K1 c1 12 fd) fun v26 => if isK K1 r24 11 = true then (bnO (gn_LI_copy r24 S K1) fun p27 => adC p27.2.1 p27.2.2 (rfB v26 fun r29 => if isK p27.1.2.2 r29 13 = true then (bnO (gn_AL_add r29 p27.1.1 p27.1.2.1 p27.1.2.2) fun p30 => adC p30.2.1 p30.2.2 (go (p30.1.2.1, p30.1.2.2))) else none)) else none) else none)) _ _ _
      have k11 : isK K1 x 11 = true := isK_s hx1 (by decide)
      rw [adC00, rfB_r, if_pos k11, gfV_s hc1K hcf, bnO_s, if_pos k11, e2, bnO_s]
      refine Ok.ad (c := 1) (s := 7) (by omega) (by omega) ?_
      show Ok (rfB (Value.ref l2) fun r29 => if isK K2 r29 13 = true then (bnO (gn_AL_add r29 (Value.ref (nCell + K1.length)) S K2) fun p30 => adC p30.2.1 p30.2.2 (go (p30.1.2.1, p30.1.2.2))) else none) _ _ _
      rw [rfB_r, if_pos h32.k, e3, bnO_s]
      refine Ok.ad (c := gcn (ys.length + 1) - gcn ys.length) (s := gsn (ys.length + 1) - gsn ys.length) (by omega) (by omega) ?_
      show Ok (go (S, K3)) _ _ _
      have hyl : (ys ++ [nCell + K1.length]).length = ys.length + 1 := List.length_append
      have hr3 : r3 < XB → nCell + K0.length ≤ r3 := fun q => by
        rcases f3 with e | e
        · rw [e] at q ⊢; exact h7 q
        · rw [e, l2', l1]; omega
      have s3 : Sf (fun b => b = l2 ∨ b = c2) K0 K3 := by
        have t2 : Sf (fun b => b = l2 ∨ b = c2) K0 K2 := (h8.w w1 (.inl (.inr rfl))).n w2
        refine ⟨by omega, fun b hb hF => ?_⟩
        have hbx : b < XB := by unfold nCell XB at *; omega
        rw [f4 b (fun q => hF (.inl q)) (fun q => by
          by_cases z : r3 < XB
          · have := hr3 z; omega
          · omega)]
        exact t2.2 b hb hF
      refine (hgo _ ⟨K3, r3, m3, ys ++ [nCell + K1.length], rfl, by omega, ?_, ?_, ?_, ?_, ?_, hr3, s3, by rw [hyl]; omega⟩).mono (by omega) (by omega) (fun _ q => q)
      · have q1 : hp K2 c2 = some (14, [V ((ys.length : Int) + 1), V ys.length, V m0, Value.ref a0]) := w2.sf0.at0 w1.at
        have q2 := add_keep h32 f3 f4 q1 (by decide)
        rw [hyl, show ((ys.length + 1 : Nat) : Int) = (ys.length : Int) + 1 by omega]
        exact ⟨_, q2⟩
      · rw [hyl]; exact f1
      · intro i y hy
        by_cases c : i < ys.length
        · rw [List.getElem?_append_left c] at hy
          exact add_keep h32 f3 f4 (h42 i y hy) (by decide)
        · have hi := (List.getElem?_eq_some_iff.mp hy).1
          have e : i = ys.length := by omega
          subst e
          rw [List.getElem?_append_right (Nat.le_refl _), Nat.sub_self] at hy
          cases hy
          exact add_keep h32 f3 f4 w2.at (by decide)
      · intro y hy
        rw [List.mem_append, List.mem_singleton] at hy
        rcases hy with hy | rfl
        · exact h5 y hy
        · omega
      · refine nd_snoc h6 (fun q => ?_)
        obtain ⟨i, hi⟩ := List.mem_iff_getElem?.mp q
        have q1 := h4 _ _ hi
        have := hp_lt q1
        omega)
    xs.length FU (S, K0) ⟨K0, r2, m2, [], rfl, Nat.zero_add _, ⟨_, hit0⟩, hl2, (fun i y hy => by rw [List.getElem?_nil] at hy; cases hy), (fun y hy => nomatch hy), List.nodup_nil, (fun q => by
      rcases hl2.2.2 with ⟨e, _⟩ | ⟨vs, _, e, _⟩
      · omega
      · omega), Sf.refl, rfl⟩ (FU_big (by omega))
  rw [Nat.sub_self, show gcn 0 = 0 from rfl, show gsn 0 = 0 from rfl, Nat.sub_zero, Nat.sub_zero] at h
  exact h
end Copy
