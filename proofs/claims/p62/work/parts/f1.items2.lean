/-! LATE ITEMS: the law's list -/
section Items2
variable {S : St} {L K : List PC} {P : PA} {W : Vw}
theorem rdy_le {x y : Int} (hx : 0 ≤ x ∧ x < 110) (hy : 0 ≤ y ∧ y < 110) (h : lkI W x < lkI W y) : rdy W x ≤ rdy W y := by
  unfold lkI at h
  omega
theorem rdy_h (hV : Val W) {k : Nat} (h : ltI W k = true) : (0 ≤ (k : Int) ∧ (k : Int) < nA W ∧ (k : Int) < 100) ∨ (100 ≤ (k : Int) ∧ (k : Int) - 100 < nS W) := by
  have hi : itm W k = true := by
    unfold ltI at h
    rw [Bool.and_eq_true] at h
    exact h.1
  rcases itm_cases hV hi with q | q
  · exact .inl ⟨q.2.1, q.2.2, q.1⟩
  · exact .inr ⟨q.1, q.2.2⟩
/-- from the end to where it belongs -/
theorem l_at (h : HP K P W) (hV : Val W) {lst r cp i x : Nat} {m a3 a4 a5 : Int} {ixs : List Nat} (hl : LsH K lst r m cp (ixs.map bx)) (hs : SrtI W ixs i) (hi : i < 110) (hx : gfI K x 11 4 = some (rdy W i)) : ∀ (j N : Nat), j ≤ ixs.length → j < N → (∀ y ∈ ixs.drop j, rdy W i < rdy W y) →
    ∃ pos : Nat, lp (fun go p => lb2_Law_items_181 (pT P) lst a3 a4 a5 x S K go p) N (j : Int) = some (pos : Int) ∧ pos ≤ ixs.length ∧ (∀ k ∈ ixs.take pos, rdy W k ≤ rdy W i) ∧ ∀ y ∈ ixs.drop pos, rdy W i < rdy W y
  | 0, N + 1, hj, _, hd => by
    refine ⟨0, ?_, hj, (fun k hk => by rw [List.take_zero] at hk; cases hk), hd⟩
    rw [lp_succ]
    show lb2_Law_items_181 (pT P) lst a3 a4 a5 x S K _ 0 = _
    unfold lb2_Law_items_181
    rw [if_pos (Int.le_refl _)]; rfl
  | j + 1, N + 1, hj, hN, hd => by
    have hln := hl.len
    rw [List.length_map] at hln
    obtain ⟨k, hk⟩ : ∃ k, ixs[j]? = some k := ⟨_, List.getElem?_eq_getElem (by omega)⟩
    have hkm := hs.1 k (List.mem_of_getElem? hk)
    have hmj : (ixs.map bx)[((j : Int)).toNat]? = some (bx k) := by rw [Int.toNat_natCast, List.getElem?_map, hk]; rfl
    have hg := k_get (S := S) hl (i := (j : Int)) (by omega) hmj
    obtain ⟨kb, kv⟩ := k_box (S := S) (L := K) (k := k) (by omega)
    have hr := l_ready (S := S) h hV (rdy_h hV hkm.2)
    have e1 : wr (((j + 1 : Nat) : Int) - 1) = (j : Int) := by rw [wr_s (by omega) (by omega)]; omega
    have e2 : wr (((j + 1 : Nat) : Int) + -1) = (j : Int) := by rw [wr_s (by omega) (by omega)]; omega
    have hkl := (List.getElem?_eq_some_iff.mp hk).1
    have ed : ixs.drop j = k :: ixs.drop (j + 1) := by
      rw [List.drop_eq_getElem_cons hkl]
      congr 1
      exact (List.getElem?_eq_some_iff.mp hk).2
    have hun : ∀ gg, lb2_Law_items_181 (pT P) lst a3 a4 a5 x S K gg ((j + 1 : Nat) : Int) = if rdy W k ≤ rdy W i then some ((j + 1 : Nat) : Int) else gg (j : Int) := fun gg => by
      unfold lb2_Law_items_181
      rw [if_neg (by omega), nm_x, e1, if_pos hl.k, hg, bnO_s, rfB_r, if_pos kb, if_pos kb, kv, bnO_s, hr, bnO_s, hx, bnO_s, nm_x, e2]
    have hun' : ∀ o, lb2_Law_items_181 (pT P) lst a3 a4 a5 x S K (lp (fun go p => lb2_Law_items_181 (pT P) lst a3 a4 a5 x S K go p) N) ((j + 1 : Nat) : Int) = o → lp (fun go p => lb2_Law_items_181 (pT P) lst a3 a4 a5 x S K go p) (N + 1) ((j + 1 : Nat) : Int) = o := fun o q => q
    by_cases c : rdy W k ≤ rdy W i
    · refine ⟨j + 1, hun' _ (by rw [hun, if_pos c]), hj, fun z hz => ?_, hd⟩
      rw [List.take_add_one, hk, List.mem_append] at hz
      rcases hz with hz | hz
      · have e : ixs.take j ++ ixs.drop j = ixs := List.take_append_drop j ixs
        have b := hs.2.1
        rw [← e, List.pairwise_append] at b
        have q := b.2.2 z hz k (by rw [ed]; exact List.mem_cons.mpr (.inl rfl))
        have zm := (hs.1 z (by rw [← e]; exact List.mem_append_left _ hz)).1
        have q2 := rdy_le (W := W) (x := z) (y := k) ⟨by omega, by omega⟩ ⟨by omega, by omega⟩ q
        omega
      · have hz' : z ∈ [k] := hz
        rw [List.mem_singleton] at hz'
        rw [hz']; exact c
    · obtain ⟨pos, e, q⟩ := l_at h hV hl hs hi hx j N (by omega) (by omega) (fun y hy => by
        rw [ed, List.mem_cons] at hy
        rcases hy with rfl | hy
        · omega
        · exact hd y hy)
      exact ⟨pos, hun' _ (by rw [hun, if_neg c]; exact e), q⟩
def inIt (c1 c2 : Nat) (go : Int × Int × Int × LZ → Option ((Int × LZ) × Nat × Nat)) (b3 b4 a5 : Int) (r : Nat) (S : St) (L : List PC) : Option ((Int × LZ) × Nat × Nat) := bnO (gfI L r 11 4) fun v21 => bnO (gfI L c1 12 2) fun v22 => if v22 < v21 then (if isK L c2 13 = true then (bnO (gn_AL_size c2 S L) fun p23 => bnO (lo2_Law_items_181 c1 c2 b3 b4 a5 r S L FU p23) fun p37 => bnO (gn_Integer_valueOf a5 S L) fun p38 => adC p38.2.1 p38.2.2 (if isK p38.1.2.2 c2 13 = true then (bnO (gn_AL_add3 c2 p37 p38.1.1 p38.1.2.1 p38.1.2.2) fun p39 => adC p39.2.1 p39.2.2 (nm (wr (a5 + 1)) fun v41 => go (b3, b4, v41, (p39.1.1, p39.1.2)))) else none)) else none) else (nm (wr (a5 + 1)) fun v42 => go (b3, b4, v42, (S, L)))
theorem jf140 {c1 c2 r : Nat} {go : Int × Int × Int × LZ → Option ((Int × LZ) × Nat × Nat)} {a3 a4 a5 : Int} : jf2_Law_items_140_16 c1 c2 go a3 a4 a5 (.ref r) S L = bnO (gfI L r 11 4) fun v20 => if v20 ≤ a4 then inIt c1 c2 go a3 a4 a5 r S L else bnO (gfI L r 11 4) fun v44 => inIt c1 c2 go a5 v44 a5 r S L := rfl
/-- how many may be late among the first k -/
def bdI (k : Nat) : Nat := if k ≤ 40 then k else if k ≤ 100 then 40 else if k ≤ 103 then k - 60 else 43
/-- the list before number k -/
def LtH (L0 K : List PC) (W : Vw) (lst k len : Nat) (ixs : List Nat) : Prop := ∃ r m, SrtI W ixs k ∧ ixs.length = len ∧ len ≤ bdI k ∧ LsH K lst r m (rmN ixs.length) (ixs.map bx) ∧ (r < XB → nCell + L0.length ≤ r) ∧ Sf F0_ L0 K
theorem bdI_s {W : Vw} (hV : Val W) (hS : nS W ≤ 3) {k : Nat} (hk : k < 110) (h : itm W k = true) : bdI k + 1 ≤ bdI (k + 1) := by
  have b := hV.z
  unfold bdI
  rcases itm_cases hV h with q | q
  · rw [if_pos (by omega), if_pos (by omega)]; exact Nat.le_refl _
  · have c1 : ¬ k ≤ 40 := by omega
    have c2 : ¬ k + 1 ≤ 40 := by omega
    have c3 : ¬ k + 1 ≤ 100 := by omega
    have c4 : k + 1 ≤ 103 := by omega
    rw [if_neg c1, if_neg c2, if_neg c3, if_pos c4]
    split
    · omega
    · rw [if_pos (by omega)]; omega
theorem bdI_m {k : Nat} : bdI k ≤ bdI (k + 1) ∧ bdI k ≤ 43 := by
  unfold bdI
  by_cases c1 : k ≤ 40
  · rw [if_pos c1]
    split <;> (try split) <;> (try split) <;> omega
  · rw [if_neg c1, if_neg (by omega : ¬ k + 1 ≤ 40)]
    by_cases c2 : k ≤ 100
    · rw [if_pos c2]
      split <;> (try split) <;> omega
    · rw [if_neg c2, if_neg (by omega : ¬ k + 1 ≤ 100)]
      split <;> split <;> omega
theorem l_inIt {L0 : List PC} {lst k len x : Nat} {ixs : List Nat} {b3 b4 : Int} {go : Int × Int × Int × LZ → Option ((Int × LZ) × Nat × Nat)} {R : Int × LZ → Prop} (h0 : HP L0 P W) (hV : Val W) (hS : nS W ≤ 3) (hlst : nCell + L0.length ≤ lst) (hl : LtH L0 K W lst k len ixs) (hk : k < 110) (hi : itm W k = true) (ho : opn W k = true) (hx : gfI K x 11 4 = some (rdy W k)) (hK : K.length < 600000000)
    (hgo : ∀ K' ixs' len', LtH L0 K' W lst (k + 1) len' ixs' → (len' = len ∨ len' = len + 1) → K'.length = K.length + (gcn len' - gcn len) → Ok (go (b3, b4, ((k + 1 : Nat) : Int), (S, K'))) (5 - gcn len') (129 - gsn len') R) : Ok (inIt (pT P) lst go b3 b4 (k : Int) x S K) (5 - gcn len) (129 - gsn len) R := by
  obtain ⟨r, m, h1, h2, h3, h4, h5, h6⟩ := hl
  have b := hV.z
  have hP := h0.sf0 h6
  have bm := bdI_m (k := k)
  have g0 := gs_le len (by omega)
  have i1 : wr ((k : Int) + 1) = ((k + 1 : Nat) : Int) := wr_s (by omega) (by omega)
  unfold inIt
  rw [hx, bnO_s, hP.ti hV, bnO_s]
  by_cases c : tm W < rdy W k
  · have hlt : ltI W k = true := by unfold ltI; rw [hi, ho, decide_eq_true c]; rfl
    have bs := bdI_s hV hS hk hi
    have g1 := rm_s len (by omega)
    have g2 := gs_le (len + 1) (by omega)
    obtain ⟨pos, e1, p1, p2, p3⟩ := l_at (S := S) (a3 := b3) (a4 := b4) (a5 := (k : Int)) hP hV h4 h1 hk hx ixs.length FU (Nat.le_refl _) (FU_big (by omega)) (fun y hy => by rw [List.drop_length] at hy; cases hy)
    have hlm : (ixs.map bx).length = ixs.length := List.length_map _
    have h4' : LsH K lst r m (rmN (ixs.map bx).length) (ixs.map bx) := by rw [hlm]; exact h4
    have okb : ∀ j, j < 110 → okE K (Value.ref (bx j)) = true := fun j hj => okE_box (j := j + 128) (by omega)
    obtain ⟨K2, r2, m2, e3, f1, f2, f3, f4⟩ := k_insR (S := S) (x := bx k) (j := pos) h4' (okb k hk) (fun y hy => by
      obtain ⟨j, hj, rfl⟩ := List.mem_map.mp hy
      exact okb j (by have := (h1.1 j hj).1; omega)) (by rw [hlm]; omega) (by rw [hlm]; exact p1) (by omega)
    rw [hlm, h2] at e3 f1 f2
    have hsz := k_size (S := S) h4
    rw [hlm] at hsz
    rw [if_pos c, if_pos h4.k, hsz, bnO_s, show lo2_Law_items_181 (pT P) lst b3 b4 (k : Int) x S K FU (ixs.length : Int) = some (pos : Int) from e1, bnO_s, k_valueOf (by omega), bnO_s]
    refine Ok.ad (c := 0) (s := 0) (Nat.zero_le _) (Nat.zero_le _) ?_
    show Ok (if isK K lst 13 = true then (bnO (gn_AL_add3 lst (pos : Int) (Value.ref (bx k)) S K) fun p39 => adC p39.2.1 p39.2.2 (nm (wr ((k : Int) + 1)) fun v41 => go (b3, b4, v41, (p39.1.1, p39.1.2)))) else none) _ _ _
    rw [if_pos h4.k, e3, bnO_s]
    refine Ok.ad (c := gcn (len + 1) - gcn len) (s := gsn (len + 1) - gsn len) (by omega) (by omega) ?_
    show Ok (nm (wr ((k : Int) + 1)) fun v41 => go (b3, b4, v41, (S, K2))) _ _ _
    rw [nm_x, i1]
    have hln : (insN ixs pos k).length = len + 1 := by rw [insN_len p1, h2]
    have hr2 : r2 < XB → nCell + L0.length ≤ r2 := fun z => by
      rcases f3 with e | e
      · rw [e] at z ⊢; exact h5 z
      · rw [e]; have := h6.1; omega
    have s2 : Sf F0_ L0 K2 := ⟨by have := h6.1; omega, fun b' hb _ => by
      have hbx : b' < XB := by unfold nCell XB at *; have := h6.1; omega
      rw [f4 b' (by omega) (fun q => by
        by_cases z : r2 < XB
        · have := hr2 z; omega
        · omega)]
      exact h6.2 b' hb id⟩
    refine (hgo K2 (insN ixs pos k) (len + 1) ⟨r2, m2, srtI_ins h1 hlt hk p2 p3, hln, by omega, ?_, hr2, s2⟩ (.inr rfl) f2).mono (by omega) (by omega) (fun _ z => z)
    rw [hln, insN_map]
    exact f1
  · have hlt : ltI W k = false := by unfold ltI; rw [decide_eq_false c, Bool.false_and, Bool.and_false]
    rw [if_neg c, nm_x, i1]
    exact hgo K ixs len ⟨r, m, h1.skip hlt, h2, by omega, h4, h5, h6⟩ (.inl rfl) (by omega)
end Items2
