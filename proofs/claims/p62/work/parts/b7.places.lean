/-! PLACING THE FREE ADS: their order -/
def cmB (W : Vw) (x i : Nat) : Prop := at_ W 4 i < at_ W 4 x ∨ (at_ W 4 x = at_ W 4 i ∧ at_ W 0 i ≤ at_ W 0 x)
def SrtN (W : Vw) (xs : List Nat) (i : Nat) : Prop := (∀ x ∈ xs, x < i ∧ at_ W 6 x = 0) ∧ xs.Pairwise (fun x y : Nat => ahP W x y) ∧ ∀ x : Nat, x < i → at_ W 6 x = 0 → x ∈ xs
theorem srt_ins {W : Vw} {xs : List Nat} {i j : Nat} (h : SrtN W xs i) (h6 : at_ W 6 i = 0) (h1 : ∀ x ∈ xs.take j, cmB W x i) (h2 : ∀ y ys, xs.drop j = y :: ys → ¬ cmB W y i) : SrtN W (insN xs j i) (i + 1) := by
  obtain ⟨a, b, c⟩ := h
  have e : xs.take j ++ xs.drop j = xs := List.take_append_drop j xs
  rw [← e, List.pairwise_append] at b
  obtain ⟨b1, b2, b3⟩ := b
  have mt : ∀ x, x ∈ xs.take j → x ∈ xs := fun x hx => by rw [← e]; exact List.mem_append_left _ hx
  have md : ∀ x, x ∈ xs.drop j → x ∈ xs := fun x hx => by rw [← e]; exact List.mem_append_right _ hx
  have ai : ∀ x ∈ xs.take j, ahP W x i := fun x hx => by
    have q := h1 x hx
    have q2 := (a x (mt x hx)).1
    unfold cmB at q
    unfold ahP
    omega
  have id' : ∀ y ∈ xs.drop j, ahP W i y := by
    cases hd : xs.drop j with
    | nil => intro y hy; cases hy
    | cons y ys =>
      rw [hd, List.pairwise_cons] at b2
      have q := h2 y ys hd
      have f : ahP W i y := by
        unfold cmB at q
        unfold ahP
        omega
      intro z hz
      rcases List.mem_cons.mp hz with rfl | hz
      · exact f
      · exact ahP_tr f (b2.1 z hz)
  refine ⟨fun x hx => ?_, ?_, fun x hx h6x => ?_⟩
  · unfold insN at hx
    rw [List.mem_append, List.mem_cons] at hx
    rcases hx with hx | rfl | hx
    · have q := a x (mt x hx)
      exact ⟨by omega, q.2⟩
    · exact ⟨by omega, h6⟩
    · have q := a x (md x hx)
      exact ⟨by omega, q.2⟩
  · unfold insN
    rw [List.pairwise_append, List.pairwise_cons]
    exact ⟨b1, ⟨id', b2⟩, fun x hx y hy => by
      rcases List.mem_cons.mp hy with rfl | hy
      · exact ai x hx
      · exact b3 x hx y hy⟩
  · unfold insN
    rw [List.mem_append, List.mem_cons]
    by_cases c1 : x = i
    · exact .inr (.inl c1)
    · have q := c x (by omega) h6x
      rw [← e, List.mem_append] at q
      rcases q with q | q
      · exact .inl q
      · exact .inr (.inr q)
theorem srt_uniq {R : Nat → Nat → Prop} (hi : ∀ x, ¬ R x x) (ha : ∀ x y, R x y → R y x → False) : ∀ {l1 l2 : List Nat}, l1.Pairwise R → l2.Pairwise R → (∀ x, x ∈ l1 ↔ x ∈ l2) → l1 = l2
  | [], [], _, _, _ => rfl
  | [], b :: t2, _, _, h => absurd ((h b).mpr (List.mem_cons.mpr (.inl rfl))) (fun q => nomatch q)
  | a :: t1, [], _, _, h => absurd ((h a).mp (List.mem_cons.mpr (.inl rfl))) (fun q => nomatch q)
  | a :: t1, b :: t2, h1, h2, h => by
    rw [List.pairwise_cons] at h1 h2
    have e : a = b := by
      rcases List.mem_cons.mp ((h a).mp (List.mem_cons.mpr (.inl rfl))) with e | e
      · exact e
      · rcases List.mem_cons.mp ((h b).mpr (List.mem_cons.mpr (.inl rfl))) with e' | e'
        · exact e'.symm
        · exact (ha _ _ (h1.1 b e') (h2.1 a e)).elim
    subst e
    have ht : ∀ x, x ∈ t1 ↔ x ∈ t2 := fun x => by
      constructor
      · intro hx
        rcases List.mem_cons.mp ((h x).mp (List.mem_cons_of_mem _ hx)) with e | e
        · subst e; exact (hi _ (h1.1 _ hx)).elim
        · exact e
      · intro hx
        rcases List.mem_cons.mp ((h x).mpr (List.mem_cons_of_mem _ hx)) with e | e
        · subst e; exact (hi _ (h2.1 _ hx)).elim
        · exact e
    rw [srt_uniq hi ha h1.2 h2.2 ht]
theorem SrtN.uniq {W : Vw} {xs ys : List Nat} {i : Nat} (h : SrtN W xs i) (h' : SrtN W ys i) : xs = ys := srt_uniq (R := fun x y : Nat => ahP W x y) (fun x q => ahP_ne q rfl) (fun x y q q' => ahP_ne (ahP_tr q q') rfl) h.2.1 h'.2.1 (fun x => ⟨fun hx => h'.2.2 x (h.1 x hx).1 (h.1 x hx).2, fun hx => h.2.2 x (h'.1 x hx).1 (h'.1 x hx).2⟩)
/-- the class's order as a list -/
theorem lst_of {W : Vw} {w : Int → Int} {k : Int} (h : LstP W w k (frA W (nA W))) (hn : 0 ≤ nA W) : ∃ xs : List Nat, xs.length = k.toNat ∧ (∀ t : Nat, t < k.toNat → xs[t]? = some (w t).toNat) ∧ SrtN W xs (nA W).toNat := by
  obtain ⟨h1, h2, h3⟩ := h
  have c : ∀ t : Nat, t < k.toNat → (((w t).toNat : Nat) : Int) = w t ∧ w t < nA W ∧ at_ W 6 (w t) = 0 := fun t ht => by
    have q := h1 t (by omega) (by omega)
    have q2 := of_decide_eq_true q.2
    exact ⟨by omega, q.1.2, q2.2.2⟩
  refine ⟨(List.range k.toNat).map (fun (t : Nat) => (w (t : Int)).toNat), by rw [List.length_map, List.length_range], fun t ht => by rw [List.getElem?_map, List.getElem?_range ht]; rfl, fun x hx => ?_, ?_, fun x hx h6 => ?_⟩
  · obtain ⟨t, ht, rfl⟩ := List.mem_map.mp hx
    have q := c t (List.mem_range.mp ht)
    exact ⟨by omega, by rw [q.1]; exact q.2.2⟩
  · rw [List.pairwise_map]
    refine List.Pairwise.imp_of_mem ?_ List.pairwise_lt_range
    intro t t' ht ht' hlt
    have q := c t (List.mem_range.mp ht)
    have q' := c t' (List.mem_range.mp ht')
    rw [q.1, q'.1]
    have z := List.mem_range.mp ht'
    exact h2 t t' (by omega) (by omega) (by omega)
  · obtain ⟨t, ht, e⟩ := h3 (x : Int) (by omega) (by omega) (decide_eq_true ⟨by omega, by omega, h6⟩)
    refine List.mem_map.mpr ⟨t.toNat, List.mem_range.mpr (by omega), ?_⟩
    rw [show ((t.toNat : Nat) : Int) = t by omega, e]
    omega
section Places
variable {S : St} {L L' : List PC} {P : PA} {W : Vw}
def xAt (P : PA) (k : Nat) : Nat := (xA P).getD k 0
theorem xAt_s {k x : Nat} (h : (xA P)[k]? = some x) : xAt P k = x := by
  unfold xAt
  rw [List.getD_eq_getElem?_getD, h]; rfl
theorem l_pos (h : HP L P W) (hV : Val W) {lst r cp i x t : Nat} {m : Int} {ixs : List Nat} (hl : LsH L lst r m cp (ixs.map (xAt P))) (hix : ∀ k ∈ ixs, (k : Int) < nA W) (hi : (i : Int) < nA W) (hx : (xA P)[i]? = some x) : ∀ (n N j : Nat), j + n = ixs.length → n < N → (∀ k ∈ ixs.take j, cmB W k i) →
    ∃ pos : Nat, lp (fun go z => lb2_Law_places_48 (pT P) lst t x S L go z) N (j : Int) = some (pos : Int) ∧ pos ≤ ixs.length ∧ (∀ k ∈ ixs.take pos, cmB W k i) ∧ ∀ y ys, ixs.drop pos = y :: ys → ¬ cmB W y i := by
  have hlm : (ixs.map (xAt P)).length = ixs.length := List.length_map _
  have hln := hl.len
  have hA : ((xA P).length : Int) = nA W := h.2.1.1
  obtain ⟨-, g0, -, -, g3, -, -, -⟩ := ad_f hV (i := (i : Int)) ⟨by omega, hi⟩ (h.1.2.2.1 _ _ hx)
  intro n
  induction n with
  | zero =>
    intro N j hj hN ht
    obtain ⟨N, rfl⟩ : ∃ M, N = M + 1 := ⟨N - 1, by omega⟩
    refine ⟨j, ?_, by omega, ht, fun y ys e => ?_⟩
    · rw [lp_succ]
      show lb2_Law_places_48 (pT P) lst t x S L _ (j : Int) = _
      unfold lb2_Law_places_48
      rw [if_pos hl.k, k_size hl, bnO_s, if_pos (by omega)]
    · have q := congrArg List.length e
      rw [List.length_drop, List.length_cons] at q
      omega
  | succ n ih =>
    intro N j hj hN ht
    obtain ⟨N, rfl⟩ : ∃ M, N = M + 1 := ⟨N - 1, by omega⟩
    obtain ⟨k, hk⟩ : ∃ k, ixs[j]? = some k := ⟨_, List.getElem?_eq_getElem (by omega)⟩
    have hkA := hix k (List.mem_of_getElem? hk)
    obtain ⟨y, hy⟩ : ∃ y, (xA P)[k]? = some y := ⟨_, List.getElem?_eq_getElem (by omega)⟩
    have hyc := h.1.2.2.1 _ _ hy
    obtain ⟨kk, f0, -, -, f3, -, -, -⟩ := ad_f hV (i := (k : Int)) ⟨by omega, hkA⟩ hyc
    have hmj : (ixs.map (xAt P))[((j : Int)).toNat]? = some y := by
      rw [Int.toNat_natCast, List.getElem?_map, hk]
      exact congrArg some (xAt_s hy)
    have hg := k_get (S := S) hl (i := (j : Int)) (by omega) hmj
    have i1 : wr ((j : Int) + 1) = (j : Int) + 1 := wr_s (by omega) (by omega)
    have hun : ∀ gg, lb2_Law_places_48 (pT P) lst t x S L gg (j : Int) = if at_ W 4 i < at_ W 4 k then gg ((j : Int) + 1) else if at_ W 4 k = at_ W 4 i then (if at_ W 0 k < at_ W 0 i then some (j : Int) else gg ((j : Int) + 1)) else some (j : Int) := fun gg => by
      unfold lb2_Law_places_48
      rw [if_pos hl.k, k_size hl, bnO_s, if_neg (by omega)]
      simp only [hl.k, eq_self, if_true, hg, bnO_s, rfB_r, kk, f3, f0, g3, g0, nm_x, i1]
    rw [lp_succ]
    have hun' : ∀ o, lb2_Law_places_48 (pT P) lst t x S L (lp (fun go z => lb2_Law_places_48 (pT P) lst t x S L go z) N) (j : Int) = o → (fun go z => lb2_Law_places_48 (pT P) lst t x S L go z) (lp (fun go z => lb2_Law_places_48 (pT P) lst t x S L go z) N) (j : Int) = o := fun o q => q
    have go : cmB W k i → ∃ pos : Nat, lp (fun go z => lb2_Law_places_48 (pT P) lst t x S L go z) N ((j : Int) + 1) = some (pos : Int) ∧ pos ≤ ixs.length ∧ (∀ k ∈ ixs.take pos, cmB W k i) ∧ ∀ y ys, ixs.drop pos = y :: ys → ¬ cmB W y i := fun hc => by
      have q := ih N (j + 1) (by omega) (by omega) (fun z hz => by
        rw [List.take_add_one, hk, List.mem_append] at hz
        rcases hz with hz | hz
        · exact ht z hz
        · have hz' : z ∈ [k] := hz
          rw [List.mem_singleton] at hz'
          rw [hz']; exact hc)
      exact q
    have stop : ¬ cmB W k i → ∃ pos : Nat, some (j : Int) = some (pos : Int) ∧ pos ≤ ixs.length ∧ (∀ k ∈ ixs.take pos, cmB W k i) ∧ ∀ y ys, ixs.drop pos = y :: ys → ¬ cmB W y i := fun hc => ⟨j, rfl, by omega, ht, fun y ys e => by
      have q : (ixs.drop j)[0]? = ixs[j + 0]? := List.getElem?_drop
      rw [e, Nat.add_zero, hk] at q
      have q' : y = k := Option.some.inj q
      rw [q']; exact hc⟩
    by_cases c1 : at_ W 4 i < at_ W 4 k
    · obtain ⟨pos, e, q⟩ := go (.inl c1)
      exact ⟨pos, hun' _ (by rw [hun, if_pos c1]; exact e), q⟩
    · by_cases c2 : at_ W 4 k = at_ W 4 i
      · by_cases c3 : at_ W 0 k < at_ W 0 i
        · obtain ⟨pos, e, q⟩ := stop (fun z => by unfold cmB at z; omega)
          exact ⟨pos, hun' _ (by rw [hun, if_neg c1, if_pos c2, if_pos c3]; exact e), q⟩
        · obtain ⟨pos, e, q⟩ := go (.inr ⟨c2, by omega⟩)
          exact ⟨pos, hun' _ (by rw [hun, if_neg c1, if_pos c2, if_neg c3]; exact e), q⟩
      · obtain ⟨pos, e, q⟩ := stop (fun z => by unfold cmB at z; omega)
        exact ⟨pos, hun' _ (by rw [hun, if_neg c1, if_neg c2]; exact e), q⟩
end Places
