/-! TEXTS: what a chain of pieces costs -/
def psi (N cap : Nat) : Nat := if N ≤ cap then 0 else (N - cap) / 16 + 1
def phi (N cap : Nat) : Nat := if N ≤ cap then 0 else 4 * N - 2 * cap
theorem grow_pot {N cap need : Nat} (h1 : 16 ≤ cap) (h2 : need ≤ N) (h3 : cap ≤ 2 * N + 16) : gwC cap need + psi N (ncS cap need) ≤ psi N cap ∧ gwS cap need + phi N (ncS cap need) ≤ phi N cap ∧ 16 ≤ ncS cap need ∧ ncS cap need ≤ 2 * N + 16 := by
  unfold gwC gwS ncS psi phi
  by_cases c : need ≤ cap
  · rw [if_pos c, if_pos c, if_pos c]; omega
  · rw [if_neg c, if_neg c, if_neg c, if_neg (c := N ≤ cap) (by omega), if_neg (c := N ≤ cap) (by omega)]
    by_cases d : need - cap < cap + 2
    · rw [if_pos d]
      by_cases e : N ≤ 2 * cap + 2
      · rw [if_pos e, if_pos e]; omega
      · rw [if_neg e, if_neg e]; omega
    · rw [if_neg d]
      by_cases e : N ≤ need
      · rw [if_pos e, if_pos e]; omega
      · rw [if_neg e, if_neg e]; omega
/-- a text being made, what it may still cost -/
def SbN (N : Nat) (L0 : List PC) (M : Nat) (L : List PC) (a : Nat) (bs : List Int) (c s : Nat) : Prop := (N ≤ 1500 ∧ M ≤ 600000000 ∧ L.length + c ≤ M) ∧ ∃ r cap, SbH L a r cap bs ∧ (nCell + L0.length ≤ r ∧ nCell + L0.length ≤ a) ∧ Sf F0_ L0 L ∧ (16 ≤ cap ∧ cap ≤ 2 * N + 16) ∧ psi N cap ≤ c ∧ phi N cap ≤ s
section Chain
variable {S : St} {L L0 : List PC} {N M a x c s C T : Nat} {bs ts : List Int} {z : Int} {β : Type} {R : β → Prop}
theorem SbN.k (h : SbN N L0 M L a bs c s) : isK L a 15 = true := by
  obtain ⟨-, r, cap, h, -⟩ := h
  exact h.k
theorem SbN.sf (h : SbN N L0 M L a bs c s) : Sf F0_ L0 L := by
  obtain ⟨-, r, cap, -, -, h, -⟩ := h
  exact h
theorem ap_s (h : SbN N L0 M L a bs c s) (hx : StH L0 x ts) (hl : bs.length + ts.length ≤ N) {k : (Value × LZ) × Nat × Nat → Option (β × Nat × Nat)} (hk : ∀ L1 c1 s1 u v, SbN N L0 M L1 a (bs ++ ts) c1 s1 → Ok (k ((Value.ref a, (S, L1)), u, v)) (c1 + C) (s1 + T) R) :
    Ok (bnO (gn_SB_append a x S L) fun p => adC p.2.1 p.2.2 (k p)) (c + C) (s + T) R := by
  obtain ⟨⟨n1, n2, n3⟩, r, cap, h1, ⟨h2, h2'⟩, h3, ⟨h4, h5⟩, h6, h7⟩ := h
  obtain ⟨g1, g2, g3, g4⟩ := grow_pot h4 hl h5
  obtain ⟨L1, r1, e, y1, y2, y3, y4⟩ := k_sbApp (S := S) h1 hx (by omega) (by omega) (by omega) h3 h2' h2
  rw [e, bnO_s]
  refine Ok.ad (c := gwC cap (bs.length + ts.length)) (s := gwS cap (bs.length + ts.length)) (by omega) (by omega) ?_
  refine (hk L1 (c - gwC cap (bs.length + ts.length)) (s - gwS cap (bs.length + ts.length)) _ _ ⟨⟨n1, n2, by omega⟩, r1, _, y1, ⟨y4, h2'⟩, y2, ⟨g3, g4⟩, by omega, by omega⟩).mono (by omega) (by omega) (fun _ q => q)
theorem an_s (h : SbN N L0 M L a bs c s) (hz : 0 ≤ z ∧ z < 1000) (hl : bs.length + (dg z).length ≤ N) {k : (Value × LZ) × Nat × Nat → Option (β × Nat × Nat)} (hk : ∀ L1 c1 s1 u v, SbN N L0 M L1 a (bs ++ dg z) c1 s1 → Ok (k ((Value.ref a, (S, L1)), u, v)) (c1 + C) (s1 + T) R) :
    Ok (bnO (gn_SB_append2 a z S L) fun p => adC p.2.1 p.2.2 (k p)) (c + C) (s + T) R := by
  obtain ⟨⟨n1, n2, n3⟩, r, cap, h1, ⟨h2, h2'⟩, h3, ⟨h4, h5⟩, h6, h7⟩ := h
  obtain ⟨g1, g2, g3, g4⟩ := grow_pot h4 hl h5
  obtain ⟨L1, r1, e, y1, y2, y3, y4⟩ := k_sbApp2 (S := S) h1 hz (by omega) (by omega) (by omega) h3 h2' h2
  rw [e, bnO_s]
  refine Ok.ad (c := gwC cap (bs.length + (dg z).length)) (s := gwS cap (bs.length + (dg z).length)) (by omega) (by omega) ?_
  refine (hk L1 (c - gwC cap (bs.length + (dg z).length)) (s - gwS cap (bs.length + (dg z).length)) _ _ ⟨⟨n1, n2, by omega⟩, r1, _, y1, ⟨y4, h2'⟩, y2, ⟨g3, g4⟩, by omega, by omega⟩).mono (by omega) (by omega) (fun _ q => q)
/-- begun -/
theorem in_s (hN : N ≤ 1500) (hM : L.length + 2 + psi N 16 ≤ M) (hM' : M ≤ 600000000) {kk : Nat → (LZ) × Nat × Nat → Option (β × Nat × Nat)} (hk : ∀ L1 u v, SbN N L M L1 (nCell + L.length) [] (psi N 16) (phi N 16) → Ok (kk (nCell + L.length) ((S, L1), u, v)) (psi N 16 + C) (phi N 16 + T) R) :
    Ok (if L.length < 900000000 then adC 1 4 (nw L (15, dfl 15) fun r L3 => bnO (gn_SB_init r S L3) fun p => adC p.2.1 p.2.2 (kk r p)) else none) (2 + (psi N 16 + C)) (20 + (phi N 16 + T)) R := by
  obtain ⟨L1, e, h, l, sf⟩ := k_sbInit (S := S) (L := L) (by omega)
  rw [if_pos (by omega), nw_x, e, bnO_s]
  refine Ok.ad (c := 1) (s := 4) (by omega) (by omega) ?_
  refine Ok.ad (c := 1) (s := 16) (by omega) (by omega) ?_
  refine (hk L1 _ _ ⟨⟨hN, hM', by omega⟩, _, 16, h, ⟨by omega, Nat.le_refl _⟩, sf, ⟨Nat.le_refl _, by omega⟩, Nat.le_refl _, Nat.le_refl _⟩).mono (by omega) (by omega) (fun _ q => q)
/-- read out -/
theorem st_s (h : SbN N L0 M L a bs c s) (hl : bs.length ≤ N) {k : (Value × LZ) × Nat × Nat → Option (β × Nat × Nat)} (hk : ∀ t L1 u v, StH L1 t bs → nCell + L0.length ≤ t → Sf F0_ L0 L1 → L1.length ≤ M + 2 → Ok (k ((Value.ref t, (S, L1)), u, v)) C T R) :
    Ok (bnO (gn_SB_toString a S L) fun p => adC p.2.1 p.2.2 (k p)) (c + (2 + C)) (s + (4 + N + T)) R := by
  obtain ⟨⟨n1, n2, n3⟩, r, cap, h1, ⟨h2, h2'⟩, h3, ⟨h4, h5⟩, h6, h7⟩ := h
  obtain ⟨L1, e, y1, y2, y3⟩ := k_sbStr (S := S) h1 (by omega) (by omega) h3
  rw [e, bnO_s]
  refine Ok.ad (c := 2) (s := 4 + bs.length) (by omega) (by omega) ?_
  exact (hk _ L1 _ _ (y1 L1 Sf.refl) (by have := h3.1; omega) y2 (by omega)).mono (by omega) (by omega) (fun _ q => q)
theorem st_fr (h : SbN N L0 M L a bs c s) (hl : bs.length ≤ N) {k : (Value × LZ) × Nat × Nat → Option (β × Nat × Nat)} (hk : ∀ t L1 u v, (∀ K, Sf (fun b => b < nCell + L0.length) L1 K → StH K t bs) → nCell + L0.length ≤ t → Sf F0_ L0 L1 → L1.length ≤ M + 2 → Ok (k ((Value.ref t, (S, L1)), u, v)) C T R) :
    Ok (bnO (gn_SB_toString a S L) fun p => adC p.2.1 p.2.2 (k p)) (c + (2 + C)) (s + (4 + N + T)) R := by
  obtain ⟨⟨n1, n2, n3⟩, r, cap, h1, ⟨h2, h2'⟩, h3, ⟨h4, h5⟩, h6, h7⟩ := h
  obtain ⟨L1, e, y1, y2, y3⟩ := k_sbStr (S := S) h1 (by omega) (by omega) h3
  rw [e, bnO_s]
  refine Ok.ad (c := 2) (s := 4 + bs.length) (by omega) (by omega) ?_
  refine (hk _ L1 _ _ (fun K hK => ?_) (by have := h3.1; omega) y2 (by omega)).mono (by omega) (by omega) (fun _ q => q)
  have hle := h3.1
  exact y1 K (hK.mono (fun b hb => by show b < _; have hb : b < nCell + L0.length := hb; omega))
/-- a text made after it, behind it -/
theorem ap_f {L2 : List PC} (h : SbN N L0 M L2 a bs c s) (hx : ∀ K, Sf (fun b => b < nCell + L2.length) L K → StH K x ts) (hs : Sf F0_ L2 L) {M1 : Nat} (hM : M1 ≤ 600000000) (hM2 : L.length + c ≤ M1) (hl : bs.length + ts.length ≤ N) {k : (Value × LZ) × Nat × Nat → Option (β × Nat × Nat)} (hk : ∀ L1 c1 s1 u v, SbN N L0 M1 L1 a (bs ++ ts) c1 s1 → Ok (k ((Value.ref a, (S, L1)), u, v)) (c1 + C) (s1 + T) R) :
    Ok (bnO (gn_SB_append a x S L) fun p => adC p.2.1 p.2.2 (k p)) (c + C) (s + T) R := by
  obtain ⟨⟨n1, n2, n3⟩, r, cap, h1, ⟨h2, h2'⟩, h3, ⟨h4, h5⟩, h6, h7⟩ := h
  obtain ⟨g1, g2, g3, g4⟩ := grow_pot h4 hl h5
  have hle := hs.1
  have h1' : SbH L a r cap bs := by
    obtain ⟨h1, ⟨v2, h2⟩, f, h3, h4⟩ := h1
    exact ⟨h1, ⟨v2, hs.at0 h2⟩, f, h3.sf0 hs, h4⟩
  have ra : a < nCell + L2.length ∧ r < nCell + L2.length := by
    obtain ⟨-, ⟨v2, q⟩, f, y, -⟩ := h1
    exact ⟨hp_lt q, y.lt⟩
  obtain ⟨L1, r1, e, y1, y2, y3, y4⟩ := k_sbAppF (S := S) (F := fun b => (nCell + L0.length ≤ b ∧ b < nCell + L2.length)) h1' (L0 := L) (fun K hK => hx K (hK.mono (fun b hb => hb.2))) (by omega) (by omega) (by omega) Sf.refl (.inl ⟨h2', ra.1⟩) (.inl ⟨h2, ra.2⟩)
  have h0 := h3.1
  rw [e, bnO_s]
  refine Ok.ad (c := gwC cap (bs.length + ts.length)) (s := gwS cap (bs.length + ts.length)) (by omega) (by omega) ?_
  refine (hk L1 (c - gwC cap (bs.length + ts.length)) (s - gwS cap (bs.length + ts.length)) _ _ ⟨⟨n1, hM, by omega⟩, r1, _, y1, ⟨?_, h2'⟩, ?_, ⟨g3, g4⟩, by omega, by omega⟩).mono (by omega) (by omega) (fun _ q => q)
  · rcases y4 with q | q
    · exact q.1
    · omega
  · exact (h3.trans hs).tr0 y2 (fun b hb => hb.1)
end Chain
theorem nl_ : (8 < nLit ∧ 9 < nLit ∧ 10 < nLit ∧ 11 < nLit ∧ 12 < nLit ∧ 13 < nLit) ∧ (14 < nLit ∧ 15 < nLit ∧ 16 < nLit ∧ 17 < nLit ∧ 18 < nLit ∧ 19 < nLit) ∧ 20 < nLit ∧ 21 < nLit ∧ 22 < nLit ∧ 23 < nLit := by decide
theorem lB8 : litB 8 = [] := by decide
theorem lB9 : litB 9 = [32, 115] := by decide
theorem lB10 : litB 10 = [32, 97] := by decide
theorem lB11 : litB 11 = [32, 98] := by decide
theorem lB12 : litB 12 = [32, 43] := by decide
/-! the text of a page -/
def pre (xs : List Int) : List Int := match xs with
  | [] => []
  | x :: xs => 32 :: x :: xs
theorem itB_dg {l x : Int} {xs : List Int} (h : 0 ≤ x ∧ x < 100) : itB l x xs = (if xs.length = 0 then xs else xs ++ [32]) ++ [l] ++ dg x := by
  unfold itB dg
  by_cases c : x < 10
  · rw [if_pos c, if_pos c]
  · rw [if_neg c, if_neg c, if_pos h.2]
    simp only [List.append_assoc, List.cons_append, List.nil_append]
theorem pre_it {l x : Int} {xs : List Int} (h : 0 ≤ x ∧ x < 100) : pre xs ++ ([32, l] ++ dg x) = pre (itB l x xs) := by
  rw [itB_dg h]
  cases xs with
  | nil => rfl
  | cons y ys =>
    rw [if_neg (by show ¬ (ys.length + 1 = 0); omega)]
    show 32 :: (y :: ys ++ ([32, l] ++ dg x)) = 32 :: (y :: ys ++ [32] ++ [l] ++ dg x)
    simp only [List.append_assoc, List.cons_append, List.nil_append]
theorem pre_len {xs : List Int} : (pre xs).length ≤ xs.length + 1 := by
  cases xs with
  | nil => exact Nat.zero_le _
  | cons y ys => exact Nat.le_refl _
theorem pre_ne {xs : List Int} (h : xs ≠ []) : pre xs = 32 :: xs := by
  cases xs with
  | nil => exact absurd rfl h
  | cons y ys => rfl
theorem itB_ne {l x : Int} {xs : List Int} : itB l x xs ≠ [] := by
  unfold itB
  intro h
  have q := congrArg List.length h
  split at q
  · rw [List.length_append] at q
    exact absurd q (by show ¬ (_ + 1 = 0); omega)
  · rw [List.length_append] at q
    exact absurd q (by show ¬ (_ + 1 = 0); omega)
