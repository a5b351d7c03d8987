/-! A PAGE'S TEXT -/
section PageT
variable {S : St} {K L0 : List PC} {t j : Nat} {xs : List Int} {l z : Int} {β : Type} {C T : Nat} {R : β → Prop}
theorem dgl {z : Int} : (dg z).length ≤ 3 := dg_le.2
theorem pg_it {c8 : Value} (ht : StH K t (pre xs)) (h8 : c8 = Value.ref t) (hj : j < nLit) (hl : litB j = [32, l]) (hz : 0 ≤ z ∧ z < 100) (hx : xs.length ≤ 16) (hK : K.length < 500000000) {go : Value × LZ → Option (β × Nat × Nat)}
    (hk : ∀ t' K', StH K' t' (pre (itB l z xs)) → nCell + K.length ≤ t' → Sf F0_ K K' → K'.length ≤ K.length + 5 → Ok (go (Value.ref t', (S, K'))) C T R) :
    Ok (if K.length < 900000000 then adC 1 4 (nw K (15, dfl 15) fun r100 L101 => bnO (gn_SB_init r100 S L101) fun p103 => adC p103.2.1 p103.2.2 (rfB c8 fun r104 => if isK p103.1.2 r100 15 = true then (bnO (gn_SB_append r100 r104 p103.1.1 p103.1.2) fun p105 => adC p105.2.1 p105.2.2 (rfB p105.1.1 fun r107 => if isK p105.1.2.2 r107 15 = true then (bnO (gn_SB_append r107 (XB + j) p105.1.2.1 p105.1.2.2) fun p108 => adC p108.2.1 p108.2.2 (rfB p108.1.1 fun r110 => if isK p108.1.2.2 r110 15 = true then (bnO (gn_SB_append2 r110 z p108.1.2.1 p108.1.2.2) fun p111 => adC p111.2.1 p111.2.2 (rfB p111.1.1 fun r113 => if isK p111.1.2.2 r113 15 = true then (bnO (gn_SB_toString r113 p111.1.2.1 p111.1.2.2) fun p114 => adC p114.2.1 p114.2.2 (go (p114.1.1, (p114.1.2.1, p114.1.2.2)))) else none)) else none)) else none)) else none)) else none) (2 + (1 + (0 + (2 + C)))) (20 + (64 + (0 + (4 + 24 + T)))) R := by
  subst h8
  have hd := dgl (z := z)
  have hp := pre_len (xs := xs)
  have e2 : ([32, l] : List Int).length = 2 := rfl
  refine in_s (N := 24) (M := K.length + 3) (C := 0 + (2 + C)) (T := 0 + (4 + 24 + T)) (by decide) (by show K.length + 2 + 1 ≤ _; omega) (by omega) (fun L1 u v h1 => ?_)
  dsimp only
  rw [rfB_r, if_pos h1.k]
  refine ap_s (C := 0 + (2 + C)) (T := 0 + (4 + 24 + T)) h1 ht (by show 0 + _ ≤ _; omega) (fun L2 c2 s2 u v h2 => ?_)
  dsimp only
  rw [rfB_r, if_pos h2.k, List.nil_append] at *
  refine ap_s (C := 0 + (2 + C)) (T := 0 + (4 + 24 + T)) h2 (st_lit hj) (by rw [hl, e2]; omega) (fun L3 c3 s3 u v h3 => ?_)
  dsimp only
  rw [rfB_r, if_pos h3.k, hl] at *
  have e3 : (pre xs ++ [32, l]).length = (pre xs).length + 2 := List.length_append
  refine an_s (C := 0 + (2 + C)) (T := 0 + (4 + 24 + T)) h3 ⟨hz.1, by omega⟩ (by rw [e3]; omega) (fun L4 c4 s4 u v h4 => ?_)
  dsimp only
  rw [rfB_r, if_pos h4.k]
  have e4 : (pre xs ++ [32, l] ++ dg z).length ≤ 24 := by rw [List.length_append, e3]; omega
  rw [List.append_assoc, pre_it hz] at h4 e4
  refine (st_s (C := C) (T := T) h4 e4 (fun t' L5 u v y1 y2 y3 y4 => ?_)).mono (by omega) (by omega) (fun _ q => q)
  exact hk t' L5 y1 y2 y3 (by omega)
end PageT
