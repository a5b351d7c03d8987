/-! A PAGE: its text made and held -/
section Page4
variable {S : St} {L L0 : List PC} {P : PA} {W : Vw} {p : Int}
theorem LsH.old {a r cp : Nat} {m : Int} {xs : List Nat} (h : LsH L a r m cp xs) : a < nCell + L.length ∧ (r < XB → r < nCell + L.length) := by
  refine ⟨hp_lt h.2.1, fun hr => ?_⟩
  rcases h.2.2 with ⟨e, _⟩ | ⟨vs, e, _⟩
  · omega
  · exact hp_lt e
theorem foI_nil {l : Int} : ∀ (ks : List Nat) (xs : List Int), foI l xs ks = [] → xs = [] ∧ ks = []
  | [], xs, h => ⟨h, rfl⟩
  | k :: ks, xs, h => absurd (foI_nil ks (itB l (k : Int) xs) h).1 itB_ne
def ksA (W : Vw) (p : Int) : List Nat := idxs (at_ W 6) p (nA W).toNat
def ksB (W : Vw) (p : Int) : List Nat := idxs (at_ W 13) p (nB W).toNat
theorem dsX_fo : dsX W p = foI 98 (foI 97 (ds0 W p) (ksA W p)) (ksB W p) := by
  unfold dsX ksA ksB
  rw [foI_it, foI_it]
theorem ds_ne (hG : Good W) (hl : lf W p ≤ 0) : dsX W p ≠ [] := by
  intro h
  rw [dsX_fo] at h
  obtain ⟨h1, hB⟩ := foI_nil _ _ h
  obtain ⟨h0, hA⟩ := foI_nil _ _ h1
  have hs : stOn W p (-1) = -1 := by
    by_cases c : stOn W p (-1) = -1
    · exact c
    · exfalso
      unfold ds0 at h0
      rw [if_neg c] at h0
      exact itB_ne h0
  have nn : ∀ {k : Nat} {n : Nat}, idxs (at_ W k) p n = [] → ∀ i : Int, 0 ≤ i → i < n → at_ W k i ≠ p := fun {k n} e i i0 i1 q => by
    have : i.toNat ∈ idxs (at_ W k) p n := idxs_mem.mpr ⟨by omega, by rw [Int.toNat_of_nonneg i0]; exact q⟩
    rw [e] at this
    cases this
  have zA : sumA W (fun i => -szA W p (-1) i) = 0 := sumR_0 (fun i i0 i1 => by
    show -szA W p (-1) i = 0
    unfold szA
    rw [if_neg (fun q => nn hA i i0 (by omega) q.2)]; rfl)
  have zB : sumB W (fun i => -szB W p (-1) i) = 0 := sumR_0 (fun i i0 i1 => by
    show -szB W p (-1) i = 0
    unfold szB
    rw [if_neg (fun q => nn hB i i0 (by omega) q.2)]; rfl)
  have e : lf W p = 4 := by
    unfold lf lefO room
    rw [if_pos hs, zA, zB]
    decide
  omega
def cL (W : Vw) (p : Int) : Nat := if lf W p ≤ 0 then 0 else 1
theorem ks_cap (hG : Good W) (hp : 1 ≤ p ∧ p ≤ pgs W) : (if stOn W p (-1) = -1 then 0 else 1) + (ksA W p).length + (ksB W p).length + cL W p ≤ 4 := by
  have q := ds_cap hG hp
  have eA : ((ksA W p).length : Int) = cntK W 6 p (nA W).toNat := by
    unfold ksA cntK onK
    rw [idxs_len]
    exact sumR_congr (fun j _ _ => by
      by_cases c : at_ W 6 j = p
      · rw [if_pos c, if_pos (decide_eq_true c)]
      · rw [if_neg c, if_neg (by rw [decide_eq_true_eq]; exact c)])
  have eB : ((ksB W p).length : Int) = cntK W 13 p (nB W).toNat := by
    unfold ksB cntK onK
    rw [idxs_len]
    exact sumR_congr (fun j _ _ => by
      by_cases c : at_ W 13 j = p
      · rw [if_pos c, if_pos (decide_eq_true c)]
      · rw [if_neg c, if_neg (by rw [decide_eq_true_eq]; exact c)])
  unfold cL
  by_cases c1 : stOn W p (-1) = -1
  · rw [if_pos c1] at q ⊢
    by_cases c2 : lf W p ≤ 0
    · rw [if_pos c2] at q ⊢; omega
    · rw [if_neg c2] at q ⊢; omega
  · rw [if_neg c1] at q ⊢
    by_cases c2 : lf W p ≤ 0
    · rw [if_pos c2] at q ⊢; omega
    · rw [if_neg c2] at q ⊢; omega
theorem l_tail {go : Int × Int × LZ → Option (((Bool × LZ) ⊕ (Int × LZ)) × Nat × Nat)} {a2 : Int} {ra ra' rb rb' ca cb t C T : Nat} {ma mb : Int} {tv : Value} {R : (Bool × LZ) ⊕ (Int × LZ) → Prop} (h0 : HP L0 P W) (hs : Sf F0_ L0 L) (hG : Good W) (hT : PT S 5 W) (hp : 1 ≤ p ∧ p ≤ pgs W)
    (hA : LsH L ra ra' ma ca ((ksA W p).map bx)) (hB : LsH L rb rb' mb cb ((ksB W p).map bx)) (ht : StH L t (pre (ds0 W p))) (hv : tv = Value.ref t) (hL : L.length < 300000000)
    (hk : ∀ S' L1, PT S' 5 W → OfD S S' → Sf F0_ L0 L1 → L1.length ≤ L.length + 60 → Ok (go (a2, p + 1, (S', L1))) C T R) :
    Ok (if isK L ra 13 = true then (bnO (gn_AL_iterator ra S L) fun p223 => adC p223.2.1 p223.2.2 (rfB p223.1.1 fun r225 => bnO (lo2_Law_pages_250 (pT P) a2 p rb (lf W p) r225 FU (tv, (p223.1.2.1, p223.1.2.2))) fun p226 => adC p226.2.1 p226.2.2 (if isK p226.1.2.2 rb 13 = true then (bnO (gn_AL_iterator rb p226.1.2.1 p226.1.2.2) fun p227 => adC p227.2.1 p227.2.2 (rfB p227.1.1 fun r229 => bnO (lo2_Law_pages_312 (pT P) a2 p (lf W p) r229 FU (p226.1.1, (p227.1.2.1, p227.1.2.2))) fun p230 => adC p230.2.1 p230.2.2 (if p230.1.2.2.length < 900000000 then adC 1 4 (nw p230.1.2.2 (15, dfl 15) fun r232 L233 => bnO (gn_SB_init r232 p230.1.2.1 L233) fun p235 => adC p235.2.1 p235.2.2 (rfB p230.1.1 fun r236 => if isK p235.1.2 r232 15 = true then (bnO (gn_SB_append r232 r236 p235.1.1 p235.1.2) fun p237 => adC p237.2.1 p237.2.2 (if (lf W p) ≤ 0 then (jf2_Law_pages_409_4 (pT P) go a2 p (lf W p) (.ref (XB + 8)) p237.1.1 p237.1.2.1 p237.1.2.2) else (if p237.1.2.2.length < 900000000 then adC 1 4 (nw p237.1.2.2 (15, dfl 15) fun r240 L241 => bnO (gn_SB_init r240 p237.1.2.1 L241) fun p243 => adC p243.2.1 p243.2.2 (if isK p243.1.2 r240 15 = true then (bnO (gn_SB_append r240 (XB + 12) p243.1.1 p243.1.2) fun p244 => adC p244.2.1 p244.2.2 (rfB p244.1.1 fun r246 => if isK p244.1.2.2 r246 15 = true then (bnO (gn_SB_append2 r246 (lf W p) p244.1.2.1 p244.1.2.2) fun p247 => adC p247.2.1 p247.2.2 (rfB p247.1.1 fun r249 => if isK p247.1.2.2 r249 15 = true then (bnO (gn_SB_toString r249 p247.1.2.1 p247.1.2.2) fun p250 => adC p250.2.1 p250.2.2 (jf2_Law_pages_409_4 (pT P) go a2 p (lf W p) p250.1.1 p237.1.1 p250.1.2.1 p250.1.2.2)) else none)) else none)) else none)) else none))) else none)) else none))) else none))) else none) (8 + 5 * ((ksA W p).length + (ksB W p).length + cL W p) + C) (126 + 112 * ((ksA W p).length + (ksB W p).length + cL W p) + T) R := by
  subst hv
  have hV := hG.1
  have bz := hV.z
  have kc := ks_cap hG hp
  have dl := ds_len hG hp
  have hx0 : psi 24 16 = 1 := rfl
  have hx1 : phi 24 16 = 64 := rfl
  have lA : ∀ k ∈ ksA W p, k < 100 := fun k hk => by have := (idxs_mem.mp hk).1; omega
  have lB : ∀ k ∈ ksB W p, k < 100 := fun k hk => by have := (idxs_mem.mp hk).1; omega
  have lm : ((ksA W p).map bx).length = (ksA W p).length := List.length_map _
  have hle := hs.1
  obtain ⟨it1, K1, e1, n1⟩ := k_iter (S := S) hA (by omega)
  obtain ⟨oA1, oA2⟩ := hA.old
  obtain ⟨oB1, oB2⟩ := hB.old
  have hA1 := hA.sf n1.sf0 id (fun _ => id)
  have hB1 := hB.sf n1.sf0 id (fun _ => id)
  have it1e := n1.1
  have l1 := n1.2.1
  have d0 : (ds0 W p).length + 4 * (ksA W p).length ≤ 20 := by
    by_cases c : stOn W p (-1) = -1
    · rw [if_pos c] at kc
      have : ds0 W p = [] := if_pos c
      rw [this]
      show 0 + _ ≤ _
      omega
    · rw [if_neg c] at kc
      have : ds0 W p = itB 115 (stOn W p (-1)) [] := if_neg c
      have q := itB_len (l := 115) (x := stOn W p (-1)) (xs := [])
      rw [this]
      have : ([] : List Int).length = 0 := rfl
      omega
  have d1 := foI_len (l := 97) (ksA W p) (ds0 W p)
  have d2 : (foI 97 (ds0 W p) (ksA W p)).length + 4 * (ksB W p).length ≤ 20 := by
    by_cases c : stOn W p (-1) = -1
    · rw [if_pos c] at kc
      have e : ds0 W p = [] := if_pos c
      rw [e] at d1 ⊢
      have : ([] : List Int).length = 0 := rfl
      omega
    · rw [if_neg c] at kc
      have e : ds0 W p = itB 115 (stOn W p (-1)) [] := if_neg c
      have q := itB_len (l := 115) (x := stOn W p (-1)) (xs := [])
      rw [← e] at q
      have : ([] : List Int).length = 0 := rfl
      omega
  rw [if_pos hA.k, e1, bnO_s]
  refine Ok.ad (c := 1) (s := 4) (by omega) (by omega) ?_
  dsimp only
  rw [rfB_r]
  refine Ok.bind (C1 := 5 * (ksA W p).length) (T1 := 112 * (ksA W p).length) (l_pg250 (L0 := L) (S := S) (P := P) (p := p) (c5 := rb) (a2 := a2) (a6 := lf W p) lA (ksA W p).length FU 0 t (ds0 W p) K1 (by omega) (FU_big (by omega)) (ht.sf0 n1.sf0) d0 ⟨V (-1), n1.at⟩ hA1 n1.sf0 (by omega) (by omega)) (by omega) (by omega) ?_
  rintro v cc ss ⟨t2, K2, rfl, t2h, s2, s2', l2⟩
  rw [List.drop_zero] at t2h
  dsimp only
  have hB2 := hB1.sf s2' (fun q => by have q : rb = it1 := q; omega) (fun z q => by have q : rb' = it1 := q; have := oB2 z; omega)
  obtain ⟨it2, K3, e3, n3⟩ := k_iter (S := S) hB2 (by omega)
  have hB3 := hB2.sf n3.sf0 id (fun _ => id)
  have it2e := n3.1
  have l3 := n3.2.1
  have lmB : ((ksB W p).map bx).length = (ksB W p).length := List.length_map _
  rw [if_pos hB2.k, e3, bnO_s]
  refine Ok.ad (c := 1) (s := 4) (by omega) (by omega) ?_
  dsimp only
  rw [rfB_r]
  have le2 := s2.1
  refine Ok.bind (C1 := 5 * (ksB W p).length) (T1 := 112 * (ksB W p).length) (l_pg312 (L0 := L) (S := S) (P := P) (p := p) (a2 := a2) (a6 := lf W p) lB (ksB W p).length FU 0 t2 (foI 97 (ds0 W p) (ksA W p)) K3 (by omega) (FU_big (by omega)) (t2h.sf0 n3.sf0) d2 ⟨V (-1), n3.at⟩ hB3 (s2.n n3) (by omega) (by omega)) (by omega) (by omega) ?_
  rintro v cc ss ⟨t4, K4, rfl, t4h, s4, s4', l4⟩
  rw [List.drop_zero, ← dsX_fo] at t4h
  dsimp only
  have dX : (pre (dsX W p)).length ≤ 21 := by
    have q := foI_len (l := 98) (ksB W p) (foI 97 (ds0 W p) (ksA W p))
    rw [← dsX_fo] at q
    have := pre_len (xs := dsX W p)
    omega
  have h4 : HP K4 P W := (h0.sf0 hs).sf0 s4
  refine (in_s (N := 24) (M := K4.length + 3) (C := 5 * cL W p + 3 + C) (T := 112 * cL W p + 34 + T) (by decide) (by rw [hx0]; omega) (by omega) (fun L1 u v h1 => ?_)).mono (by omega) (by omega) (fun _ q => q)
  dsimp only
  rw [rfB_r, if_pos h1.k]
  refine (ap_s (C := 5 * cL W p + 3 + C) (T := 112 * cL W p + 34 + T) h1 t4h (by show 0 + _ ≤ _; omega) (fun L2 c2 s2b u v h2 => ?_)).mono (Nat.le_refl _) (Nat.le_refl _) (fun _ q => q)
  dsimp only
  rw [List.nil_append] at h2
  have f2 := h2.sf
  obtain ⟨⟨-, -, m2⟩, -⟩ := id h2
  by_cases c : lf W p ≤ 0
  · have eL : cL W p = 0 := if_pos c
    have eE : dsE W p = dsX W p := if_pos c
    have e32 : pre (dsX W p) = 32 :: dsE W p := by rw [eE]; exact pre_ne (ds_ne hG c)
    rw [if_pos c, eL]
    rw [e32] at h2 dX
    refine (l_409 (C := C) (T := T) (M := K4.length + 3) (c := c2) (s := s2b) (R := R) h4 hG hT hp h2.k (fun k C' T' hkk => ?_) (fun S' L1 y1 y2 y3 y4 => ?_)).mono (by omega) (by omega) (fun _ q => q)
    · refine ap_s h2 (st_lit nl_.1.1) (by rw [lB8]; exact Nat.le_trans dX (by decide)) (fun L3 c3 s3 u v h3 => ?_)
      rw [lB8, List.append_nil] at h3
      exact hkk L3 c3 s3 u v h3
    · exact hk S' L1 y1 y2 ((hs.trans s4).trans y3) (by omega)
  · have eL : cL W p = 1 := if_neg c
    have dx16 := dl.2.2.1.resolve_left c
    have dx17 := pre_len (xs := dsX W p)
    have lz := (ek_lf hG hp.1 hp.2)
    have eE : dsE W p = itB 43 (lf W p) (dsX W p) := if_neg c
    have e32 : pre (dsX W p) ++ ([32, 43] ++ dg (lf W p)) = 32 :: dsE W p := by rw [pre_it (by omega), eE]; exact pre_ne itB_ne
    have dg3 := dgl (z := lf W p)
    have dg4 : (([] : List Int) ++ [32, 43] ++ dg (lf W p)).length = 2 + (dg (lf W p)).length := List.length_append
    rw [if_neg c, eL]
    have lc : L2.length + c2 ≤ K4.length + 3 := m2
    refine (in_s (N := 24) (M := L2.length + 3) (C := 2 + (c2 + (3 + C))) (T := 28 + (s2b + (34 + T))) (by decide) (by rw [hx0]; omega) (by omega) (fun L3 u v h3 => ?_)).mono (by omega) (by omega) (fun _ q => q)
    dsimp only
    rw [if_pos h3.k]
    refine ap_s h3 (st_lit nl_.1.2.2.2.2.1) (by rw [lB12]; decide) (fun L4 c4 s4n u v h4b => ?_)
    dsimp only
    rw [rfB_r, if_pos h4b.k, lB12] at *
    refine an_s h4b (by omega) (by show 2 + _ ≤ _; omega) (fun L5 c5 s5n u v h5 => ?_)
    dsimp only
    rw [rfB_r, if_pos h5.k]
    refine (st_fr (C := c2 + (3 + C)) (T := s2b + (34 + T)) h5 (by omega) (fun t6 L6 u v y1 y2 y3 y4 => ?_)).mono (by omega) (by omega) (fun _ q => q)
    dsimp only
    have h26 : SbN 24 K4 (K4.length + 8) L6 (nCell + K4.length) (pre (dsX W p)) c2 s2b := h2.sf0 y3 (by omega) (by omega)
    refine (l_409 (C := C) (T := T) (M := K4.length + 8) (c := c2) (s := s2b) (R := R) h4 hG hT hp h26.k (fun k C' T' hkk => ?_) (fun S' L1 z1 z2 z3 z4 => ?_)).mono (by omega) (by omega) (fun _ q => q)
    · refine ap_f (M1 := K4.length + 8) h2 y1 y3 (by omega) (by omega) (by omega) (fun L7 c7 s7 u v h7 => ?_)
      have h7 : SbN 24 K4 (K4.length + 8) L7 (nCell + K4.length) (pre (dsX W p) ++ ([32, 43] ++ dg (lf W p))) c7 s7 := h7
      rw [e32] at h7
      exact hkk L7 c7 s7 u v h7
    · exact hk S' L1 z1 z2 ((hs.trans s4).trans z3) (by omega)
end Page4
