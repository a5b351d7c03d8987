/-! CHANGES: a page cleared, two exchanged -/
section Chg5
variable {S : St} {L L0 : List PC} {P : PA} {W V0 : Vw} {n : Int} {hs : Int → Vw} {a p k : Int} {x : Nat}
theorem clF_bd (hV : Val W) (p : Int) : ∀ x, 0 ≤ x → x ≤ pgs W → 0 ≤ clF p x ∧ clF p x ≤ pgs W := fun x h0 h1 => by
  unfold clF
  split <;> omega
/-- ads taken off one after another -/
def oA_ (V : Vw) (ks : List Nat) : Vw := ks.foldl (fun V (k : Nat) => up V 6 k 0) V
def oB_ (V : Vw) (ks : List Nat) : Vw := ks.foldl (fun V (k : Nat) => up V 13 k 0) V
theorem oA_it {p : Int} : ∀ m : Nat, oA_ W (idxs (at_ W 6) p m) = mapP W (clF p) m 0
  | 0 => by
    show W = _
    exact mp_0.symm
  | m + 1 => by
    have ih := oA_it (p := p) m
    show oA_ W (idxs (at_ W 6) p m ++ _) = _
    unfold oA_
    rw [List.foldl_append]
    show List.foldl _ (oA_ W (idxs (at_ W 6) p m)) _ = _
    rw [ih]
    by_cases c : at_ W 6 m = p
    · rw [if_pos c]
      have q := mp_s6 (W := W) (f := clF p) (n := 0) (i := (m : Int)) (by omega)
      rw [show clF p (at_ W 6 m) = 0 from if_pos c, Int.toNat_natCast] at q
      exact q
    · rw [if_neg c]
      have q := mp_e6 (W := W) (f := clF p) (n := 0) (i := (m : Int)) (by omega) (if_neg c)
      exact q.symm
theorem oB_it {p M : Int} : ∀ m : Nat, oB_ (mapP W (clF p) M 0) (idxs (at_ W 13) p m) = mapP W (clF p) M m
  | 0 => rfl
  | m + 1 => by
    have ih := oB_it (p := p) (M := M) m
    show oB_ _ (idxs (at_ W 13) p m ++ _) = _
    unfold oB_
    rw [List.foldl_append]
    show List.foldl _ (oB_ _ (idxs (at_ W 13) p m)) _ = _
    rw [ih]
    by_cases c : at_ W 13 m = p
    · rw [if_pos c]
      have q := mp_s13 (W := W) (f := clF p) (m := M) (i := (m : Int)) (by omega)
      rw [show clF p (at_ W 13 m) = 0 from if_pos c, Int.toNat_natCast] at q
      exact q
    · rw [if_neg c]
      have q := mp_e13 (W := W) (f := clF p) (m := M) (i := (m : Int)) (by omega) (if_neg c)
      exact q.symm
theorem l_c710 {a9 a10 a11 m : Int} {it lst r cp : Nat} {ks : List Nat} (hk : ∀ k ∈ ks, (k : Int) < nA W ∧ k < 100) : ∀ (n N i : Nat) (U : Vw) (K : List PC), i + n = ks.length → n < N → HP K P U → nA U = nA W → ItH K it lst m i → LsH K lst r m cp (ks.map bx) → Sf (fpP P) L K → nCell + L.length ≤ it → nCell + L.length ≤ lst → (r < XB → nCell + L.length ≤ r) → (∀ b, fpP P b → b < XB → b < nCell + L.length) →
    ∃ K', lp (fun go q => lb2_Law_changes_710 (pT P) a9 a10 a11 it go q.1 q.2) N (S, K) = some ((S, K'), 0, 0) ∧ HP K' P (oA_ U (ks.drop i)) ∧ Sf (fpP P) L K' ∧ K'.length = K.length
  | 0, N + 1, i, U, K, hi, _, h, hn, hit, hl, hs, b1, b2, b3, b4 => by
    have lm : (ks.map bx).length = ks.length := List.length_map _
    have q := k_hasNext (S := S) hl hit ⟨by omega, by omega⟩
    rw [decide_eq_false (by omega)] at q
    refine ⟨K, ?_, by rw [List.drop_of_length_le (by omega)]; exact h, hs, rfl⟩
    rw [lp_succ]
    show lb2_Law_changes_710 (pT P) a9 a10 a11 it _ S K = _
    unfold lb2_Law_changes_710
    rw [if_pos hit.k, q, bnO_s, if_neg Bool.false_ne_true]
  | n + 1, N + 1, i, U, K, hi, hN, h, hn, hit, hl, hs, b1, b2, b3, b4 => by
    have lm : (ks.map bx).length = ks.length := List.length_map _
    have ll := hl.len
    have q := k_hasNext (S := S) hl hit ⟨by omega, by omega⟩
    rw [decide_eq_true (by omega)] at q
    obtain ⟨k, hk1⟩ : ∃ k, ks[i]? = some k := ⟨_, List.getElem?_eq_getElem (by omega)⟩
    have hkk := hk k (List.mem_of_getElem? hk1)
    have hxx : (ks.map bx)[((i : Int)).toNat]? = some (bx k) := by rw [Int.toNat_natCast, List.getElem?_map, hk1]; rfl
    have ed : ks.drop i = k :: ks.drop (i + 1) := by
      obtain ⟨p1, p2⟩ := List.getElem?_eq_some_iff.mp hk1
      rw [List.drop_eq_getElem_cons p1, p2]
    obtain ⟨K1, e1, w1⟩ := k_next (S := S) hl hit (by omega) hxx
    obtain ⟨l0, hl0, hlc⟩ := hit.hp_
    have itX := (hp_bd hl0).2.1
    have s1 : Sf (fpP P) L K1 := hs.w w1 (.inr b1)
    have h1 : HP K1 P U := h.sf (F := fun b => b = it) (Sf.refl.w w1 (.inl rfl)) (fun b hb e => by have e : b = it := e; have := b4 b hb (by omega); omega)
    have l1 : LsH K1 lst r m cp (ks.map bx) := hl.w1 hl0 ⟨by rw [hlc]; decide, by rw [hlc]; decide⟩ w1
    obtain ⟨kb, kv⟩ := k_box (S := S) (L := K1) (k := k) (by omega)
    have hka : 0 ≤ (k : Int) ∧ (k : Int) < nA U := by omega
    obtain ⟨y, hy, hg, hyc⟩ := h1.ad hka
    rw [Int.toNat_natCast] at hy hyc
    have yk := isK_s hyc (by decide)
    obtain ⟨K2, e2, w2⟩ := pf_s hyc (f := 5) (Nat.le_of_ble_eq_true rfl) (V 0)
    have h2 := h1.updA (f := 5) (by decide) hy w2
    have yb := b4 y (fp_A hy) (hp_bd hyc).2.1
    have s2 : Sf (fpP P) L K2 := s1.w w2 (.inl (fp_A hy))
    have l2 : LsH K2 lst r m cp (ks.map bx) := l1.w1 hyc ⟨by show 11 ≠ 13; decide, by show 11 ≠ 103; decide⟩ w2
    have i2 : ItH K2 it lst m ((i + 1 : Nat) : Int) := ⟨V (i : Int), by rw [w2.ne (by omega), w1.at]; rfl⟩
    obtain ⟨K', e3, h3, s3, l3⟩ := l_c710 (a9 := a9) (a10 := a10) (a11 := a11) hk n N (i + 1) (up U 6 k 0) K2 (by omega) (by omega) h2 (by rw [nA_up (by decide)]; exact hn) i2 l2 s2 b1 b2 b3 b4
    refine ⟨K', ?_, by rw [ed]; exact h3, s3, by rw [l3, w2.1, w1.1]⟩
    have hun : ∀ gg : LZ → Option ((LZ) × Nat × Nat), lb2_Law_changes_710 (pT P) a9 a10 a11 it gg S K = adC 0 0 (gg (S, K2)) := fun gg => by
      unfold lb2_Law_changes_710
      rw [if_pos hit.k, q, bnO_s, if_pos rfl, if_pos hit.k, e1, bnO_s]
      dsimp only
      rw [rfB_r, if_pos kb, if_pos kb, kv, bnO_s, h1.fA, bnO_s, rfB_r, if_pos h1.kA, hg, bnO_s, rfB_r, if_pos yk, e2, bnO_s]
    rw [lp_succ]
    show lb2_Law_changes_710 (pT P) a9 a10 a11 it _ S K = _
    rw [hun, e3]
    rfl
theorem l_c769 {a9 a10 a11 m : Int} {it lst r cp : Nat} {ks : List Nat} (hk : ∀ k ∈ ks, (k : Int) < nB W ∧ k < 100) : ∀ (n N i : Nat) (U : Vw) (K : List PC), i + n = ks.length → n < N → HP K P U → nB U = nB W → ItH K it lst m i → LsH K lst r m cp (ks.map bx) → Sf (fpP P) L K → nCell + L.length ≤ it → nCell + L.length ≤ lst → (r < XB → nCell + L.length ≤ r) → (∀ b, fpP P b → b < XB → b < nCell + L.length) →
    ∃ K', lp (fun go q => lb2_Law_changes_769 (pT P) a9 a10 a11 it go q.1 q.2) N (S, K) = some ((S, K'), 0, 0) ∧ HP K' P (oB_ U (ks.drop i)) ∧ Sf (fpP P) L K' ∧ K'.length = K.length
  | 0, N + 1, i, U, K, hi, _, h, hn, hit, hl, hs, b1, b2, b3, b4 => by
    have lm : (ks.map bx).length = ks.length := List.length_map _
    have q := k_hasNext (S := S) hl hit ⟨by omega, by omega⟩
    rw [decide_eq_false (by omega)] at q
    refine ⟨K, ?_, by rw [List.drop_of_length_le (by omega)]; exact h, hs, rfl⟩
    rw [lp_succ]
    show lb2_Law_changes_769 (pT P) a9 a10 a11 it _ S K = _
    unfold lb2_Law_changes_769
    rw [if_pos hit.k, q, bnO_s, if_neg Bool.false_ne_true]
  | n + 1, N + 1, i, U, K, hi, hN, h, hn, hit, hl, hs, b1, b2, b3, b4 => by
    have lm : (ks.map bx).length = ks.length := List.length_map _
    have ll := hl.len
    have q := k_hasNext (S := S) hl hit ⟨by omega, by omega⟩
    rw [decide_eq_true (by omega)] at q
    obtain ⟨k, hk1⟩ : ∃ k, ks[i]? = some k := ⟨_, List.getElem?_eq_getElem (by omega)⟩
    have hkk := hk k (List.mem_of_getElem? hk1)
    have hxx : (ks.map bx)[((i : Int)).toNat]? = some (bx k) := by rw [Int.toNat_natCast, List.getElem?_map, hk1]; rfl
    have ed : ks.drop i = k :: ks.drop (i + 1) := by
      obtain ⟨p1, p2⟩ := List.getElem?_eq_some_iff.mp hk1
      rw [List.drop_eq_getElem_cons p1, p2]
    obtain ⟨K1, e1, w1⟩ := k_next (S := S) hl hit (by omega) hxx
    obtain ⟨l0, hl0, hlc⟩ := hit.hp_
    have itX := (hp_bd hl0).2.1
    have s1 : Sf (fpP P) L K1 := hs.w w1 (.inr b1)
    have h1 : HP K1 P U := h.sf (F := fun b => b = it) (Sf.refl.w w1 (.inl rfl)) (fun b hb e => by have e : b = it := e; have := b4 b hb (by omega); omega)
    have l1 : LsH K1 lst r m cp (ks.map bx) := hl.w1 hl0 ⟨by rw [hlc]; decide, by rw [hlc]; decide⟩ w1
    obtain ⟨kb, kv⟩ := k_box (S := S) (L := K1) (k := k) (by omega)
    have hka : 0 ≤ (k : Int) ∧ (k : Int) < nB U := by omega
    obtain ⟨y, hy, hg, hyc⟩ := h1.sb hka
    rw [Int.toNat_natCast] at hy hyc
    have yk := isK_s hyc (by decide)
    obtain ⟨K2, e2, w2⟩ := pf_s hyc (f := 5) (Nat.le_of_ble_eq_true rfl) (V 0)
    have h2 := h1.updB hy w2
    have yb := b4 y (fp_B hy) (hp_bd hyc).2.1
    have s2 : Sf (fpP P) L K2 := s1.w w2 (.inl (fp_B hy))
    have l2 : LsH K2 lst r m cp (ks.map bx) := l1.w1 hyc ⟨by show 11 ≠ 13; decide, by show 11 ≠ 103; decide⟩ w2
    have i2 : ItH K2 it lst m ((i + 1 : Nat) : Int) := ⟨V (i : Int), by rw [w2.ne (by omega), w1.at]; rfl⟩
    obtain ⟨K', e3, h3, s3, l3⟩ := l_c769 (a9 := a9) (a10 := a10) (a11 := a11) hk n N (i + 1) (up U 13 k 0) K2 (by omega) (by omega) h2 (by rw [nB_up (by decide)]; exact hn) i2 l2 s2 b1 b2 b3 b4
    refine ⟨K', ?_, by rw [ed]; exact h3, s3, by rw [l3, w2.1, w1.1]⟩
    have hun : ∀ gg : LZ → Option ((LZ) × Nat × Nat), lb2_Law_changes_769 (pT P) a9 a10 a11 it gg S K = adC 0 0 (gg (S, K2)) := fun gg => by
      unfold lb2_Law_changes_769
      rw [if_pos hit.k, q, bnO_s, if_pos rfl, if_pos hit.k, e1, bnO_s]
      dsimp only
      rw [rfB_r, if_pos kb, if_pos kb, kv, bnO_s, h1.fB, bnO_s, rfB_r, if_pos h1.kB, hg, bnO_s, rfB_r, if_pos yk, e2, bnO_s]
    rw [lp_succ]
    show lb2_Law_changes_769 (pT P) a9 a10 a11 it _ S K = _
    rw [hun, e3]
    rfl
end Chg5
