/-! STATEMENTS: what a plan's text says, what it makes, how it is written -/
abbrev Stm : Type := Nat × Int × Int × Int × Int × Int × Int
def sCo (f : Int) : Stm := (0, f, 0, 0, 0, 0, 0)
def sAd (s y c d p r : Int) : Stm := (1, s, y, c, d, p, r)
def sSt (s c d r : Int) : Stm := (2, s, c, d, r, 0, 0)
def sSb (s : Int) : Stm := (3, s, 0, 0, 0, 0, 0)
def sCl (f z : Int) : Stm := (4, f, z, 0, 0, 0, 0)
def sPu (a p : Int) : Stm := (5, a, p, 0, 0, 0, 0)
def fAd (s y c d p r : Int) : Nat → Int := fun k => if k = 0 then s else if k = 1 then y else if k = 2 then c else if k = 3 then d else if k = 4 then p else if k = 5 then r else 0
def fSt (s c d r : Int) : Nat → Int := fun k => if k = 7 then s else if k = 8 then c else if k = 9 then d else if k = 10 then r else 0
def fSb (s : Int) : Nat → Int := fun k => if k = 12 then s else 0
def apS (U : Vw) (s : Stm) : Vw := match s.1 with
  | 0 => up U 14 s.2.1.toNat 1
  | 1 => nwA U (fAd s.2.1 s.2.2.1 s.2.2.2.1 s.2.2.2.2.1 s.2.2.2.2.2.1 s.2.2.2.2.2.2)
  | 2 => nwS U (fSt s.2.1 s.2.2.1 s.2.2.2.1 s.2.2.2.2.1)
  | 3 => nwB U (fSb s.2.1)
  | 4 => up U 16 s.2.1.toNat s.2.2.1
  | 5 => up U 6 s.2.1.toNat s.2.2.1
  | _ => U
def txS (s : Stm) : List Int := match s.1 with
  | 0 => litB 16 ++ dg s.2.1 ++ litB 17
  | 1 => litB 18 ++ dg s.2.1 ++ litB 14 ++ dg s.2.2.1 ++ litB 14 ++ dg s.2.2.2.1 ++ litB 14 ++ dg s.2.2.2.2.1 ++ litB 14 ++ dg s.2.2.2.2.2.1 ++ litB 14 ++ dg s.2.2.2.2.2.2 ++ litB 15
  | 2 => litB 19 ++ dg s.2.1 ++ litB 14 ++ dg s.2.2.1 ++ litB 14 ++ dg s.2.2.2.1 ++ litB 14 ++ dg s.2.2.2.2.1 ++ litB 15
  | 3 => litB 20 ++ dg s.2.1 ++ litB 15
  | 4 => litB 21 ++ dg s.2.1 ++ litB 14 ++ dg s.2.2.1 ++ litB 15
  | 5 => litB 22 ++ dg s.2.1 ++ litB 14 ++ dg s.2.2.1 ++ litB 15
  | _ => []
def OkS (U : Vw) (s : Stm) : Prop := match s.1 with
  | 0 => 0 ≤ s.2.1 ∧ s.2.1 < frm U
  | 1 => nA U < 18 ∧ (s.2.1 = 1 ∨ s.2.1 = 2 ∨ s.2.1 = 4) ∧ (0 ≤ s.2.2.1 ∧ s.2.2.1 ≤ 4) ∧ (s.2.2.2.1 = 0 ∨ s.2.2.2.1 = 1) ∧ (0 ≤ s.2.2.2.2.1 ∧ s.2.2.2.2.1 ≤ 2) ∧ (1 ≤ s.2.2.2.2.2.1 ∧ s.2.2.2.2.2.1 ≤ 300) ∧ (0 ≤ s.2.2.2.2.2.2 ∧ s.2.2.2.2.2.2 ≤ 38)
  | 2 => nS U < 3 ∧ (1 ≤ s.2.1 ∧ s.2.1 ≤ 4) ∧ (s.2.2.1 = 0 ∨ s.2.2.1 = 1) ∧ (0 ≤ s.2.2.2.1 ∧ s.2.2.2.1 ≤ 2) ∧ (0 ≤ s.2.2.2.2.1 ∧ s.2.2.2.2.1 ≤ 24)
  | 3 => nB U < 5 ∧ (s.2.1 = 1 ∨ s.2.1 = 2 ∨ s.2.1 = 4)
  | 4 => (0 ≤ s.2.1 ∧ s.2.1 < frm U) ∧ (1 ≤ s.2.2.1 ∧ s.2.2.1 ≤ 30)
  | 5 => (0 ≤ s.2.1 ∧ s.2.1 < nA U) ∧ (1 ≤ s.2.2.1 ∧ s.2.2.1 ≤ pgs U) ∧ reas U s.2.1 s.2.2.1 = 0 ∧ at_ U 6 s.2.1 = 0
  | _ => False
def OkL : Vw → List Stm → Prop
  | _, [] => True
  | U, s :: ss => OkS U s ∧ OkL (apS U s) ss
def apL (U : Vw) (ss : List Stm) : Vw := ss.foldl apS U
def txL (ss : List Stm) : List Int := (ss.map txS).flatten
theorem apL_s {U : Vw} {ss : List Stm} {s : Stm} : apL U (ss ++ [s]) = apS (apL U ss) s := by
  unfold apL
  rw [List.foldl_append]; rfl
theorem txL_s {ss : List Stm} {s : Stm} : txL (ss ++ [s]) = txL ss ++ txS s := by
  unfold txL
  rw [List.map_append, List.flatten_append]
  show _ ++ (txS s ++ []) = _
  rw [List.append_nil]
theorem OkL_s {s : Stm} : ∀ {ss : List Stm} {U : Vw}, OkL U ss → OkS (apL U ss) s → OkL U (ss ++ [s])
  | [], _, _, h => ⟨h, trivial⟩
  | t :: ss, U, h, h2 => ⟨h.1, OkL_s (ss := ss) h.2 h2⟩
theorem GoodS {U : Vw} {s : Stm} (hG : Good U) (ht : tm U = 0) (h : OkS U s) : Good (apS U s) ∧ tm (apS U s) = 0 := by
  have b := hG.1.z
  obtain ⟨k, a1, a2, a3, a4, a5, a6⟩ := s
  match k, h with
  | 0, h => exact ⟨Good_color hG h (.inl rfl), (tm_up (by decide)).trans ht⟩
  | 1, h =>
    obtain ⟨h0, h1, h2, h3, h4, h5, h6⟩ := h
    dsimp only at h0 h1 h2 h3 h4 h5 h6
    exact ⟨Good_nwA hG (by omega) (F := fAd a1 a2 a3 a4 a5 a6) h1 (by show 0 ≤ a2 ∧ a2 ≤ 9; omega) h3 h4 (by show 1 ≤ a5 ∧ a5 ≤ 999; omega) (by show 0 ≤ a6 ∧ a6 ≤ 9999; omega) rfl, nwA_n.2.2.2.2.2.trans ht⟩
  | 2, h =>
    obtain ⟨h0, h1, h3, h4, h6⟩ := h
    dsimp only at h0 h1 h3 h4 h6
    exact ⟨Good_nwS hG (by omega) (F := fSt a1 a2 a3 a4) (by show 1 ≤ a1 ∧ a1 ≤ 8; omega) h3 h4 (by show 0 ≤ a4 ∧ a4 ≤ 9999; omega) rfl, nwS_n.2.2.2.2.2.trans ht⟩
  | 3, h => exact ⟨Good_nwB hG (by have := h.1; omega) (F := fSb a1) h.2 rfl, nwB_n.2.2.2.2.2.trans ht⟩
  | 4, h =>
    obtain ⟨h1, h2⟩ := h
    dsimp only at h1 h2
    exact ⟨Good_other (k := 16) (i := a1) (z := a2) hG h1.1 (.inr (.inr (.inr (.inr ⟨rfl, by omega, by rw [ht]; omega⟩)))), (tm_up (by decide)).trans ht⟩
  | 5, h => exact ⟨Good_put hG h.1 h.2.2.1, (tm_up (by decide)).trans ht⟩
  | n + 6, h => exact h.elim
theorem GoodL : ∀ {ss : List Stm} {U : Vw}, Good U → tm U = 0 → OkL U ss → Good (apL U ss) ∧ tm (apL U ss) = 0
  | [], _, hG, ht, _ => ⟨hG, ht⟩
  | s :: ss, U, hG, ht, h => by
    obtain ⟨g1, t1⟩ := GoodS hG ht h.1
    exact GoodL (ss := ss) g1 t1 h.2
/-- no ad put; no ad from k on placed -/
def NP (ss : List Stm) : Prop := ∀ s ∈ ss, s.1 ≠ 5
def Z6 (U : Vw) (k : Int) : Prop := ∀ a, k ≤ a → a < nA U → at_ U 6 a = 0
theorem NP_nil : NP [] := fun _ h => absurd h List.not_mem_nil
theorem NP_c {s : Stm} {ss : List Stm} (h : s.1 ≠ 5) (hs : NP ss) : NP ([s] ++ ss) := fun x hx => by
  rcases List.mem_cons.mp hx with e | e
  · rw [e]; exact h
  · exact hs x e
theorem NP_app {a b : List Stm} (h1 : NP a) (h2 : NP b) : NP (a ++ b) := fun x hx => (List.mem_append.mp hx).elim (h1 x) (h2 x)
theorem Z6_s {U : Vw} {s : Stm} (hV : Val U) (h5 : s.1 ≠ 5) (h : Z6 U 0) : Z6 (apS U s) 0 := by
  obtain ⟨k, a1, a2, a3, a4, a5, a6⟩ := s
  match k, h5 with
  | 0, _ =>
    exact fun a q1 q2 => by
      have q2 : a < nA (up U 14 a1.toNat 1) := q2
      rw [nA_up (by decide)] at q2
      exact (at_upn (by decide)).trans (h a q1 q2)
  | 1, _ =>
    exact fun a q1 q2 => by
      have q2 : a < nA (nwA U (fAd a1 a2 a3 a4 a5 a6)) := q2
      rw [nwA_n.1] at q2
      show at_ (nwA U (fAd a1 a2 a3 a4 a5 a6)) 6 a = 0
      by_cases c : a = nA U
      · rw [c, nwA_w hV (by decide)]; rfl
      · rw [nwA_o hV q1 (fun _ => by omega) (by decide)]; exact h a q1 (by omega)
  | 2, _ =>
    exact fun a q1 q2 => by
      have q2 : a < nA (nwS U (fSt a1 a2 a3 a4)) := q2
      rw [nwS_n.1] at q2
      exact (nwS_o hV q1 (fun z _ => absurd z (by decide)) (by decide)).trans (h a q1 q2)
  | 3, _ =>
    exact fun a q1 q2 => by
      have q2 : a < nA (nwB U (fSb a1)) := q2
      rw [nwB_n.1] at q2
      exact (nwB_o hV q1 (fun z _ => absurd z (by decide)) (by decide)).trans (h a q1 q2)
  | 4, _ =>
    exact fun a q1 q2 => by
      have q2 : a < nA (up U 16 a1.toNat a2) := q2
      rw [nA_up (by decide)] at q2
      exact (at_upn (by decide)).trans (h a q1 q2)
  | 5, h5 => exact absurd rfl h5
  | n + 6, _ => exact h
theorem Z6_l : ∀ {ss : List Stm} {U : Vw}, Good U → tm U = 0 → OkL U ss → NP ss → Z6 U 0 → Z6 (apL U ss) 0
  | [], _, _, _, _, _, h => h
  | s :: ss, U, hG, ht, hk, hn, h => by
    obtain ⟨g1, t1⟩ := GoodS hG ht hk.1
    exact Z6_l (ss := ss) g1 t1 hk.2 (fun x hx => hn x (List.mem_cons_of_mem _ hx)) (Z6_s hG.1 (hn s List.mem_cons_self) h)
/-- slots of n texts made one behind the other, each longer by d at most -/
def plT (d : Nat) : Nat → Nat → Nat
  | 0, _ => 0
  | n + 1, m => 5 * m + 90 + plT d n (m + d)
theorem plT_mono {d : Nat} : ∀ {n m m' : Nat}, m ≤ m' → plT d n m ≤ plT d n m'
  | 0, _, _, _ => Nat.le_refl _
  | n + 1, m, m', h => by
    have := plT_mono (d := d) (n := n) (m := m + d) (m' := m' + d) (by omega)
    show 5 * m + 90 + _ ≤ 5 * m' + 90 + _
    omega
theorem plT_le {d n m : Nat} : plT d n m ≤ plT d (n + 1) m := by
  have := plT_mono (d := d) (n := n) (m := m) (m' := m + d) (by omega)
  show _ ≤ 5 * m + 90 + plT d n (m + d)
  omega
theorem plT_v : plT 9 8 10 + plT 18 18 82 + plT 15 3 406 + plT 10 5 451 + plT 11 3 501 + plT 10 9 534 ≤ 78600 := by decide
theorem litLen : (litB 13).length = 5 ∧ (litB 14).length = 1 ∧ (litB 15).length = 1 ∧ (litB 16).length = 6 ∧ (litB 17).length = 2 ∧ (litB 18).length = 3 ∧ (litB 19).length = 6 ∧ (litB 20).length = 8 ∧ (litB 21).length = 6 ∧ (litB 22).length = 4 ∧ (litB 23).length = 1 := by decide
theorem dg1 {z : Int} (h : z < 10) : (dg z).length = 1 := by rw [dg_len, if_pos h]
theorem dg2 {z : Int} (h : z < 100) : (dg z).length ≤ 2 := by
  rw [dg_len]
  by_cases c : z < 10
  · rw [if_pos c]; decide
  · rw [if_neg c, if_pos h]; exact Nat.le_refl _
theorem and_m (z : Int) : 0 ≤ i_and z 2147483647 ∧ i_and z 2147483647 < 2147483648 := by
  unfold i_and
  have e : (Int32.ofInt z &&& Int32.ofInt 2147483647).toBitVec.msb = false := by
    rw [Int32.toBitVec_and, BitVec.msb_and]
    have : (Int32.ofInt 2147483647).toBitVec.msb = false := by decide
    rw [this, Bool.and_false]
  have q := BitVec.toInt_eq_toNat_of_msb e
  have l := (Int32.ofInt z &&& Int32.ofInt 2147483647).toBitVec.isLt
  have r : (Int32.ofInt z &&& Int32.ofInt 2147483647).toInt = (Int32.ofInt z &&& Int32.ofInt 2147483647).toBitVec.toInt := rfl
  have b := Int32.toInt_lt (Int32.ofInt z &&& Int32.ofInt 2147483647)
  omega
/-! numbers drawn from the script -/
def pkv (sc : SC) (k : Int) : Int := match gn_Law_pick sc k ((fun _ _ => 0), (fun _ _ => 0), (fun _ _ => 0)) [] with
  | some z => z
  | none => 0
theorem pk_ok {sc : SC} (hsc : (nI sc.2).toInt = (sc.2 : Int)) {k : Int} (hk : 0 ≤ k ∧ k < 100000) (S : St) (L : List PC) : gn_Law_pick sc k S L = some (pkv sc k) ∧ 0 ≤ pkv sc k ∧ pkv sc k < 2147483648 := by
  have lt := Int32.toInt_lt (nI sc.2)
  have one : ∀ (S : St) (L : List PC), ∃ z, gn_Law_pick sc k S L = some z ∧ 0 ≤ z ∧ z < 2147483648 ∧ ∀ (S' : St) (L' : List PC), gn_Law_pick sc k S' L' = some z := fun S L => by
    unfold gn_Law_pick
    by_cases c : (nI sc.2).toInt = 0
    · rw [if_pos c]
      exact ⟨0, rfl, by decide, by decide, fun _ _ => rfl⟩
    · have hp : 0 < (nI sc.2).toInt := by omega
      have m := md_b hk.1 hp
      have hd : 0 ≤ k / (nI sc.2).toInt ∧ k / (nI sc.2).toInt ≤ k := ⟨Int.ediv_nonneg hk.1 (by omega), Int.ediv_le_self _ hk.1⟩
      rw [if_neg c, if_pos hp, nm_x, m.1, wr_s (z := k % (nI sc.2).toInt) (by omega) (by omega), if_pos ⟨m.2.1, by omega⟩, if_pos hp, nm_x]
      exact ⟨_, rfl, (and_m _).1, (and_m _).2, fun _ _ => rfl⟩
  obtain ⟨z, e, z0, z1, ea⟩ := one S L
  have ep : pkv sc k = z := by
    unfold pkv
    rw [ea]
  rw [ep]
  exact ⟨e, z0, z1⟩
