/-! describe -/
section Descr
def itB (l x : Int) (xs : List Int) : List Int := if x < 10 then (if xs.length = 0 then xs else xs ++ [32]) ++ [l] ++ [48 + x % 10] else (if xs.length = 0 then xs else xs ++ [32]) ++ [l] ++ [48 + x / 10] ++ [48 + x % 10]
theorem itB_len {l x : Int} {xs : List Int} : (itB l x xs).length ≤ xs.length + 4 := by
  unfold itB
  split <;> split <;> simp <;> omega
def DC (S : St) (xs : List Int) : Prop := g S 3 1 = xs.length ∧ ∀ j : Nat, j < xs.length → g S 4 j = xs.getD j 0
def DM (T : St) (xs : List Int) : Prop := g T 514 12 = xs.length ∧ ∀ j : Nat, j < xs.length → g T 522 j = xs.getD j 0
def RD (T T' : St) : Prop := (∀ x f, x ≠ 514 → x ≠ 522 → g T' x f = g T x f) ∧ (∀ f, f ≠ 12 → g T' 514 f = g T 514 f) ∧ Off T T' 514 523
theorem RD.refl {T : St} : RD T T := ⟨fun _ _ _ _ => rfl, fun _ _ => rfl, Off.refl⟩
theorem RD.trans {T T' T'' : St} (h : RD T T') (h' : RD T' T'') : RD T T'' := ⟨fun x f h1 h2 => (h'.1 x f h1 h2).trans (h.1 x f h1 h2), fun f h1 => (h'.2.1 f h1).trans (h.2.1 f h1), h.2.2.trans h'.2.2⟩
theorem gd1 {xs : List Int} {b : Int} {j : Nat} (h : j < xs.length) : (xs ++ [b]).getD j 0 = xs.getD j 0 := by
  rw [List.getD_eq_getElem?_getD, List.getD_eq_getElem?_getD, List.getElem?_append_left h]
theorem gd2 {xs : List Int} {b : Int} : (xs ++ [b]).getD xs.length 0 = b := by
  rw [List.getD_eq_getElem?_getD, List.getElem?_append_right (Nat.le_refl _), Nat.sub_self]; rfl
theorem and_all : ∀ b : Nat, b < 256 → i_and (b : Int) 255 = (b : Int) := by decide +kernel
theorem and_b {b : Int} (h : 0 ≤ b ∧ b < 256) : i_and b 255 = b := by
  have q := and_all b.toNat (by omega)
  rw [show ((b.toNat : Nat) : Int) = b by omega] at q
  exact q
theorem ln4 : ln 4 = 20 := by decide
variable {S T : St} {xs : List Int} {b l x : Int}
theorem dc_add (h : DC S xs) (hl : xs.length < 20) (hb : 0 ≤ b ∧ b < 256) : ∃ S', fn_Bytes_addByte 3 b S = some S' ∧ Off S S' 3 5 ∧ DC S' (xs ++ [b]) := by
  refine ⟨u (u S 4 xs.length b) 3 1 ((xs.length : Int) + 1), ?_, (Off.wt (by omega) (by omega)).tu (by omega) (by omega), ?_, fun j hj => ?_⟩
  · unfold fn_Bytes_addByte
    rw [show tgt 3 0 = 4 from rfl, ln4, h.1, if_neg (by omega), if_neg (by omega), if_pos (by omega), nm_x, nm_x, g_ne (by omega), h.1, and_b hb, show ((xs.length : Int)).toNat = xs.length by omega]
  · rw [g_eq, wr_s (by omega) (by omega), List.length_append]
    show (xs.length : Int) + 1 = ((xs.length + 1 : Nat) : Int)
    omega
  · rw [List.length_append] at hj
    have hj' : j < xs.length + 1 := hj
    rw [g_ne (by omega)]
    by_cases e : j = xs.length
    · rw [e, g_eq, gd2, wr_s (by omega) (by omega)]
    · rw [g_ne (by omega), gd1 (by omega)]
      exact h.2 j (by omega)
theorem ap_len {xs : List Int} {b : Int} : (xs ++ [b]).length = xs.length + 1 := by rw [List.length_append]; rfl
theorem dc_item (h : DC S xs) (hl : xs.length + 4 ≤ 20) (hl2 : 0 ≤ l ∧ l < 256) (hx : 0 ≤ x ∧ x < 100) : ∃ S', fn_Bytes_addItem 3 l x S = some S' ∧ Off S S' 3 5 ∧ DC S' (itB l x xs) := by
  have m1 : wr (48 + (x.tmod 10)) = 48 + x % 10 := by rw [tm_n hx.1, wr_s (by omega) (by omega)]
  have m2 : wr (48 + (x.tdiv 10)) = 48 + x / 10 := by rw [td_n hx.1, wr_s (by omega) (by omega)]
  have rest : ∀ (S1 : St) (ys : List Int), DC S1 ys → ys.length + 3 ≤ 20 → ∃ S', (bnO (fn_Bytes_addByte 3 l S1) fun p1 => if x < 10 then (nm (wr (48 + (x.tmod 10))) fun v2 => bnO (fn_Bytes_addByte 3 v2 p1) fun p3 => some p3) else (nm (wr (48 + (x.tdiv 10))) fun v4 => bnO (fn_Bytes_addByte 3 v4 p1) fun p5 => nm (wr (48 + (x.tmod 10))) fun v6 => bnO (fn_Bytes_addByte 3 v6 p5) fun p7 => some p7)) = some S' ∧ Off S1 S' 3 5 ∧ DC S' (if x < 10 then ys ++ [l] ++ [48 + x % 10] else ys ++ [l] ++ [48 + x / 10] ++ [48 + x % 10]) := by
    intro S1 ys h1 hy
    obtain ⟨S2, e2, o2, d2⟩ := dc_add h1 (by omega) hl2
    have n2 := ap_len (xs := ys) (b := l)
    rw [e2, bnO_s, m1, m2]
    by_cases c : x < 10
    · obtain ⟨S3, e3, o3, d3⟩ := dc_add (b := 48 + x % 10) d2 (by omega) ⟨by omega, by omega⟩
      rw [if_pos c, if_pos c, nm_x, e3, bnO_s]
      exact ⟨S3, rfl, o2.trans o3, d3⟩
    · obtain ⟨S3, e3, o3, d3⟩ := dc_add (b := 48 + x / 10) d2 (by omega) ⟨by omega, by omega⟩
      have n3 := ap_len (xs := ys ++ [l]) (b := 48 + x / 10)
      obtain ⟨S4, e4, o4, d4⟩ := dc_add (b := 48 + x % 10) d3 (by omega) ⟨by omega, by omega⟩
      rw [if_neg c, if_neg c, nm_x, e3, bnO_s, nm_x, e4, bnO_s]
      exact ⟨S4, rfl, (o2.trans o3).trans o4, d4⟩
  unfold fn_Bytes_addItem itB
  rw [h.1]
  by_cases c : xs.length = 0
  · rw [if_pos (by omega), if_pos c]
    exact rest S xs h (by omega)
  · obtain ⟨S1, e1, o1, d1⟩ := dc_add (b := 32) h (by omega) ⟨by decide, by decide⟩
    have n1 := ap_len (xs := xs) (b := 32)
    rw [if_neg (by omega), e1, bnO_s, if_neg c]
    obtain ⟨S', e, o, d⟩ := rest S1 (xs ++ [32]) d1 (by omega)
    exact ⟨S', e, o1.trans o, d⟩
end Descr

