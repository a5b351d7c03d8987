/-! THE LAW'S LOOP: what holds before each step; the questions behind it -/
section Aft
variable {sc : SC} {S : St} {L : List PC} {t c3 : Nat} {T : Int} {M : Nat} {a4 a6 a7 : Int} {C0 T0 : Nat} {R : (Bool × LZ) ⊕ LZ → Prop} {go : Value × Int × LZ → Option (((Bool × LZ) ⊕ (LZ)) × Nat × Nat)}
def Iv (T : Int) (M : Nat) (S : St) (L : List PC) (t c3 : Nat) : Prop := ∃ (P : PA) (W : Vw) (n : Int) (hs : Int → Vw) (H : List (PA × Vw)), (pT P = t ∧ HP L P W ∧ QV T W) ∧ (PT S 5 W ∧ HCl S n hs ∧ 0 ≤ g S 1 1) ∧ (HHs n hs H ∧ (∀ e ∈ H, QV T e.2) ∧ HsO L P c3 H) ∧ L.length ≤ M
def qC (a : Int) : Nat := if a % 7 = 6 then 38939 else 0
def qT (a : Int) : Nat := if a % 7 = 6 then 271192 else 0
theorem l_after (hI : Iv T M S L t c3) (hT : T ≤ 400) (hM : M ≤ 50000000) (ha : 0 ≤ a4 ∧ a4 < 40) (h6 : 0 ≤ a6 ∧ a6 < 2147483648) (hk : ∀ S' L', Iv T (M + 50000) S' L' t c3 → Ok (go (Value.ref t, a4 + 1, (S', L'))) C0 T0 R) :
    Ok (jf2_Law_law_415_93 sc c3 go (Value.ref t) a4 a6 a7 S L) (C0 + 509 + qC a4) (T0 + 3191 + qT a4) R := by
  obtain ⟨P, W, n, hs, H, ⟨rfl, hP, hQ⟩, ⟨hPT, hC, hi⟩, ⟨hH, hHq, hO⟩, hl⟩ := hI
  have hG := hQ.1
  have en : (H.length : Int) = n := hH.1.symm
  unfold jf2_Law_law_415_93
  rw [if_pos hO.k, hO.size, bnO_s, rfB_r, en]
  refine Ok.bind (l_same hP hG hPT hC.2.1 (by omega)) (by omega) (by omega) ?_
  rintro v cc ss ⟨L1, rfl, s1, l1⟩
  have hP1 := hP.sf0 s1
  have hO1 := hO.sf0 s1
  have e7 : a4.tmod 7 = a4 % 7 := Int.tmod_eq_emod_of_nonneg ha.1
  dsimp only
  rw [if_pos rfl, nm_x, e7, wr_s (z := a4 % 7) (by omega) (by omega)]
  by_cases c : a4 % 7 = 6
  · have eC : qC a4 = 38939 := if_pos c
    have eT : qT a4 = 271192 := if_pos c
    rw [eC, eT, if_pos c]
    refine Ok.bind (l_pages4 hP1 hG hPT (by omega)) (by omega) (by omega) ?_
    rintro v cc ss ⟨S2, L2, rfl, pt2, ⟨o2, -⟩, hP2, s2, l2⟩
    have hC2 := hC.off o2 (by omega)
    have hi2 : 0 ≤ g S2 1 1 := by rw [o2.rd (by omega)]; exact hi
    have hO2 := hO1.sf0 s2
    dsimp only
    rw [if_pos rfl]
    refine Ok.bind (l_forms hP2 hG pt2 (fun f f0 f1 => by have := hQ.2.2.2 f f0 f1; omega) (by have := hQ.2.2.1; omega) (by omega)) (by omega) (by omega) ?_
    rintro v cc ss ⟨L3, rfl, hP3, s3, l3⟩
    have hO3 := hO2.sf0 s3
    dsimp only
    rw [if_pos rfl]
    refine Ok.bind (l_choices hP3 hG hQ.2.1 pt2 h6 (by omega)) (by omega) (by omega) ?_
    rintro v cc ss ⟨S4, L4, rfl, o4, hP4, s4, l4⟩
    have pt4 := pt2.off o4 (by omega)
    have hC4 := hC2.off o4 (by omega)
    have hi4 : 0 ≤ g S4 1 1 := by rw [o4.rd (by omega)]; exact hi2
    have hO4 := hO3.sf s4 (fun _ q => .inl q)
    dsimp only
    rw [if_pos rfl]
    refine Ok.bind (l_groups hP4 hG hQ.2.1 pt4 (by omega)) (by omega) (by omega) ?_
    rintro v cc ss ⟨S5, L5, rfl, o5, hP5, s5, l5⟩
    have pt5 := pt4.off o5 (by omega)
    have hC5 := hC4.off o5 (by omega)
    have hi5 : 0 ≤ g S5 1 1 := by rw [o5.rd (by omega)]; exact hi4
    have hO5 := hO4.sf s5 (fun _ q => .inl q)
    dsimp only
    rw [if_pos rfl, if_pos hO5.k, hO5.size, bnO_s, en]
    refine Ok.bind (l_same hP5 hG pt5 hC5.2.1 (by omega)) (by omega) (by omega) ?_
    rintro v cc ss ⟨L6, rfl, s6, l6⟩
    dsimp only
    rw [if_pos rfl, nm_x, wr_s (z := a4 + 1) (by omega) (by omega)]
    exact (hk S5 L6 ⟨P, W, n, hs, H, ⟨rfl, hP5.sf0 s6, hQ⟩, ⟨pt5, hC5, hi5⟩, ⟨hH, hHq, hO5.sf0 s6⟩, by omega⟩).mono (by omega) (by omega) (fun _ q => q)
  · rw [if_neg c, nm_x, wr_s (z := a4 + 1) (by omega) (by omega)]
    exact (hk S L1 ⟨P, W, n, hs, H, ⟨rfl, hP1, hQ⟩, ⟨hPT, hC, hi⟩, ⟨hH, hHq, hO1⟩, by omega⟩).mono (by omega) (by omega) (fun _ q => q)
end Aft
