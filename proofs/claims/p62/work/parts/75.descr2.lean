/-! describe, the call -/
section Descr2
variable {S T : St} {W : Vw} {n : Int} {hs : Int → Vw} {p : Int}
def onK (W : Vw) (k : Nat) (p i : Int) : Bool := decide (at_ W k i = p)
def dsF (W : Vw) (l : Int) (k : Nat) (p i : Int) (xs : List Int) : List Int := if onK W k p i = true then itB l i xs else xs
def cntK (W : Vw) (k : Nat) (p : Int) (N : Nat) : Int := sumR (fun i => if onK W k p i = true then 1 else 0) 0 N
theorem dsF_len {l : Int} {k : Nat} {xs : List Int} : ∀ N : Nat, ((itR (dsF W l k p) 0 N xs).length : Int) ≤ xs.length + 4 * cntK W k p N
  | 0 => by
    have e : cntK W k p 0 = 0 := rfl
    rw [e]
    show (xs.length : Int) ≤ _
    omega
  | N + 1 => by
    have ih := dsF_len (l := l) (k := k) (xs := xs) N
    have e : cntK W k p (N + 1) = cntK W k p N + (if onK W k p ((0 : Int) + (N : Int)) = true then 1 else 0) := by
      unfold cntK
      rw [sumR_snoc]
    rw [itR_snoc, e]
    unfold dsF at ih ⊢
    by_cases c : onK W k p ((0 : Int) + (N : Int)) = true
    · rw [if_pos c, if_pos c]
      have q := itB_len (l := l) (x := (0 : Int) + (N : Int)) (xs := itR (fun i xs => if onK W k p i = true then itB l i xs else xs) 0 N xs)
      have ih' : ((itR (fun i xs => if onK W k p i = true then itB l i xs else xs) 0 N xs).length : Int) ≤ xs.length + 4 * cntK W k p N := ih
      omega
    · rw [if_neg c, if_neg c, Int.add_zero]
      exact ih
theorem cntK_mono {k : Nat} {i : Int} {N : Nat} (h0 : 0 ≤ i) (h : i < N) (hc : onK W k p i = true) : cntK W k p i.toNat + 1 ≤ cntK W k p N := by
  have q := cnt_mono (m := onK W k p) (m' := onK W k p) (i := i + 1) (N := N) (by omega) (fun _ h => h)
  rw [show (i + 1).toNat = i.toNat + 1 by omega, sumR_snoc, show (0 : Int) + ((i.toNat : Nat) : Int) = i by omega, if_pos hc] at q
  exact q
theorem ds_s {l : Int} {k : Nat} {xs : List Int} {i : Int} (h0 : 0 ≤ i) : itR (dsF W l k p) 0 (i + 1).toNat xs = dsF W l k p i (itR (dsF W l k p) 0 i.toNat xs) := by
  rw [show (i + 1).toNat = i.toNat + 1 by omega, itR_snoc, show (0 : Int) + ((i.toNat : Nat) : Int) = i by omega]
theorem dsA (h : PT S 5 W) {S1 : St} {xs : List Int} (o : Off S S1 3 5) (d : DC S1 xs) (hc : (xs.length : Int) + 4 * cntK W 6 p (nA W).toNat ≤ 20) : ∃ S', lo_FP_describe_54 0 p 6 FU (0, S1) = some S' ∧ Off S S' 3 5 ∧ DC S' (itR (dsF W 97 6 p) 0 (nA W).toNat xs) := by
  have b := h.pl.b
  obtain ⟨S', e, hI⟩ := lp_inv (body := fun go p0 => lb_FP_describe_54 0 p 6 go p0.1 p0.2) (fun i (s : St) => (i, s)) (fun s => s)
    (fun i s => 0 ≤ i ∧ Off S s 3 5 ∧ DC s (itR (dsF W 97 6 p) 0 i.toNat xs)) (nA W)
    (fun go i s hI hi => by
      show lb_FP_describe_54 0 p 6 go i s = _
      have e7 : g s 7 7 = nA W := (h.off hI.2.1 (by omega)).pl.mA
      unfold lb_FP_describe_54
      rw [tg_6_0, e7, if_pos hi])
    (fun go i s hI hi => by
      obtain ⟨i0, os, ds⟩ := hI
      have hs' := h.off os (by omega)
      have e7 : g s 7 7 = nA W := hs'.pl.mA
      have x6 : g s 14 i.toNat = at_ W 6 i := hs'.pl.a6 ⟨i0, hi⟩
      by_cases c : at_ W 6 i = p
      · have ck : onK W 6 p i = true := decide_eq_true c
        have m := cntK_mono (W := W) (k := 6) (p := p) (N := (nA W).toNat) i0 (by omega) ck
        have l := dsF_len (W := W) (l := 97) (k := 6) (p := p) (xs := xs) i.toNat
        obtain ⟨S2, e2, o2, d2⟩ := dc_item (l := 97) (x := i) ds (by omega) (by decide) ⟨i0, by omega⟩
        refine ⟨S2, ?_, by omega, os.trans o2, ?_⟩
        · show lb_FP_describe_54 0 p 6 go i s = _
          unfold lb_FP_describe_54
          rw [tg_6_0, e7, if_neg (by omega : ¬ nA W ≤ i), if_pos (by omega : 0 ≤ i ∧ i < 40), tg_7_6, x6, if_pos c, tg_0_5, e2, bnO_s, nm_x, wr_s (z := i + 1) (by omega) (by omega)]
        · rw [ds_s i0]
          unfold dsF at d2 ⊢
          rw [if_pos ck]
          exact d2
      · refine ⟨s, ?_, by omega, os, ?_⟩
        · show lb_FP_describe_54 0 p 6 go i s = _
          unfold lb_FP_describe_54
          rw [tg_6_0, e7, if_neg (by omega : ¬ nA W ≤ i), if_pos (by omega : 0 ≤ i ∧ i < 40), tg_7_6, x6, if_neg c, nm_x, wr_s (z := i + 1) (by omega) (by omega)]
        · rw [ds_s i0]
          unfold dsF at ds ⊢
          rw [if_neg (by unfold onK; rw [decide_eq_true_eq]; exact c)]
          exact ds) (nA W - 0).toNat FU 0 S1 ⟨Int.le_refl _, o, d⟩ (by omega) rfl (FU_lt (by omega))
  exact ⟨S', e, hI.2.1, hI.2.2⟩
theorem dsB (h : PT S 5 W) {S1 : St} {xs : List Int} (o : Off S S1 3 5) (d : DC S1 xs) (hc : (xs.length : Int) + 4 * cntK W 13 p (nB W).toNat ≤ 20) : ∃ S', lo_FP_describe_96 0 p 6 FU (0, S1) = some S' ∧ Off S S' 3 5 ∧ DC S' (itR (dsF W 98 13 p) 0 (nB W).toNat xs) := by
  have b := h.pl.b
  obtain ⟨S', e, hI⟩ := lp_inv (body := fun go p0 => lb_FP_describe_96 0 p 6 go p0.1 p0.2) (fun i (s : St) => (i, s)) (fun s => s)
    (fun i s => 0 ≤ i ∧ Off S s 3 5 ∧ DC s (itR (dsF W 98 13 p) 0 i.toNat xs)) (nB W)
    (fun go i s hI hi => by
      show lb_FP_describe_96 0 p 6 go i s = _
      have e7 : g s 21 2 = nB W := (h.off hI.2.1 (by omega)).pl.mB
      unfold lb_FP_describe_96
      rw [tg_6_2, e7, if_pos hi])
    (fun go i s hI hi => by
      obtain ⟨i0, os, ds⟩ := hI
      have hs' := h.off os (by omega)
      have e7 : g s 21 2 = nB W := hs'.pl.mB
      have x6 : g s 23 i.toNat = at_ W 13 i := hs'.pl.b1 ⟨i0, hi⟩
      by_cases c : at_ W 13 i = p
      · have ck : onK W 13 p i = true := decide_eq_true c
        have m := cntK_mono (W := W) (k := 13) (p := p) (N := (nB W).toNat) i0 (by omega) ck
        have l := dsF_len (W := W) (l := 98) (k := 13) (p := p) (xs := xs) i.toNat
        obtain ⟨S2, e2, o2, d2⟩ := dc_item (l := 98) (x := i) ds (by omega) (by decide) ⟨i0, by omega⟩
        refine ⟨S2, ?_, by omega, os.trans o2, ?_⟩
        · show lb_FP_describe_96 0 p 6 go i s = _
          unfold lb_FP_describe_96
          rw [tg_6_2, e7, if_neg (by omega : ¬ nB W ≤ i), if_pos (by omega : 0 ≤ i ∧ i < 8), tg_21_1, x6, if_pos c, tg_0_5, e2, bnO_s, nm_x, wr_s (z := i + 1) (by omega) (by omega)]
        · rw [ds_s i0]
          unfold dsF at d2 ⊢
          rw [if_pos ck]
          exact d2
      · refine ⟨s, ?_, by omega, os, ?_⟩
        · show lb_FP_describe_96 0 p 6 go i s = _
          unfold lb_FP_describe_96
          rw [tg_6_2, e7, if_neg (by omega : ¬ nB W ≤ i), if_pos (by omega : 0 ≤ i ∧ i < 8), tg_21_1, x6, if_neg c, nm_x, wr_s (z := i + 1) (by omega) (by omega)]
        · rw [ds_s i0]
          unfold dsF at ds ⊢
          rw [if_neg (by unfold onK; rw [decide_eq_true_eq]; exact c)]
          exact ds) (nB W - 0).toNat FU 0 S1 ⟨Int.le_refl _, o, d⟩ (by omega) rfl (FU_lt (by omega))
  exact ⟨S', e, hI.2.1, hI.2.2⟩
end Descr2

