/-! STEPS OF BOTH SIDES -/
section Steps
variable {S S' T T' : St} {W : Vw} {n : Int} {hs : Int → Vw} {p k i : Nat} {z : Int}
theorem PL.upd (h : PL S p W) (hk : k < 17) (hv : vC S' (p + 1) = up W k i z) (hV' : Val (up W k i z)) (ho : Off S S' (p + 2) (p + 23)) : PL S' p (up W k i z) := by
  refine ⟨⟨h.q, hv, hV'⟩, ⟨?_, ?_⟩, fun q h1 h2 => ?_⟩
  · rw [ho.rd (by omega), pgs_up hk]; exact h.gp
  · rw [ho.rd (by omega)]; unfold frm; rw [sg_up hk]; exact h.gf
  · rw [pgs_up hk] at h2
    rw [fOf_up hk, pe_up hk, ho.rd (by omega), ho.rd (by omega)]
    exact ⟨h.fo h1 h2, h.sO h1 h2⟩
theorem lf_up (hk : k = 2 ∨ k = 3 ∨ k = 4 ∨ k = 14 ∨ k = 15 ∨ k = 16) (q : Int) : lf (up W k i z) q = lf W q := by
  unfold lf lefO room sumA sumB szA szB
  rw [stOn_up (by omega) (by omega) (by omega), nA_up (by omega), nB_up (by omega)]
  simp only [at_upn (W := W) (k := k) (i := i) (z := z) (k' := 6) (by omega), at_upn (W := W) (k := k) (i := i) (z := z) (k' := 0) (by omega), at_upn (W := W) (k := k) (i := i) (z := z) (k' := 13) (by omega), at_upn (W := W) (k := k) (i := i) (z := z) (k' := 12) (by omega)]
theorem grp_up (hk : k = 2 ∨ k = 3 ∨ k = 4 ∨ k = 14 ∨ k = 15 ∨ k = 16) (y s : Int) : grp (up W k i z) y s = grp W y s := by
  unfold grp sumA
  rw [nA_up (by omega)]
  simp only [at_upn (W := W) (k := k) (i := i) (z := z) (k' := 6) (by omega), at_upn (W := W) (k := k) (i := i) (z := z) (k' := 1) (by omega)]
theorem PT.upd (h : PT S p W) (hk : k = 2 ∨ k = 3 ∨ k = 4 ∨ k = 14 ∨ k = 15 ∨ k = 16) (hv : vC S' (p + 1) = up W k i z) (hG : Val (up W k i z) ∧ Wf (up W k i z)) (ho : Off S S' (p + 2) (p + 23)) : PT S' p (up W k i z) := by
  refine ⟨h.1.upd (by omega) hv hG.1 ho, ⟨fun q q1 q2 => ?_, fun y s y1 y2 s1 s2 => ?_⟩, hG.2⟩
  · rw [pgs_up (by omega)] at q2
    rw [lf_up hk, stOn_up (by omega) (by omega) (by omega), ho.rd (by omega), ho.rd (by omega)]
    exact ⟨h.l q1 q2, h.s q1 q2⟩
  · rw [grp_up hk, ho.rd (by omega)]
    exact h.gr ⟨y1, y2⟩ ⟨s1, s2⟩
/-! the class's rows: the plan is cell 5 -/
theorem K_vA (hk : k < 7) (h : vC S 6 = W) {a : Int} (ha : 0 ≤ a ∧ a < nA W) (hz : inR z) : vC (u S (8 + k) a.toNat z) 6 = up W k a.toNat z := by
  have q := vC_uA (S := S) (s := 6) (z := z) hk (a := a.toNat) (by have := ha.2; rw [← h] at this; have e : nA (vC S 6) = g S 7 7 := rfl; rw [e] at this; show (a.toNat : Int) < g S 7 7; omega)
  rw [h, wr_id hz] at q
  exact q
theorem K_vS (hk : 7 ≤ k ∧ k < 12) (h : vC S 6 = W) {a : Int} (ha : 0 ≤ a ∧ a < nS W) (hz : inR z) : vC (u S (9 + k) a.toNat z) 6 = up W k a.toNat z := by
  have q := vC_uS (S := S) (s := 6) (z := z) hk (a := a.toNat) (by have := ha.2; rw [← h] at this; have e : nS (vC S 6) = g S 15 5 := rfl; rw [e] at this; show (a.toNat : Int) < g S 15 5; omega)
  rw [h, wr_id hz] at q
  exact q
theorem K_vB (hk : 12 ≤ k ∧ k < 14) (h : vC S 6 = W) {a : Int} (ha : 0 ≤ a ∧ a < nB W) (hz : inR z) : vC (u S (10 + k) a.toNat z) 6 = up W k a.toNat z := by
  have q := vC_uB (S := S) (s := 6) (z := z) hk (a := a.toNat) (by have := ha.2; rw [← h] at this; have e : nB (vC S 6) = g S 21 2 := rfl; rw [e] at this; show (a.toNat : Int) < g S 21 2; omega)
  rw [h, wr_id hz] at q
  exact q
theorem K_vF (hk : 14 ≤ k ∧ k < 17) (h : vC S 6 = W) {a : Int} (ha : 0 ≤ a ∧ a < frm W) (hz : inR z) (h0 : k = 16 → 1 ≤ z) : vC (u S (11 + k) a.toNat z) 6 = up W k a.toNat z := by
  have q := vC_uF (S := S) (s := 6) (z := z) hk (a := a.toNat) (by have := ha.2; rw [← h] at this; have e : frm (vC S 6) = 2 * g S 6 4 := rfl; rw [e] at this; show (a.toNat : Int) < 2 * g S 6 4; omega)
  rw [h, wr_id hz] at q
  by_cases c : k = 16
  · rw [if_pos c] at q
    have h1 := h0 c
    unfold cl6 at q
    rw [if_neg (by omega), if_neg (by omega)] at q
    exact q
  · rw [if_neg c] at q
    exact q
def CR (S S1 : St) (W' : Vw) (n' : Int) (hs' : Int → Vw) : Prop := OC S S1 ∧ PT S1 5 W' ∧ HCl S1 n' hs'
theorem CR.row {S1 S2 : St} {n' : Int} {hs' : Int → Vw} (h : CR S S1 W n' hs') (hk : k = 2 ∨ k = 3 ∨ k = 4 ∨ k = 14 ∨ k = 15 ∨ k = 16) (hv : vC S2 6 = up W k i z) (hG : Val (up W k i z) ∧ Wf (up W k i z)) (ho : Off S1 S2 7 28) : CR S S2 (up W k i z) n' hs' :=
  ⟨h.1.trans (ho.oc (by omega)), h.2.1.upd hk hv hG ho, h.2.2.off ho (by omega)⟩
theorem CR.page {S1 S2 : St} {n' : Int} {hs' : Int → Vw} (h : CR S S1 W n' hs') (hk : k < 17) (hv : vC S2 6 = up W k i z) (hG : Val (up W k i z) ∧ Wf (up W k i z)) (ho : Off S1 S2 7 28) : ∃ S3, fn_Plan_recount 5 S2 = some S3 ∧ CR S S3 (up W k i z) n' hs' := by
  obtain ⟨S3, e3, o3, p3⟩ := P_recount (h.2.1.pl.upd hk hv hG.1 ho) hG.2
  exact ⟨S3, e3, (h.1.trans (ho.oc (by omega))).trans (o3.oc (by omega)), p3, (h.2.2.off ho (by omega)).off o3 (by omega)⟩
/-! the reference -/
theorem bi_in' {b : Bool} : inR (bi b) := bi_in b
end Steps
section Puts
variable {S : St}
end Puts

