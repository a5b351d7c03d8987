/-! PAGES CLEARED, PAGES EXCHANGED -/
def clF (p x : Int) : Int := if x = p then 0 else x
theorem sumR_le {w w' : Int → Int} : ∀ {n : Nat} {i : Int}, (∀ j, i ≤ j → j < i + n → w j ≤ w' j) → sumR w i n ≤ sumR w' i n
  | 0, _, _ => Int.le_refl _
  | n + 1, i, h => by
    show w i + sumR w (i + 1) n ≤ w' i + sumR w' (i + 1) n
    have q := sumR_le (n := n) (i := i + 1) (fun j h1 h2 => h j (by omega) (by omega))
    have q0 := h i (by omega) (by omega)
    omega
section Clear
variable {S T : St} {W : Vw}
theorem Good_clear (hG : Good W) {p : Int} (hp : 1 ≤ p) : Good (mpV W (clF p)) := by
  obtain ⟨hV, hW, hF, hD⟩ := hG
  obtain ⟨n1, n2, n3, n4, n5, n6⟩ := mp_n (W := W) (f := clF p) (m := nA W) (n := nB W)
  have n1 : nA (mpV W (clF p)) = nA W := n1
  have n2 : nS (mpV W (clF p)) = nS W := n2
  have n3 : nB (mpV W (clF p)) = nB W := n3
  have n4 : sg (mpV W (clF p)) = sg W := n4
  have n5 : pe (mpV W (clF p)) = pe W := n5
  have n6 : tm (mpV W (clF p)) = tm W := n6
  have ep : pgs (mpV W (clF p)) = pgs W := mp_pgs
  have z := hV.z
  have o : ∀ (k : Nat) (a : Int), k ≠ 6 → k ≠ 13 → at_ (mpV W (clF p)) k a = at_ W k a := fun k a h1 h2 => mp_ao h1 h2 a
  have cf : ∀ x, clF p x = 0 ∨ clF p x = x := fun x => by unfold clF; split <;> simp
  have hV' : Val (mpV W (clF p)) := Val_mapP hV (fun x h1 h2 => by rcases cf x with e | e <;> rw [e] <;> omega)
  have ec : ∀ t q, cov (mpV W (clF p)) t q = cov W t q := fun t q => by unfold cov; rw [o 11 t (by decide) (by decide), o 7 t (by decide) (by decide)]
  refine ⟨hV', ⟨fun q q1 q2 => ?_, fun t t1 t2 q qc => ?_⟩, fun a a1 a2 a3 => ?_, fun f f1 f2 f3 => ?_⟩
  · rw [ep] at q2
    have r := hW.1 q q1 q2
    unfold rawR sumA sumB at r ⊢
    rw [n1, n3]
    have e1 := sumR_le (w := fun a => -szA W q (-1) a) (w' := fun a => -szA (mpV W (clF p)) q (-1) a) (n := (nA W).toNat) (i := 0) (fun j h1 h2 => by
      have v := hV.2.1 j h1 (by omega)
      unfold szA
      rw [mpV_6 ⟨h1, by omega⟩, o 0 j (by decide) (by decide)]
      by_cases c : j ≠ -1 ∧ clF p (at_ W 6 j) = q
      · rw [if_pos c, if_pos ⟨c.1, by rcases cf (at_ W 6 j) with e | e <;> omega⟩]; omega
      · rw [if_neg c]; split <;> omega)
    have e2 := sumR_le (w := fun a => -szB W q (-1) a) (w' := fun a => -szB (mpV W (clF p)) q (-1) a) (n := (nB W).toNat) (i := 0) (fun j h1 h2 => by
      have v := hV.2.2.2.1 j h1 (by omega)
      unfold szB
      rw [mpV_13 ⟨h1, by omega⟩, o 12 j (by decide) (by decide)]
      by_cases c : j ≠ -1 ∧ clF p (at_ W 13 j) = q
      · rw [if_pos c, if_pos ⟨c.1, by rcases cf (at_ W 13 j) with e | e <;> omega⟩]; omega
      · rw [if_neg c]; split <;> omega)
    omega
  · rw [n2] at t2
    rw [ec] at qc
    have w := hW.2 t t1 t2 q qc
    have cc := of_decide_eq_true qc
    refine ⟨fun a a1 a2 => ?_, fun b b1 b2 => ?_, fun t' u1 u2 u3 => ?_⟩
    · rw [n1] at a2
      rw [mpV_6 ⟨a1, a2⟩]
      have := w.1 a a1 a2
      rcases cf (at_ W 6 a) with e | e <;> omega
    · rw [n3] at b2
      rw [mpV_13 ⟨b1, b2⟩]
      have := w.2.1 b b1 b2
      rcases cf (at_ W 13 b) with e | e <;> omega
    · rw [n2] at u2
      rw [ec]; exact w.2.2 t' u1 u2 u3
  · rw [n1] at a2
    rw [mpV_6 ⟨a1, a2⟩] at a3 ⊢
    have e6 : clF p (at_ W 6 a) = at_ W 6 a := by rcases cf (at_ W 6 a) with e | e <;> omega
    rw [e6] at a3 ⊢
    rw [o 2 a (by decide) (by decide), o 3 a (by decide) (by decide)]
    have q := hF a a1 a2 a3
    refine ⟨fun e => ?_, q.2.1, rivl_no ?_⟩
    · have q1 := q.1 e
      unfold coP fOf at q1 ⊢
      rw [n5, o 14 _ (by decide) (by decide)]; exact q1
    · rintro ⟨g1, x, x1, x2, x3, x4, x5, x6⟩
      rw [n1] at x2
      rw [o 1 a (by decide) (by decide)] at g1 x6
      rw [o 1 x (by decide) (by decide)] at x6
      rw [mpV_6 ⟨x1, x2⟩] at x4 x5
      have e6x : clF p (at_ W 6 x) = at_ W 6 x := by rcases cf (at_ W 6 x) with e | e <;> omega
      rw [e6x] at x4 x5
      have := rivl_iff.mpr (⟨g1, x, x1, x2, x3, x4, x5, x6⟩ : at_ W 1 a ≠ 0 ∧ _)
      rw [q.2.2] at this; cases this
  · have ef : frm (mpV W (clF p)) = frm W := by unfold frm; rw [n4]
    rw [ef] at f2
    rw [o 15 f (by decide) (by decide)] at f3
    rw [o 16 f (by decide) (by decide), n6]
    exact hD f f1 f2 f3
theorem clF_b (hV : Val W) {p : Int} : ∀ x, 0 ≤ x → x ≤ pgs W → 0 ≤ clF p x ∧ clF p x ≤ pgs W := by
  intro x h1 h2
  unfold clF
  split <;> omega
end Clear

