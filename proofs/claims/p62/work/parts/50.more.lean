section More
variable {S T : St} {W : Vw}
theorem Good_color (hG : Good W) {f z : Int} (hf : 0 ≤ f ∧ f < frm W) (hz : z = 1 ∨ (z = 0 ∧ hasC W f = false)) : Good (up W 14 f.toNat z) := by
  obtain ⟨hV, hW, hF, hD⟩ := hG
  have hV' : Val (up W 14 f.toNat z) := Val_up hV hf.1 (.inr (.inr (.inr (.inr (.inr (.inr (.inl ⟨rfl, by omega⟩)))))))
  refine ⟨hV', ⟨fun q q1 q2 => ?_, fun s s1 s2 q qc => ?_⟩, fun a a1 a2 a3 => ?_, fun x x1 x2 x3 => ?_⟩
  · rw [pgs_up (by decide)] at q2
    rw [rawR_up (.inr (by decide)) (by decide)]; exact hW.1 q q1 q2
  · rw [nS_up (by decide)] at s2
    rw [cov_up (by decide) (by decide)] at qc
    have w := hW.2 s s1 s2 q qc
    refine ⟨fun a a1 a2 => ?_, fun b b1 b2 => ?_, fun t t1 t2 t3 => ?_⟩
    · rw [nA_up (by decide)] at a2
      rw [at_upn (k' := 6) (by decide)]; exact w.1 a a1 a2
    · rw [nB_up (by decide)] at b2
      rw [at_upn (k' := 13) (by decide)]; exact w.2.1 b b1 b2
    · rw [nS_up (by decide)] at t2
      rw [cov_up (by decide) (by decide)]; exact w.2.2 t t1 t2 t3
  · rw [nA_up (by decide)] at a2
    rw [at_upn (k' := 6) (by decide)] at a3 ⊢
    rw [at_upn (k' := 2) (by decide), at_upn (k' := 3) (by decide), rivl_up (by decide) (by decide) (by decide)]
    have q := hF a a1 a2 a3
    have v := hV.2.1 a a1 a2
    have fb := fOf_b hV (p := at_ W 6 a) (by omega) (by omega)
    refine ⟨fun e => ?_, q.2.1, q.2.2⟩
    have q1 := q.1 e
    unfold coP at q1 ⊢
    rw [fOf_up (by decide), at_upe fb.1 hf.1]
    by_cases c : fOf W (at_ W 6 a) = f
    · rw [if_pos c]
      rcases hz with hz | hz
      · exact decide_eq_true hz
      · exfalso
        have on : onF W a f = true := decide_eq_true ⟨a3, c⟩
        have : hasC W f = true := by
          unfold hasC anyA
          rw [Bool.or_eq_true]
          refine .inl (anyR_iff.mpr ⟨a, a1, by omega, ?_⟩)
          rw [on, Bool.true_and]; exact decide_eq_true e
        rw [hz.2] at this; cases this
    · rw [if_neg c]; exact q1
  · have ef : frm (up W 14 f.toNat z) = frm W := by unfold frm; rw [sg_up (by decide)]
    rw [ef] at x2
    rw [at_upn (k' := 15) (by decide)] at x3
    rw [at_upn (k' := 16) (by decide), tm_up (by decide)]
    exact hD x x1 x2 x3
end More

