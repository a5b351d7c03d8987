/-! GROUPS: the whole question -/
section Groups4
variable {S : St} {L : List PC} {P : PA} {W : Vw}
theorem rgF_0 : ∀ w : Nat, w < 10 → (fun _ : Nat => (0 : Int)) w = rgF W 0 w := fun _ _ => rfl
theorem l_groups {a2 : Int} (h : HP L P W) (hG : Good W) (hS : nS W ≤ 3) (hT : PT S 5 W) (hL : L.length < 300000000) : Ok (gn_Law_groups (pT P) a2 S L) 14921 66118 (fun v => ∃ S1 L', v = (true, (S1, L')) ∧ Off S S1 512 514 ∧ HP L' P W ∧ Sf (fpP P) L L' ∧ L'.length ≤ L.length + 14921) := by
  have hV := hG.1
  have b := hV.z
  obtain ⟨n1, r1⟩ := RowI.new (K := L) (m := 10) (by omega)
  have s1 : Sf F0_ L (L ++ [(100, List.replicate 10 (.int 0))]) := n1.sf0
  have l1 : (L ++ [(100, List.replicate 10 (Value.int 0))]).length = L.length + 1 := n1.2.1
  have g11 := l_grp11 (S := S) (c4 := nCell + L.length) h hV (Nat.le_refl _) (nA W).toNat FU 0 (L ++ [(100, List.replicate 10 (.int 0))]) (by omega) (FU_big (by omega)) s1 (r1.eq rgF_0)
  obtain ⟨K2, e2, s2, r2, l2⟩ := g11
  unfold gn_Law_groups
  rw [if_pos (by decide), if_pos (by omega), nw_x]
  refine Ok.ad (c := 1) (s := 10) (by omega) (by omega) ?_
  show Ok (bnO (lo2_Law_groups_11 (pT P) (nCell + L.length) FU (0, 0, (S, L ++ [(100, List.replicate 10 (.int 0))]))) _) _ _ _
  rw [show lo2_Law_groups_11 (pT P) (nCell + L.length) FU (0, 0, (S, L ++ [(100, List.replicate 10 (.int 0))])) = some ((wr (nrS W (nA W).toNat), (S, K2)), 0, 0) from e2, bnO_s]
  refine Ok.ad (c := 0) (s := 0) (Nat.zero_le _) (Nat.zero_le _) ?_
  dsimp only
  rw [nrS_eq hV]
  have g187 := l_grp187 (S := S) (c4 := nCell + L.length) (a3 := wr (nrN W)) h hG hT (Nat.le_refl _) 10 FU 0 K2 rfl (FU_big (by decide)) s2 r2 (by omega)
  refine Ok.bindT (C1 := 1010) (T1 := 5400) (Q := fun e => ∃ K', e = (S, K') ∧ Sf F0_ L K' ∧ K'.length ≤ K2.length + 330) (g187.mono (by decide) (by decide) (fun v q => ?_)) (by omega) (by omega) (fun e q => ?_)
  · obtain ⟨K', q1, q2, q3⟩ := q
    exact ⟨_, q1, K', rfl, q2, by omega⟩
  · obtain ⟨K3, rfl, s3, l3⟩ := q
    have h3 := h.sf0 s3
    show Ok (bnO (fn_FP_nearRivals 0 S) _) _ _ _
    rw [nr_class hT, bnO_s, if_pos rfl]
    dsimp only
    refine Ok.bind (l_items (S := S) h3 hG hS hT (by omega)) (by omega) (by omega) ?_
    rintro v cc ss ⟨K4, rfl, s4, l4⟩
    have h4 := h3.sf0 s4
    show Ok (if true = true then (bnO (gn_Law_better (pT P) S K4) _) else _) _ _ _
    rw [if_pos rfl]
    refine Ok.bind (l_better (S := S) h4 hG hT (by omega)) (by omega) (by omega) ?_
    rintro v cc ss ⟨S1, K5, rfl, o5, h5, s5, l5⟩
    show Ok (if true = true then some ((true, (S1, K5)), 0, 0) else _) _ _ _
    rw [if_pos rfl]
    exact Ok.ret ⟨S1, K5, rfl, o5, h5, ((s3.trans s4).mono (fun _ z => z.elim)).trans s5, by omega⟩
end Groups4
