/-! GROUPS: who of a group stands on a spread -/
section Groups
variable {S : St} {L : List PC} {P : PA} {W : Vw}
theorem l_grp1 (h : HP L P W) (hV : Val W) {c4 : Nat} {a3 g a6 sp : Int} {t : Nat} {L1 : List PC} (hs : Sf F0_ L L1) (ht : nCell + L.length ≤ t) (hit : ItH L1 t (pA P).1 (pA P).2.2.1 0) : ∃ L2, lo2_Law_groups_223 (pT P) a3 c4 g a6 sp t FU (0, (S, L1)) = some ((wr (sumA W (fun a => if at_ W 1 a = g ∧ 0 < at_ W 6 a ∧ at_ W 6 a / 2 = sp then 1 else 0)), (S, L2)), 0, 0) ∧ L2.length = L1.length ∧ Sf F0_ L L2 := by
  have b := hV.z
  have hlen : ((xA P).length : Int) = nA W := h.2.1.1
  obtain ⟨L2, e, l, k⟩ := fe_loop (body := fun go p => lb2_Law_groups_223 (pT P) a3 c4 g a6 sp t go p.1 p.2.1 p.2.2) (S := S) (a := (pA P).1) (r := (pA P).2.1) (t := t) (cp := (pA P).2.2.2.1) (m := (pA P).2.2.1) (xs := xA P) (fun (s : Int) z => (s, z)) (fun s z => (s, z)) (fun i a => wr (a + (if at_ W 1 i = g ∧ 0 < at_ W 6 i ∧ at_ W 6 i / 2 = sp then 1 else 0))) (fun _ _ K => Sf F0_ L K)
    (fun i s K hK => (h.sf0 hK).lA)
    (fun go s K hK hk hn => by
      show lb2_Law_groups_223 (pT P) a3 c4 g a6 sp t go s S K = _
      unfold lb2_Law_groups_223
      rw [if_pos hk, hn, bnO_s, if_neg Bool.false_ne_true])
    (fun go i s K x K1 hK h0 hx hk hn hnx hw => by
      have hK1 := rd_keep hK hw ht
      have h1 := h.sf0 hK1
      have hl := (List.getElem?_eq_some_iff.mp hx).1
      obtain ⟨kk, f0, f1, f2, f3, f4, f5, f6⟩ := ad_f hV (i := i) ⟨h0, by omega⟩ (h1.1.2.2.1 _ _ hx)
      have v := hV.2.1 i h0 (by omega)
      refine ⟨K1, ?_, hw.1, rfl, hK1⟩
      show lb2_Law_groups_223 (pT P) a3 c4 g a6 sp t go s S K = go (_, (S, K1))
      unfold lb2_Law_groups_223
      rw [if_pos hk, hn, bnO_s, if_pos rfl, if_pos hk, hnx, bnO_s]
      show adC 0 0 _ = _
      rw [adC00]
      simp only [rfB_r, kk, eq_self, if_true, f1, f5, bnO_s, nm_x]
      by_cases c1 : at_ W 1 i = g
      · rw [if_pos c1]
        by_cases c2 : at_ W 6 i ≤ 0
        · rw [if_pos c2, if_neg (c := at_ W 1 i = g ∧ 0 < at_ W 6 i ∧ at_ W 6 i / 2 = sp) (fun q => by omega)]
        · rw [if_neg c2, td_n (by omega), wr_s (z := at_ W 6 i / 2) (by omega) (by omega)]
          by_cases c3 : at_ W 6 i / 2 = sp
          · rw [if_pos c3, if_pos (c := at_ W 1 i = g ∧ 0 < at_ W 6 i ∧ at_ W 6 i / 2 = sp) ⟨c1, by omega, c3⟩]
          · rw [if_neg c3, if_neg (c := at_ W 1 i = g ∧ 0 < at_ W 6 i ∧ at_ W 6 i / 2 = sp) (fun q => c3 q.2.2)]
      · rw [if_neg c1, if_neg (c := at_ W 1 i = g ∧ 0 < at_ W 6 i ∧ at_ W 6 i / 2 = sp) (fun q => c1 q.1)])
    (xA P).length FU 0 0 L1 (by omega) (Int.le_refl _) (FU_big (by omega)) hit hs
  refine ⟨L2, ?_, l, k⟩
  rw [it_sum (by unfold inR; omega), Int.zero_add, show (xA P).length = (nA W).toNat by omega] at e
  exact e
theorem grp_eq {g sp : Int} : wr (sumA W (fun a => if at_ W 1 a = g ∧ 0 < at_ W 6 a ∧ at_ W 6 a / 2 = sp then 1 else 0)) = grp W g sp := by
  unfold grp
  congr 1
  unfold sumA
  refine sumR_congr (fun j _ _ => ?_)
  show (if at_ W 1 j = g ∧ 0 < at_ W 6 j ∧ at_ W 6 j / 2 = sp then (1 : Int) else 0) = (if at_ W 1 j = g then (if at_ W 6 j ≤ 0 then 0 else if at_ W 6 j / 2 = sp then 1 else 0) else 0)
  by_cases c1 : at_ W 1 j = g
  · rw [if_pos c1]
    by_cases c2 : at_ W 6 j ≤ 0
    · rw [if_pos c2, if_neg (fun q => by omega)]
    · rw [if_neg c2]
      by_cases c3 : at_ W 6 j / 2 = sp
      · rw [if_pos c3, if_pos ⟨c1, by omega, c3⟩]
      · rw [if_neg c3, if_neg (fun q => c3 q.2.2)]
  · rw [if_neg c1, if_neg (fun q => c1 q.1)]
end Groups
