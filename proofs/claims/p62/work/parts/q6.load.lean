/-! A TEXT LOADED: what the plan keeps to; the list emptied -/
section Ld1
variable {S : St} {L L' L1 : List PC} {U : Vw} {g_ s_ : Int}
def ClB (U : Vw) : Prop := ∀ f : Int, 0 ≤ f → f < frm U → at_ U 16 f ≤ 40
theorem ClB_s {s : Stm} (hV : Val U) (h : OkS U s) (hc : ClB U) : ClB (apS U s) := by
  have ef : frm (apS U s) = frm U := by unfold frm; rw [(apS_n (U := U) (s := s)).1]
  intro f f0 f1
  rw [ef] at f1
  have q := hc f f0 f1
  obtain ⟨k, a1, a2, a3, a4, a5, a6⟩ := s
  match k, h with
  | 0, _ =>
    show at_ (up U 14 a1.toNat 1) 16 f ≤ 40
    rw [at_upn (by decide)]; exact q
  | 1, _ =>
    show at_ (nwA U (fAd a1 a2 a3 a4 a5 a6)) 16 f ≤ 40
    rw [nwA_o hV f0 (fun z => absurd z (by decide)) (by decide)]; exact q
  | 2, _ =>
    show at_ (nwS U (fSt a1 a2 a3 a4)) 16 f ≤ 40
    rw [nwS_o hV f0 (fun _ z => absurd z (by decide)) (by decide)]; exact q
  | 3, _ =>
    show at_ (nwB U (fSb a1)) 16 f ≤ 40
    rw [nwB_o hV f0 (fun _ z => absurd z (by decide)) (by decide)]; exact q
  | 4, h =>
    obtain ⟨h1, h2⟩ := h
    dsimp only at h1 h2
    show at_ (up U 16 a1.toNat a2) 16 f ≤ 40
    rw [at_upe f0 h1.1]
    split
    · omega
    · exact q
  | 5, _ =>
    show at_ (up U 6 a1.toNat a2) 16 f ≤ 40
    rw [at_upn (by decide)]; exact q
  | n + 6, h => exact h.elim
theorem ClB_l : ∀ {ss : List Stm} {U : Vw}, Good U → tm U = 0 → OkL U ss → ClB U → ClB (apL U ss)
  | [], _, _, _, _, h => h
  | s :: ss, U, hG, ht, hk, h => by
    obtain ⟨g1, t1⟩ := GoodS hG ht hk.1
    exact ClB_l (ss := ss) g1 t1 hk.2 (ClB_s hG.1 hk.1 h)
theorem QV_l {ss : List Stm} {T : Int} (hT : 0 ≤ T) (hg : 1 ≤ g_ ∧ g_ ≤ 4) (hs : s_ = 4 ∨ s_ = 8 ∨ s_ = 16) (h : OkL (emV g_ s_) ss) (hS : nS (apL (emV g_ s_) ss) ≤ 3) : QV T (apL (emV g_ s_) ss) := by
  have hG := Good_em hg hs
  obtain ⟨q1, q2⟩ := GoodL hG rfl h
  refine ⟨q1, hS, by rw [q2]; exact hT, ClB_l hG rfl h (fun f f0 f1 => ?_)⟩
  have e : frm (emV g_ s_) = 2 * g_ := rfl
  rw [e] at f1
  rw [emV_16 f0 f1]
  decide
theorem take_sf {n : Nat} (hn : n ≤ L.length) : (L.take n).length = n ∧ Sf F0_ (L.take n) L := by
  have e : (L.take n).length = n := by rw [List.length_take]; omega
  refine ⟨e, by omega, fun b hb _ => ?_⟩
  rw [e] at hb
  unfold hp
  by_cases q : nCell ≤ b ∧ b < XB
  · rw [if_pos q, if_pos q, List.getElem?_take, if_pos (by omega)]
  · rw [if_neg q, if_neg q]
end Ld1
