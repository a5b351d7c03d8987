/-! FORMS: one form -/
section Forms3
variable {S : St} {L0 K : List PC} {P : PA} {W : Vw} {f : Int}
def lfR (W : Vw) (g : Nat) (z : Int) (j : Nat) : Int := if j = g then z else if j < g then lefF W j else 0
theorem l_fm36 {a2 : Int} {c4 : Nat} (h0 : HP L0 P W) (hG : Good W) (hT : PT S 5 W) (hf : 0 ≤ f ∧ f < frm W) (hc4 : nCell + L0.length ≤ c4) :
    ∀ (n N : Nat) (p : Int) (K : List PC), p + n = pgs W + 1 → 1 ≤ p → n < N → Sf F0_ L0 K → RowI K c4 8 (lfR W f.toNat (lfP W f p)) → K.length + 3 * n < 600000000 →
    Ok (lp (fun go q => lb2_Law_forms_36 (pT P) a2 c4 f go q.1 q.2.1 q.2.2.1 q.2.2.2.1 q.2.2.2.2.1 q.2.2.2.2.2) N (cnT (fmC W f) 1 (p - 1).toNat, wr (pgA W f p (fun _ => 1)), wr (pgA W f p (at_ W 4)), p, (S, K))) (4 * cntP (pe W) f p n) (23 * cntP (pe W) f p n) (fun v => ∃ K', v = .inr (pe W / 2, adsF W f, rvOf W f, (S, K')) ∧ Sf F0_ L0 K' ∧ RowI K' c4 8 (lfR W f.toNat (lefF W f)) ∧ K'.length ≤ K.length + 3 * n)
  | 0, N + 1, p, K, hk, hp1, _, hs, hr, hL => by
    have hV := hG.1
    have h := h0.sf0 hs
    rw [lp_succ]
    show Ok (lb2_Law_forms_36 (pT P) a2 c4 f _ (cnT (fmC W f) 1 (p - 1).toNat) (wr (pgA W f p (fun _ => 1))) (wr (pgA W f p (at_ W 4))) p S K) _ _ _
    unfold lb2_Law_forms_36
    rw [if_pos h.k, l_pages h hV, bnO_s, if_pos (by omega), show p = pgs W + 1 by omega, pgA_end hV, pgA_end hV, show (pgs W + 1 - 1).toNat = (pgs W).toNat by omega, cnT_all hV hf]
    refine Ok.ret ⟨K, rfl, hs, ?_, Nat.le_refl _⟩
    have e : lfP W f p = lefF W f := by
      unfold lfP lefF sumP
      rw [show (p - 1).toNat = (pgs W).toNat by omega]
    rw [← e]; exact hr
  | n + 1, N + 1, p, K, hk, hp1, hN, hs, hr, hL => by
    have hV := hG.1
    have bz := hV.z
    have pb := hV.pg
    have h := h0.sf0 hs
    have hp : 1 ≤ p ∧ p ≤ pgs W := by omega
    have i1 : wr (p + 1) = p + 1 := wr_s (by omega) (by omega)
    have ec : cntP (pe W) f p (n + 1) = (if fOf W p = f then 1 else 0) + cntP (pe W) f (p + 1) n := rfl
    have en := cnT_p (W := W) (f := f) hp1
    have e1 := pgA_s (W := W) (f := f) (w := fun _ => 1) hp1
    have e4 := pgA_s (W := W) (f := f) (w := at_ W 4) hp1
    have el := lfP_s (W := W) (f := f) hp1
    have cb : 0 ≤ cnT (fmC W f) 1 (p - 1).toNat ∧ cnT (fmC W f) 1 (p - 1).toNat ≤ 64 := by
      refine ⟨cnT_nn, ?_⟩
      have q := sumR_bd (w := fun i : Int => if fmC W f i = true then (1 : Int) else 0) (l := 0) (h := 1) (n := (p - 1).toNat) (i := 1) (fun j _ _ => by
        show 0 ≤ (if fmC W f j = true then (1 : Int) else 0) ∧ (if fmC W f j = true then (1 : Int) else 0) ≤ 1
        split <;> omega)
      unfold cnT
      omega
    rw [lp_succ]
    show Ok (lb2_Law_forms_36 (pT P) a2 c4 f _ (cnT (fmC W f) 1 (p - 1).toNat) (wr (pgA W f p (fun _ => 1))) (wr (pgA W f p (at_ W 4))) p S K) _ _ _
    unfold lb2_Law_forms_36
    rw [if_pos h.k, l_pages h hV, bnO_s, if_neg (by omega), if_pos h.k, l_form h hV hp.1 (by omega), bnO_s]
    by_cases c : fOf W p = f
    · rw [if_pos c] at ec en e1 e4 el
      have ek : getI (kth (fmC W f) (cnT (fmC W f) 1 (p - 1).toNat) 1 (pgs W).toNat) = p := kth_is hp.1 (by omega) (decide_eq_true c) rfl
      rw [if_pos c, cl_pageOf hT hG hf (by omega), ek, bnO_s]
      dsimp only
      rw [if_pos rfl]
      refine Ok.ad (c := 1) (s := 6) (by omega) (by omega) ?_
      have ha := hr.at (w := f) ⟨hf.1, by omega⟩ (by unfold lfR; rw [if_pos rfl]; exact wr_in _)
      have ew : lfR W f.toNat (lfP W f p) f.toNat = lfP W f p := if_pos rfl
      rw [ew] at ha
      obtain ⟨K1, p1, r1, cc1, w1⟩ := hr.put (w := f) ⟨hf.1, by omega⟩ (wr (lfP W f p + lf W p))
      have s1 : Sf F0_ L0 K1 := hs.w w1 (.inr hc4)
      have h1 := h0.sf0 s1
      have r1' : RowI K1 c4 8 (lfR W f.toNat (lfP W f (p + 1))) := r1.eq (fun w _ => by
        unfold lfR
        by_cases d : w = f.toNat
        · rw [if_pos d, if_pos d, el]
        · rw [if_neg d, if_neg d, if_neg d])
      rw [if_pos rfl, nm_x, wr_s (z := cnT (fmC W f) 1 (p - 1).toNat + 1) (by omega) (by omega), ha, bnO_s, if_pos h.k, l_left (S := S) h hV, bnO_s, nm_x, p1, bnO_s, h1.fA, bnO_s, rfB_r, if_pos h1.k]
      have l1 := w1.1
      refine Ok.bind (l_onA (S := S) h1 hV hG.2.1 hp (by omega)) (by omega) (by omega) ?_
      rintro v cc ss ⟨K2, r2, m2, c2, rfl, hl2, sf2, len2, hr2⟩
      dsimp only
      obtain ⟨t3, K3, e3, n3⟩ := k_iter (S := S) hl2 (by omega)
      have l3 := n3.2.1
      have s3 : Sf F0_ L0 K3 := (s1.trans sf2).n n3
      rw [rfB_r, if_pos hl2.k, e3, bnO_s]
      refine Ok.ad (c := 1) (s := 4) (by omega) (by omega) ?_
      dsimp only
      have hlt := hl2.2.1
      have hk1 := hp_lt hlt
      obtain ⟨K4, e5, l4, s4, s4'⟩ := l_fm106 (S := S) (a2 := a2) (c4 := c4) (f := f) (a6 := cnT (fmC W f) 1 (p - 1).toNat + 1) (p := p) (b7 := wr (pgA W f p (fun _ => 1))) (b8 := wr (pgA W f p (at_ W 4))) h0 hV (wr_in _) (wr_in _) s3 (hl2.sf n3.sf0 id (fun _ => id)) (by rw [n3.1]; have := s1.1; have := sf2.1; omega) ⟨_, n3.at⟩ ⟨by rw [n3.1]; omega, fun z => by
        rw [n3.1]
        rcases hl2.2.2 with ⟨y, -⟩ | ⟨vs, y, -⟩
        · omega
        · have := hp_lt y; omega⟩
      rw [rfB_r, e5, bnO_s]
      refine Ok.ad (c := 0) (s := 0) (Nat.zero_le _) (Nat.zero_le _) ?_
      dsimp only
      rw [nm_x, i1, wr_add, wr_add, ← e1, ← e4, ← en]
      have r4 : RowI K4 c4 8 (lfR W f.toNat (lfP W f (p + 1))) := by
        obtain ⟨vs, y1, y2, y3⟩ := (r1'.sf0 sf2).sf0 n3.sf0
        refine ⟨vs, s4'.at y1 (fun z => ?_), y2, y3⟩
        have := (r1'.sf0 sf2).lt
        rw [n3.1] at z
        omega
      have ih := l_fm36 (a2 := a2) h0 hG hT hf hc4 n N (p + 1) K4 (by omega) (by omega) (by omega) s4 r4 (by omega)
      refine ih.mono (by omega) (by omega) (fun v z => ?_)
      obtain ⟨K', z1, z2, z3, z4⟩ := z
      exact ⟨K', z1, z2, z3, by omega⟩
    · rw [if_neg c] at ec en e1 e4 el
      rw [Int.add_zero] at en e1 e4
      have el' : lfP W f (p + 1) = lfP W f p := by rw [el, Int.add_zero]; exact wr_id (wr_in _)
      rw [if_neg c, nm_x, i1, ← en, ← e1, ← e4]
      have ih := l_fm36 (a2 := a2) h0 hG hT hf hc4 n N (p + 1) K (by omega) (by omega) (by omega) hs (by rw [el']; exact hr) (by omega)
      refine ih.mono (by omega) (by omega) (fun v z => ?_)
      obtain ⟨K', z1, z2, z3, z4⟩ := z
      exact ⟨K', z1, z2, z3, by omega⟩
/-- a row filled from its first place on -/
def prF (q : Nat → Int) (k j : Nat) : Int := if j < k then q j else 0
theorem RowI.nxt {K : List PC} {r n k : Nat} {q : Nat → Int} {z w : Int} (h : RowI K r n (prF q k)) (hw : w = k) (hk : k < n) (hz : z = q k) : ∃ K1, ast K 100 r w (V z) = some K1 ∧ RowI K1 r n (prF q (k + 1)) ∧ ∃ c, W1 K K1 r c := by
  obtain ⟨K1, e, r1, c⟩ := h.put (w := w) ⟨by omega, by omega⟩ z
  refine ⟨K1, e, r1.eq (fun j _ => ?_), c⟩
  unfold prF
  have ek : w.toNat = k := by omega
  rw [ek]
  by_cases d : j = k
  · rw [if_pos d, if_pos (by omega), hz, d]
  · rw [if_neg d]
    by_cases d2 : j < k
    · rw [if_pos d2, if_pos (by omega)]
    · rw [if_neg d2, if_neg (by omega)]
theorem l_fm269 {a2 a6 a8 : Int} {c4 c9 : Nat} (hG : Good W) (hT : PT S 5 W) (hf : 0 ≤ f ∧ f < frm W) {q : Nat → Int} (hr : RowI K c9 9 q) (hq : ∀ w : Nat, w < 9 → q w = q_form W f w ∧ inR (q w)) : ∀ (m N : Nat) (w : Nat), w + m = 9 → m < N → Ok (lp (fun go p => lb2_Law_forms_269 (pT P) a2 c4 f a6 a8 c9 go p.1 p.2.1 p.2.2) N ((w : Int), (S, K))) m (6 * m) (fun v => v = .inr (S, K))
  | 0, N + 1, w, hw, _ => by
    rw [lp_succ]
    show Ok (lb2_Law_forms_269 (pT P) a2 c4 f a6 a8 c9 _ (w : Int) S K) _ _ _
    unfold lb2_Law_forms_269
    rw [if_pos (by omega)]
    exact Ok.ret rfl
  | m + 1, N + 1, w, hw, hN => by
    have bz := hG.1.z
    have ih := l_fm269 (a2 := a2) (a6 := a6) (a8 := a8) (c4 := c4) hG hT hf hr hq m N (w + 1) (by omega) (by omega)
    have qw := hq w (by omega)
    have ha := hr.at (w := (w : Int)) ⟨by omega, by omega⟩ (by rw [Int.toNat_natCast]; exact qw.2)
    rw [Int.toNat_natCast] at ha
    rw [lp_succ]
    show Ok (lb2_Law_forms_269 (pT P) a2 c4 f a6 a8 c9 _ (w : Int) S K) _ _ _
    unfold lb2_Law_forms_269
    rw [if_neg (by omega), c_form hT hG (by unfold inR; omega) (by unfold inR; omega) hf, bnO_s]
    dsimp only
    rw [if_pos rfl]
    refine Ok.ad (c := 1) (s := 6) (by omega) (by omega) ?_
    rw [ha, bnO_s, if_pos qw.1.symm, nm_x, wr_s (z := (w : Int) + 1) (by omega) (by omega), show (w : Int) + 1 = ((w + 1 : Nat) : Int) by omega]
    exact ih.mono (by omega) (by omega) (fun _ z => z)
end Forms3
