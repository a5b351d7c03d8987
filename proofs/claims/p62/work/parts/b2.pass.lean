/-! HOURS PASS -/
theorem cntP_8' {W : Vw} (hV : Val W) {f : Int} (hf : 0 ≤ f ∧ f < frm W) : cntP (pe W) f 1 (pgs W).toNat ≤ 8 := by
  have q := cntP_le hV hf
  have b := hV.z
  omega
def hrN (c0 : Int) (V : Vw) (m : Nat) : Int × Vw := itR (hrS c0) 0 m (0, V)
theorem hrN_s {c0 : Int} {V : Vw} {m : Nat} : hrN c0 V (m + 1) = hrS c0 m (hrN c0 V m) := by
  unfold hrN
  rw [itR_snoc, Int.zero_add]
theorem hrS_1 {c0 f : Int} {s : Int × Vw} : s.1 ≤ (hrS c0 f s).1 := by
  unfold hrS
  split
  · show s.1 ≤ s.1 + 1; omega
  · exact Int.le_refl _
theorem hrN_mono {c0 : Int} {V : Vw} {m : Nat} : ∀ j : Nat, (hrN c0 V m).1 ≤ (hrN c0 V (m + j)).1
  | 0 => Int.le_refl _
  | j + 1 => Int.le_trans (hrN_mono j) (by rw [← Nat.add_assoc, hrN_s]; exact hrS_1)
theorem unP_clW {V : Vw} {f : Int} (hf : 0 ≤ f ∧ f < frm V) (h15 : at_ V 15 f = 0) : unP (clW f V) + 1 ≤ unP V := by
  unfold unP
  rw [frm_clW]
  refine sumR_strict (w := fun x => if at_ (clW f V) 15 x = 0 then (1 : Int) else 0) (w' := fun x => if at_ V 15 x = 0 then (1 : Int) else 0) (x := f) (fun j h1 h2 => ?_) hf.1 (by omega) ?_
  · show (if at_ (clW f V) 15 j = 0 then (1 : Int) else 0) ≤ (if at_ V 15 j = 0 then (1 : Int) else 0)
    rw [clW_15 hf.1 h1]
    by_cases e : j = f
    · rw [if_pos e, if_neg (show ¬ (1 : Int) = 0 by decide)]; split <;> omega
    · rw [if_neg e]; exact Int.le_refl _
  · show (if at_ (clW f V) 15 f = 0 then (1 : Int) else 0) + 1 ≤ (if at_ V 15 f = 0 then (1 : Int) else 0)
    rw [clW_15 hf.1 hf.1, if_pos rfl, if_neg (show ¬ (1 : Int) = 0 by decide), if_pos h15]
    decide
theorem unP_b {V : Vw} : 0 ≤ unP V ∧ unP V ≤ (frm V).toNat := by
  have q := sumR_bd (w := fun f => if at_ V 15 f = 0 then (1 : Int) else 0) (l := 0) (h := 1) (n := (frm V).toNat) (i := 0) (fun j _ _ => by show 0 ≤ (if at_ V 15 j = 0 then (1 : Int) else 0) ∧ (if at_ V 15 j = 0 then (1 : Int) else 0) ≤ 1; split <;> omega)
  unfold unP
  omega
theorem unP_tm {V : Vw} {z : Int} : unP (up V 17 5 z) = unP V := by
  unfold unP
  rw [frm_tm]
  refine sumR_congr (fun j _ _ => ?_)
  show (if at_ (up V 17 5 z) 15 j = 0 then (1 : Int) else 0) = _
  rw [at_eqv up17 (by decide)]
theorem hrN_un {c0 : Int} {V : Vw} (hG : G3 V) : ∀ m : Nat, (m : Int) ≤ frm V → (hrN c0 V m).1 + unP (hrN c0 V m).2 ≤ unP V
  | 0, _ => by show 0 + unP V ≤ unP V; omega
  | m + 1, h => by
    have q := hrN_un (c0 := c0) hG m (by omega)
    have iv := hr_inv (c0 := c0) (c := 0) hG (m := m) (by omega)
    rw [hrN_s]
    unfold hrS
    by_cases c : at_ (hrN c0 V m).2 15 m = 0 ∧ at_ (hrN c0 V m).2 16 m = c0
    · rw [if_pos c]
      have e : frm (hrN c0 V m).2 = frm V := by unfold frm; rw [show sg (hrN c0 V m).2 = sg V from iv.2.1.2.2.2.1]
      have := unP_clW (V := (hrN c0 V m).2) (f := m) ⟨by omega, by rw [e]; omega⟩ c.1
      show (hrN c0 V m).1 + 1 + unP (clW m (hrN c0 V m).2) ≤ _
      omega
    · rw [if_neg c]; exact q
theorem psN_un {W : Vw} (hG : Good W) : ∀ n : Nat, tm W + n ≤ 9999 → (psN W n).1 + unP (psN W n).2 ≤ unP W
  | 0, _ => by show 0 + unP W ≤ unP W; omega
  | n + 1, h => by
    have q := psN_un hG n (by omega)
    have iv := psN_i hG (i := (n : Int)) (by omega) (by omega)
    have e : psN W ((n + 1 : Nat) : Int) = psS n (psN W n) := psN_s (W := W) (i := (n : Int)) (by omega)
    rw [e]
    have u := hrN_un (c0 := tm (psN W n).2 + 1) (iv.1.g3.setT (z := tm (psN W n).2 + 1) (by have := iv.1.1.z; omega)) (frm (psN W n).2).toNat (by rw [frm_tm]; have := iv.1.1.z; omega)
    rw [unP_tm] at u
    have u' : (hrA (psN W n).2).1 + unP (hrA (psN W n).2).2 ≤ unP (psN W n).2 := u
    show (psN W n).1 + (hrA (psN W n).2).1 + unP (hrA (psN W n).2).2 ≤ unP W
    omega
theorem psN_8 {W : Vw} (hG : Good W) {a : Int} (ha : 0 ≤ a) (ht : tm W + a ≤ 9999) : (psN W a).1 ≤ 8 := by
  have q := psN_un hG a.toNat (by omega)
  rw [show ((a.toNat : Nat) : Int) = a by omega] at q
  have u1 := unP_b (V := W)
  have u2 := unP_b (V := (psN W a).2)
  have b := hG.1.z
  omega
theorem psN_mono {W : Vw} (hG : Good W) {m : Nat} : ∀ j : Nat, tm W + (m + j : Nat) ≤ 9999 → (psN W m).1 ≤ (psN W (m + j : Nat)).1
  | 0, _ => Int.le_refl _
  | j + 1, h => by
    have q := psN_mono hG (m := m) j (by omega)
    have iv := psN_i hG (i := ((m + j : Nat) : Int)) (by omega) (by omega)
    have g := hrA_good iv.1 (by omega)
    have e : psN W ((m + (j + 1) : Nat) : Int) = psS (m + j : Nat) (psN W (m + j : Nat)) := psN_s (W := W) (i := ((m + j : Nat) : Int)) (by omega)
    rw [e]
    show _ ≤ (psN W (m + j : Nat)).1 + (hrA (psN W (m + j : Nat)).2).1
    omega
section Pass
variable {S : St} {L L' : List PC} {P : PA} {W : Vw}
/-- the forms of an hour -/
theorem l_hr {V : Vw} {c a1 a3 : Int} {L1 : List PC} (hG : G3 V) (h1 : HP L1 P V) (hc : 0 ≤ c ∧ c ≤ 9999) (hL : L1.length < 300000000) :
    Ok (lo2_LP_pass_22 (pT P) a1 a3 FU (c, 0, (S, L1))) (57 * (hrN (tm V) V (frm V).toNat).1.toNat) (268 * (hrN (tm V) V (frm V).toNat).1.toNat) (fun v => ∃ L2, v = (c + (hrN (tm V) V (frm V).toNat).1, (S, L2)) ∧ HP L2 P (hrN (tm V) V (frm V).toNat).2 ∧ Sf (fpP P) L1 L2 ∧ L2.length ≤ L1.length + 57 * (hrN (tm V) V (frm V).toNat).1.toNat) := by
  have b := hG.1.z
  have fb : frm V = 2 * sg V := rfl
  have h0 : (hrN (tm V) V 0).1 = 0 := rfl
  have mono : ∀ n : Nat, (n : Int) ≤ frm V → (hrN (tm V) V ((frm V).toNat - n)).1 ≤ (hrN (tm V) V (frm V).toNat).1 := fun n hn => by
    have q := hrN_mono (c0 := tm V) (V := V) (m := (frm V).toNat - n) n
    rw [show (frm V).toNat - n + n = (frm V).toNat by omega] at q
    exact q
  have h := lp_Ok (body := fun go z => lb2_LP_pass_22 (pT P) a1 a3 go z.1 z.2.1 z.2.2.1 z.2.2.2) (R := fun v : Int × LZ => ∃ L2, v = (c + (hrN (tm V) V (frm V).toNat).1, (S, L2)) ∧ HP L2 P (hrN (tm V) V (frm V).toNat).2 ∧ Sf (fpP P) L1 L2 ∧ L2.length ≤ L1.length + 57 * (hrN (tm V) V (frm V).toNat).1.toNat)
    (fun n z => ∃ K : List PC, z = (c + (hrN (tm V) V ((frm V).toNat - n)).1, (((frm V).toNat - n : Nat) : Int), (S, K)) ∧ (n : Int) ≤ frm V ∧ HP K P (hrN (tm V) V ((frm V).toNat - n)).2 ∧ Sf (fpP P) L1 K ∧ K.length ≤ L1.length + 57 * (hrN (tm V) V ((frm V).toNat - n)).1.toNat)
    (fun n => 57 * ((hrN (tm V) V (frm V).toNat).1 - (hrN (tm V) V ((frm V).toNat - n)).1).toNat) (fun n => 268 * ((hrN (tm V) V (frm V).toNat).1 - (hrN (tm V) V ((frm V).toNat - n)).1).toNat)
    (fun go z hz => by
      obtain ⟨K, rfl, k1, k2, k3, k4⟩ := hz
      rw [show (frm V).toNat - 0 = (frm V).toNat from rfl] at k2 k4 ⊢
      show Ok (lb2_LP_pass_22 (pT P) a1 a3 go (c + (hrN (tm V) V (frm V).toNat).1) ((frm V).toNat : Int) S K) _ _ _
      have iv := hr_inv (c0 := tm V) (c := 0) hG (m := (frm V).toNat) (by omega)
      have esg : sg (hrN (tm V) V (frm V).toNat).2 = sg V := iv.2.1.2.2.2.1
      unfold lb2_LP_pass_22
      rw [k2.gg iv.1.1, bnO_s, esg, nm_x, wr_s (by omega) (by omega), if_pos (by omega)]
      exact Ok.ret ⟨K, rfl, k2, k3, k4⟩)
    (fun go n z hz hgo => by
      obtain ⟨K, rfl, k1, k2, k3, k4⟩ := hz
      obtain ⟨m, hm⟩ : ∃ m, m = (frm V).toNat - (n + 1) := ⟨_, rfl⟩
      have hm1 : (frm V).toNat - n = m + 1 := by omega
      have hmo := mono n (by omega)
      rw [hm1] at hgo hmo
      rw [← hm] at k2 k4 ⊢
      show Ok (lb2_LP_pass_22 (pT P) a1 a3 go (c + (hrN (tm V) V m).1) (m : Int) S K) _ _ _
      have iv := hr_inv (c0 := tm V) (c := 0) hG (m := m) (by omega)
      have gV : G3 (hrN (tm V) V m).2 := iv.1
      have esg : sg (hrN (tm V) V m).2 = sg V := iv.2.1.2.2.2.1
      have etm : tm (hrN (tm V) V m).2 = tm V := iv.2.2.1
      have ecn : 0 ≤ (hrN (tm V) V m).1 ∧ (hrN (tm V) V m).1 ≤ 0 + m := iv.2.2.2.1
      have hfm : 0 ≤ (m : Int) ∧ (m : Int) < 2 * sg (hrN (tm V) V m).2 := by rw [esg]; omega
      have es := hrN_s (c0 := tm V) (V := V) (m := m)
      have hun : lb2_LP_pass_22 (pT P) a1 a3 go (c + (hrN (tm V) V m).1) (m : Int) S K = if at_ (hrN (tm V) V m).2 15 m = 0 then (if at_ (hrN (tm V) V m).2 16 m = tm V then (bnO (gn_LP_close (pT P) m S K) fun p14 => adC p14.2.1 p14.2.2 (nm (wr (c + (hrN (tm V) V m).1 + 1)) fun v16 => nm (wr ((m : Int) + 1)) fun v17 => go (v16, v17, (p14.1.1, p14.1.2)))) else go (c + (hrN (tm V) V m).1, (m : Int) + 1, (S, K))) else go (c + (hrN (tm V) V m).1, (m : Int) + 1, (S, K)) := by
        have e1 : wr ((m : Int) + 1) = (m : Int) + 1 := wr_s (by omega) (by omega)
        unfold lb2_LP_pass_22
        rw [k2.gg gV.1, bnO_s, esg, nm_x, wr_s (by omega) (by omega), if_neg (by omega)]
        simp only [k2.fP, k2.fK, bnO_s, rfB_r, k2.pr gV.1 hfm, k2.cl gV.1 hfm, k2.ti gV.1, k2.k, eq_self, if_true, etm, nm_x, e1]
      rw [hun]
      have skip : hrN (tm V) V (m + 1) = hrN (tm V) V m → Ok (go (c + (hrN (tm V) V m).1, (m : Int) + 1, (S, K))) (57 * ((hrN (tm V) V (frm V).toNat).1 - (hrN (tm V) V m).1).toNat) (268 * ((hrN (tm V) V (frm V).toNat).1 - (hrN (tm V) V m).1).toNat) (fun v : Int × LZ => ∃ L2, v = (c + (hrN (tm V) V (frm V).toNat).1, (S, L2)) ∧ HP L2 P (hrN (tm V) V (frm V).toNat).2 ∧ Sf (fpP P) L1 L2 ∧ L2.length ≤ L1.length + 57 * (hrN (tm V) V (frm V).toNat).1.toNat) := fun e => by
        rw [e] at hgo
        exact hgo _ ⟨K, rfl, by omega, k2, k3, k4⟩
      by_cases c1 : at_ (hrN (tm V) V m).2 15 m = 0
      · rw [if_pos c1]
        by_cases c2 : at_ (hrN (tm V) V m).2 16 m = tm V
        · rw [if_pos c2]
          have e : hrN (tm V) V (m + 1) = ((hrN (tm V) V m).1 + 1, clW m (hrN (tm V) V m).2) := by
            rw [es]; unfold hrS
            rw [if_pos ⟨c1, c2⟩]
          rw [e] at hgo hmo
          have hmo : (hrN (tm V) V m).1 + 1 ≤ (hrN (tm V) V (frm V).toNat).1 := hmo
          have hcn := cntP_8' gV.1 (f := m) hfm
          have bT : (hrN (tm V) V (frm V).toNat).1 ≤ 8 := by
            have := (hr_inv (c0 := tm V) (c := 0) hG (m := (frm V).toNat) (by omega)).2.2.2.1.2
            have this : (hrN (tm V) V (frm V).toNat).1 ≤ 0 + ((frm V).toNat : Nat) := this
            omega
          have cl := l_close (S := S) (f := m) k2 gV hfm (by omega)
          refine Ok.bind (cl.mono (C' := 57) (T' := 268) (by omega) (by omega) (fun _ q => q)) (by omega) (by omega) ?_
          rintro v cc ss ⟨L3, rfl, l3, g3, s3⟩
          show Ok (nm (wr (c + (hrN (tm V) V m).1 + 1)) fun v16 => nm (wr ((m : Int) + 1)) fun v17 => go (v16, v17, (S, L3))) _ _ _
          rw [nm_x, nm_x, wr_s (by omega) (by omega), wr_s (by omega) (by omega)]
          refine (hgo _ ⟨L3, by rw [Int.add_assoc]; rfl, by omega, g3, k3.trans s3, ?_⟩).mono ?_ ?_ (fun _ q => q)
          · show L3.length ≤ L1.length + 57 * ((hrN (tm V) V m).1 + 1).toNat
            omega
          · show 57 * ((hrN (tm V) V (frm V).toNat).1 - ((hrN (tm V) V m).1 + 1)).toNat ≤ _
            omega
          · show 268 * ((hrN (tm V) V (frm V).toNat).1 - ((hrN (tm V) V m).1 + 1)).toNat ≤ _
            omega
        · rw [if_neg c2]
          exact skip (by rw [es]; unfold hrS; rw [if_neg (fun q => c2 q.2)])
      · rw [if_neg c1]
        exact skip (by rw [es]; unfold hrS; rw [if_neg (fun q => c1 q.1)]))
    (frm V).toNat FU (c, 0, (S, L1)) ⟨L1, by rw [Nat.sub_self, h0, Int.add_zero]; rfl, by omega, by rw [Nat.sub_self]; exact h1, Sf.refl, by omega⟩ (FU_big (by omega))
  rw [Nat.sub_self, h0, Int.sub_zero] at h
  exact h
theorem l_pass {a : Int} (h : HP L P W) (hG : Good W) (ha : 0 ≤ a ∧ a ≤ 500) (ht : tm W + a ≤ 9999) (hL : L.length < 200000000) :
    Ok (gn_LP_pass (pT P) a S L) (57 * (psN W a).1.toNat) (268 * (psN W a).1.toNat) (fun v => ∃ L2, v = ((psN W a).1, (S, L2)) ∧ HP L2 P (psN W a).2 ∧ Sf (fpP P) L L2 ∧ L2.length ≤ L.length + 57 * (psN W a).1.toNat) := by
  have b := hG.1.z
  have h0 : (psN W ((0 : Nat) : Int)).1 = 0 := rfl
  have p8 := psN_8 hG ha.1 ht
  have mono : ∀ n : Nat, (n : Int) ≤ a → (psN W ((a.toNat - n : Nat) : Int)).1 ≤ (psN W a).1 := fun n hn => by
    have q := psN_mono hG (m := a.toNat - n) n (by omega)
    rw [show ((a.toNat - n + n : Nat) : Int) = a by omega] at q
    exact q
  have h := lp_Ok (body := fun go z => lb2_LP_pass_4 (pT P) a go z.1 z.2.1 z.2.2.1 z.2.2.2) (R := fun v : Int × LZ => ∃ L2, v = ((psN W a).1, (S, L2)) ∧ HP L2 P (psN W a).2 ∧ Sf (fpP P) L L2 ∧ L2.length ≤ L.length + 57 * (psN W a).1.toNat)
    (fun n z => ∃ K : List PC, z = ((psN W ((a.toNat - n : Nat) : Int)).1, ((a.toNat - n : Nat) : Int), (S, K)) ∧ (n : Int) ≤ a ∧ HP K P (psN W ((a.toNat - n : Nat) : Int)).2 ∧ Sf (fpP P) L K ∧ K.length ≤ L.length + 57 * (psN W ((a.toNat - n : Nat) : Int)).1.toNat)
    (fun n => 57 * ((psN W a).1 - (psN W ((a.toNat - n : Nat) : Int)).1).toNat) (fun n => 268 * ((psN W a).1 - (psN W ((a.toNat - n : Nat) : Int)).1).toNat)
    (fun go z hz => by
      obtain ⟨K, rfl, k1, k2, k3, k4⟩ := hz
      rw [show ((a.toNat - 0 : Nat) : Int) = a by omega] at k2 k4 ⊢
      show Ok (lb2_LP_pass_4 (pT P) a go (psN W a).1 a S K) _ _ _
      unfold lb2_LP_pass_4
      rw [if_pos (Int.le_refl _)]
      exact Ok.ret ⟨K, rfl, k2, k3, k4⟩)
    (fun go n z hz hgo => by
      obtain ⟨K, rfl, k1, k2, k3, k4⟩ := hz
      obtain ⟨m, hm⟩ : ∃ m, m = a.toNat - (n + 1) := ⟨_, rfl⟩
      have hm1 : a.toNat - n = m + 1 := by omega
      have hmo := mono n (by omega)
      rw [hm1] at hgo hmo
      rw [← hm] at k2 k4 ⊢
      show Ok (lb2_LP_pass_4 (pT P) a go (psN W m).1 (m : Int) S K) _ _ _
      have iv := psN_i hG (i := (m : Int)) (by omega) (by omega)
      have es : psN W ((m + 1 : Nat) : Int) = psS m (psN W m) := psN_s (W := W) (i := (m : Int)) (by omega)
      have hg := hrA_good iv.1 (by omega)
      have pb := iv.1.1.z
      have e1 : wr (tm (psN W m).2 + 1) = tm (psN W m).2 + 1 := wr_s (by omega) (by omega)
      obtain ⟨K1, f1, w1⟩ := pf_s k2.1.1 (f := 2) (Nat.le_of_ble_eq_true rfl) (V (tm (psN W m).2 + 1))
      have g1 : HP K1 P (up (psN W m).2 17 5 (tm (psN W m).2 + 1)) := k2.setT (j := 5) (.inl rfl) (z := tm (psN W m).2 + 1) (by unfold inR; omega) (by rw [if_pos rfl, if_neg (by decide)]; exact w1)
      have gG : G3 (up (psN W m).2 17 5 (tm (psN W m).2 + 1)) := iv.1.g3.setT (by omega)
      have pm8 : (psN W m).1 ≤ 8 := psN_8 hG (a := (m : Int)) (by omega) (by omega)
      have lr := l_hr (S := S) (c := (psN W m).1) (a1 := a) (a3 := m) gG g1 ⟨by omega, by omega⟩ (by rw [w1.1]; omega)
      rw [tm_tm, frm_tm] at lr
      have hA : hrN (tm (psN W m).2 + 1) (up (psN W m).2 17 5 (tm (psN W m).2 + 1)) (frm (psN W m).2).toNat = hrA (psN W m).2 := rfl
      rw [hA] at lr
      rw [es] at hgo hmo
      have hmo : (psN W m).1 + (hrA (psN W m).2).1 ≤ (psN W a).1 := hmo
      unfold lb2_LP_pass_4
      rw [if_neg (by omega), k2.ti iv.1.1, bnO_s, nm_x, e1, f1, bnO_s]
      refine Ok.bind lr (by omega) (by omega) ?_
      rintro v cc ss ⟨L3, rfl, g3, s3, l3⟩
      show Ok (nm (wr ((m : Int) + 1)) fun v23 => go ((psN W m).1 + (hrA (psN W m).2).1, v23, (S, L3))) _ _ _
      rw [nm_x, wr_s (by omega) (by omega)]
      have hK1 : Sf (fpP P) L K1 := k3.w w1 (.inl (.inl rfl))
      refine (hgo _ ⟨L3, rfl, by omega, g3, hK1.trans s3, ?_⟩).mono ?_ ?_ (fun _ q => q)
      · show L3.length ≤ L.length + 57 * ((psN W m).1 + (hrA (psN W m).2).1).toNat
        have := w1.1
        omega
      · show 57 * ((psN W a).1 - ((psN W m).1 + (hrA (psN W m).2).1)).toNat ≤ _
        omega
      · show 268 * ((psN W a).1 - ((psN W m).1 + (hrA (psN W m).2).1)).toNat ≤ _
        omega)
    a.toNat FU (0, 0, (S, L)) ⟨L, by rw [Nat.sub_self]; rfl, by omega, by rw [Nat.sub_self]; exact h, Sf.refl, by omega⟩ (FU_big (by omega))
  rw [Nat.sub_self, h0, Int.sub_zero] at h
  unfold gn_LP_pass
  obtain ⟨v, cc, ss, e, hc, hs, L2, rfl, q⟩ := h
  refine ⟨((psN W a).1, (S, L2)), cc, ss, ?_, hc, hs, L2, rfl, q⟩
  rw [show lo2_LP_pass_4 (pT P) a FU (0, 0, (S, L)) = _ from e, bnO_s]
  show some (_, 0 + cc, 0 + ss) = _
  rw [Nat.zero_add, Nat.zero_add]
end Pass
