/-! load: the draft, and the statements that change an item -/
section Draft
variable {B : Int → Int} {L p s n v z : Int} {S S' S0 T T' T0 : St} {V V' W : Vw} {k : Nat} {a : Int}
/-- nothing stands at the items that are to come -/
def BZ (V : Vw) (T : St) : Prop := (∀ a, nA V ≤ a → a < 40 → g T 515 (35 + 7 * a).toNat = 0) ∧ (∀ s, nS V ≤ s → s < 10 → g T 515 (313 + 5 * s).toNat = 0) ∧ ∀ b, nB V ≤ b → b < 8 → g T 515 (360 + 2 * b).toNat = 0
def Dft (V : Vw) (S T : St) : Prop := PT S 33 V ∧ Good V ∧ tm V = 0 ∧ MV T V ∧ BZ V T
theorem MV.k514 (h : MV T V) (e : ∀ f, g T' 515 f = g T 515 f) (h1 : g T' 514 1 = g T 514 1) (h2 : g T' 514 2 = g T 514 2) : MV T' V := by
  refine ⟨?_, h.2⟩
  rw [← h.1]
  exact vM_eqv (by rw [h.1]; exact h.2) h1 h2 (fun x _ => e _)
theorem Dft.keep (h : Dft V S T) (oS : Off S S' 61 63) (e : ∀ f, g T' 515 f = g T 515 f) (h1 : g T' 514 1 = g T 514 1) (h2 : g T' 514 2 = g T 514 2) : Dft V S' T' := by
  obtain ⟨d1, d2, d3, d4, d5⟩ := h
  refine ⟨d1.off oS (by omega), d2, d3, d4.k514 e h1 h2, ?_⟩
  unfold BZ at d5 ⊢
  simp only [e]
  exact d5
theorem Dft.tok (h : Dft V S T) (oS : Off S S' 61 63) (r : Off T T' 514 515) (hf : ∀ f, f ≠ 15 → f ≠ 18 → f ≠ 19 → f ≠ 20 → g T' 514 f = g T 514 f) : Dft V S' T' := h.keep oS (fun f => r.rd (by omega)) (hf 1 (by decide) (by decide) (by decide) (by decide)) (hf 2 (by decide) (by decide) (by decide) (by decide))
/-- a statement's end: more was read, and the two drafts are one -/
def Done (B : Int → Int) (L : Int) (S0 T0 : St) (s : Int) (S T : St) : Prop := ∃ V p, s < p ∧ St2 B L S0 T0 p S T ∧ Dft V S T
/-- the token that begins at s is in hand, in both -/
def Cu2 (B : Int → Int) (L : Int) (S0 T0 : St) (s : Int) (S T : St) : Prop := (TxC B L S ∧ FlC S0 S) ∧ (TxM B L T ∧ FlM T0 T) ∧ (0 ≤ s ∧ s ≤ L) ∧ CuC B L S s ∧ TkM B L T s ∧ E0 S T
theorem ADV (h : Cu2 B L S0 T0 s S T) (hd : Dft V S T) : ∃ T1, fn_Mo_advance 514 T = some T1 ∧ St2 B L S0 T0 (tkE B L s) S T1 ∧ Dft V S T1 ∧ RaM T T1 := by
  obtain ⟨⟨h1, h2⟩, ⟨h3, h4⟩, h5, h6, h7, h8⟩ := h
  have tb := tkE_b h1.1 h5
  obtain ⟨T1, e, r, k⟩ := M_next (p := tkE B L s) h3 h7.2.1 (by omega)
  exact ⟨T1, e, ⟨⟨h1, h2⟩, ⟨h3.ra r, h4.trans r.fl⟩, by omega, h6.2.1, k, by rw [r.2 16 (by decide) (by decide) (by decide)]; exact h8.1, by rw [r.2 17 (by decide) (by decide) (by decide)]; exact h8.2⟩, hd.tok Off.refl r.1 (fun f a b c _ => r.2 f a b c), r⟩
theorem FIN (h : St2 B L S0 T0 p S T) (hd : Dft V S T) (hp : s ≤ p) : RES S0 T0 (Done B L S0 T0 s) (fn_Reader_readSemicolon 61 S) (fn_Mo_readEnd 514 T) :=
  SEMI h (fun S' T' r1 r2 h' hl => ⟨V, _, by omega, h', hd.tok (r1.1.mono (by omega) (by omega)) r2.1 (fun f a b c _ => r2.2 f a b c)⟩)
/-! rows of the draft -/
theorem D_vA (hk : k < 7) (h : vC S 34 = W) (ha : 0 ≤ a ∧ a < nA W) (hz : inR z) : vC (u S (36 + k) a.toNat z) 34 = up W k a.toNat z := by
  have q := vC_uA (S := S) (s := 34) (z := z) hk (a := a.toNat) (by have := ha.2; rw [← h] at this; have e : nA (vC S 34) = g S 35 7 := rfl; rw [e] at this; show (a.toNat : Int) < g S 35 7; omega)
  rw [h, wr_id hz] at q
  exact q
theorem D_vS (hk : 7 ≤ k ∧ k < 12) (h : vC S 34 = W) (ha : 0 ≤ a ∧ a < nS W) (hz : inR z) : vC (u S (37 + k) a.toNat z) 34 = up W k a.toNat z := by
  have q := vC_uS (S := S) (s := 34) (z := z) hk (a := a.toNat) (by have := ha.2; rw [← h] at this; have e : nS (vC S 34) = g S 43 5 := rfl; rw [e] at this; show (a.toNat : Int) < g S 43 5; omega)
  rw [h, wr_id hz] at q
  exact q
theorem D_vF (hk : 14 ≤ k ∧ k < 17) (h : vC S 34 = W) (ha : 0 ≤ a ∧ a < frm W) (hz : inR z) (h0 : k = 16 → 1 ≤ z) : vC (u S (39 + k) a.toNat z) 34 = up W k a.toNat z := by
  have q := vC_uF (S := S) (s := 34) (z := z) hk (a := a.toNat) (by have := ha.2; rw [← h] at this; have e : frm (vC S 34) = 2 * g S 34 4 := rfl; rw [e] at this; show (a.toNat : Int) < 2 * g S 34 4; omega)
  rw [h, wr_id hz] at q
  by_cases c : k = 16
  · rw [if_pos c] at q
    have h1 := h0 c
    unfold cl6 at q
    rw [if_neg (by omega), if_neg (by omega)] at q
    exact q
  · rw [if_neg c] at q
    exact q
theorem MV_ad (h : MV T V) (hk : k < 7) (ha : 0 ≤ a ∧ a < nA V) (hz : inR z) (hV : Val (up V k a.toNat z)) : MV (u T 515 (29 + 7 * a + (k : Int)).toNat z) (up V k a.toNat z) := by
  have b := h.b
  have q := vM_uA (S := T) (z := z) h.mb (k := k) (a := a.toNat) hk (by rw [h.mA]; omega)
  rw [h.1, wr_id hz] at q
  rw [show (29 + 7 * a + (k : Int)).toNat = 29 + 7 * a.toNat + k by omega]
  exact ⟨q, hV⟩
theorem MV_st (h : MV T V) (hk : 7 ≤ k ∧ k < 12) (ha : 0 ≤ a ∧ a < nS V) (hz : inR z) (hV : Val (up V k a.toNat z)) : MV (u T 515 (309 + 5 * a + ((k : Int) - 7)).toNat z) (up V k a.toNat z) := by
  have b := h.b
  have q := vM_uS (S := T) (z := z) h.mb (k := k) (a := a.toNat) hk (by rw [h.mS]; omega)
  rw [h.1, wr_id hz] at q
  rw [show (309 + 5 * a + ((k : Int) - 7)).toNat = 309 + 5 * a.toNat + (k - 7) by omega]
  exact ⟨q, hV⟩
theorem MV_fo (h : MV T V) (hk : 14 ≤ k ∧ k < 17) (ha : 0 ≤ a ∧ a < frm V) (hz : inR z) (hV : Val (up V k a.toNat z)) : MV (u T 515 (5 + 3 * a + ((k : Int) - 14)).toNat z) (up V k a.toNat z) := by
  have b := h.b
  have e8 : frm V = 2 * sg V := rfl
  have q := vM_uF (S := T) (z := z) h.mb (k := k) (a := a.toNat) hk (by rw [h.msg]; omega)
  rw [h.1, wr_id hz] at q
  rw [show (5 + 3 * a + ((k : Int) - 14)).toNat = 5 + 3 * a.toNat + (k - 14) by omega]
  exact ⟨q, hV⟩
theorem BZ.put (h : BZ V T) (hV : Val V) {f : Nat} (n : N5 V V') (hf : f < 29 ∨ (∃ a k : Int, (0 ≤ a ∧ a < nA V) ∧ (0 ≤ k ∧ k < 7) ∧ (f : Int) = 29 + 7 * a + k ∧ nA V ≤ 40) ∨ ∃ a k : Int, (0 ≤ a ∧ a < nS V) ∧ (0 ≤ k ∧ k < 5) ∧ (f : Int) = 309 + 5 * a + k ∧ nS V ≤ 10) : BZ V' (u T 515 f z) := by
  obtain ⟨h1, h2, h3⟩ := h
  have bv := hV.1
  obtain ⟨n1, n2, n3, n4, n5⟩ := n
  refine ⟨fun a a1 a2 => ?_, fun a a1 a2 => ?_, fun a a1 a2 => ?_⟩
  · rw [n1] at a1
    rw [g_ne ?_]
    · exact h1 a a1 a2
    · rcases hf with q | ⟨a', k, q1, q2, q3, q4⟩ | ⟨a', k, q1, q2, q3, q4⟩ <;> omega
  · rw [n2] at a1
    rw [g_ne ?_]
    · exact h2 a a1 a2
    · rcases hf with q | ⟨a', k, q1, q2, q3, q4⟩ | ⟨a', k, q1, q2, q3, q4⟩ <;> omega
  · rw [n3] at a1
    rw [g_ne ?_]
    · exact h3 a a1 a2
    · rcases hf with q | ⟨a', k, q1, q2, q3, q4⟩ | ⟨a', k, q1, q2, q3, q4⟩ <;> omega
theorem St2.c (h : St2 B L S0 T0 p S T) (o : Off S S' 33 61) : St2 B L S0 T0 p S' T := ⟨⟨h.1.1.off o (by omega), h.1.2.trans (o.mono (by omega) (by omega))⟩, h.2.1, h.2.2.1, by rw [o.rd (by omega)]; exact h.2.2.2.1, h.2.2.2.2.1, by rw [o.rd (by omega)]; exact h.2.2.2.2.2.1, by rw [o.rd (by omega)]; exact h.2.2.2.2.2.2⟩
theorem St2.m (h : St2 B L S0 T0 p S T) {f : Nat} (hf : f < 380) : St2 B L S0 T0 p S (u T 515 f z) := by
  obtain ⟨h1, ⟨h3, h4⟩, h5, h6, h7, h8⟩ := h
  obtain ⟨k1, k2, k3, k4, k5⟩ := h7
  exact ⟨h1, ⟨h3.fl (FlM.w5 hf), h4.trans (FlM.w5 hf)⟩, h5, h6, ⟨by rw [g_ne (by omega)]; exact k1, by rw [g_ne (by omega)]; exact k2, by rw [g_ne (by omega)]; exact k3, k4, k5⟩, by rw [g_ne (by omega)]; exact h8.1, by rw [g_ne (by omega)]; exact h8.2⟩
theorem ST_color (h : Cu2 B L S0 T0 s S T) (hd : Dft V S T) : RES S0 T0 (Done B L S0 T0 s) (fn_Reader_readColor 61 S) (fn_Mo_readColor 514 T) := by
  obtain ⟨T1, e1, st, d1, r1⟩ := ADV h hd
  have fb := frm_b hd.1.v
  have gf : g S 33 2 = frm V := hd.1.pl.gf
  have tb := tkE_b h.1.1.1 h.2.2.1
  unfold fn_Reader_readColor fn_Mo_readColor
  rw [tg_61_1, gf, nm_x, e1, bnO_s, Mo_formMany d1.2.2.2.1, bnO_s, nm_x, wr_s (z := frm V - 1) (by omega) (by omega)]
  refine NUM (i := 0) (by decide) st (fun _ => rfl) (fun _ => rfl) (fun S' T' v hN => ?_)
  have hr := hN.rg
  have d2 := d1.tok hN.cf hN.mf hN.mg
  have hf : 0 ≤ v ∧ v < frm V := by omega
  have hG' := Good_color (z := 1) d2.2.1 hf (.inl rfl)
  obtain ⟨S2, hS2⟩ : ∃ S2, S2 = u S' 53 v.toNat 1 := ⟨_, rfl⟩
  obtain ⟨T2, hT2⟩ : ∃ T2, T2 = u T' 515 (5 + 3 * v + 0).toNat 1 := ⟨_, rfl⟩
  have o2 : Off S' S2 35 56 := by rw [hS2]; exact Off.wt (by omega) (by omega)
  have vv : vC S2 34 = up V 14 v.toNat 1 := by rw [hS2]; exact D_vF (k := 14) (by decide) d2.1.pl.1.2.1 hf in1 (fun z => by omega)
  have pt := d2.1.upd (k := 14) (by decide) vv ⟨hG'.1, hG'.2.1⟩ o2
  have mv : MV T2 (up V 14 v.toNat 1) := by rw [hT2]; exact MV_fo (k := 14) d2.2.2.2.1 (by decide) hf in1 hG'.1
  have bz : BZ (up V 14 v.toNat 1) T2 := by rw [hT2]; exact d2.2.2.2.2.put d2.1.v (N5_up (by decide)) (.inl (by omega))
  have es : fn_Mo_setForm 514 v 0 1 T' = some T2 := by
    unfold fn_Mo_setForm
    rw [if_pos (by omega), nm_x, tg_514_0, hT2]
  have st2 : St2 B L S0 T0 (tkE B L (tkS B L (tkE B L s))) S2 T2 := by rw [hT2]; exact (hN.st.c (o2.mono (by omega) (by omega))).m (by omega)
  rw [bnO_s, bnO_s, if_pos rfl, if_pos rfl, tg_61_2, hN.c, hN.m, if_pos (by omega : 0 ≤ v ∧ v < 8), nm_x, tg_33_0, tg_34_3, tg_52_0, ← hS2, es, bnO_s, bnO_eta, bnO_eta]
  exact FIN st2 ⟨pt, hG', by rw [tm_up (by decide)]; exact d2.2.2.1, mv, bz⟩ (by have := hN.lt; omega)
theorem ST_close (h : Cu2 B L S0 T0 s S T) (hd : Dft V S T) : RES S0 T0 (Done B L S0 T0 s) (fn_Reader_readClose 61 S) (fn_Mo_readClosing 514 T) := by
  obtain ⟨T1, e1, st, d1, r1⟩ := ADV h hd
  have fb := frm_b hd.1.v
  have gf : g S 33 2 = frm V := hd.1.pl.gf
  have tb := tkE_b h.1.1.1 h.2.2.1
  unfold fn_Reader_readClose fn_Mo_readClosing
  rw [tg_61_1, gf, nm_x, e1, bnO_s, Mo_formMany d1.2.2.2.1, bnO_s, nm_x, wr_s (z := frm V - 1) (by omega) (by omega)]
  refine NUM (i := 0) (by decide) st (fun _ => rfl) (fun _ => rfl) (fun S' T' v hN => ?_)
  have hr := hN.rg
  have d2 := d1.tok hN.cf hN.mf hN.mg
  have hf : 0 ≤ v ∧ v < frm V := by omega
  rw [bnO_s, bnO_s, if_pos rfl, if_pos rfl, hN.m, nm_x, wr_s (z := 5 + 3 * v + 2) (by omega) (by omega)]
  refine INTO (i := 1) (by omega) (by decide) hN.st (fun _ => rfl) (fun _ => rfl) (fun S3 T3 X3 w hN3 st3 hw h4 => ?_)
  have hr3 := hN3.rg
  have d3 := d2.tok hN3.cf hN3.mf hN3.mg
  have hG' := Good_other (k := 16) (i := v) (z := w) d2.2.1 hf.1 (.inr (.inr (.inr (.inr ⟨rfl, hr3, by rw [d2.2.2.1]; omega⟩))))
  obtain ⟨S2, hS2⟩ : ∃ S2, S2 = u S3 55 v.toNat w := ⟨_, rfl⟩
  have o2 : Off S3 S2 35 56 := by rw [hS2]; exact Off.wt (by omega) (by omega)
  have wi : inR w := ⟨by omega, by omega⟩
  have vv : vC S2 34 = up V 16 v.toNat w := by rw [hS2]; exact D_vF (k := 16) (by decide) d3.1.pl.1.2.1 hf wi (fun _ => hr3.1)
  have pt := d3.1.upd (k := 16) (by decide) vv ⟨hG'.1, hG'.2.1⟩ o2
  have eT : ∀ f, g T3 515 f = g (u X3 515 (5 + 3 * v + 2).toNat w) 515 f := fun f => by
    rw [hw]
    by_cases c : f = (5 + 3 * v + 2).toNat
    · rw [if_pos c, c, g_eq, wr_s (by omega) (by omega)]
    · rw [if_neg c, g_ne (by omega)]; exact (hN3.mf.rd (by omega)).symm
  have mv0 : MV (u X3 515 (5 + 3 * v + 2).toNat w) (up V 16 v.toNat w) := MV_fo (k := 16) d3.2.2.2.1 (by decide) hf wi hG'.1
  have mv : MV T3 (up V 16 v.toNat w) := mv0.k514 eT (by rw [h4, g_ne (by omega)]) (by rw [h4, g_ne (by omega)])
  have bz : BZ (up V 16 v.toNat w) T3 := by
    have q : BZ (up V 16 v.toNat w) (u X3 515 (5 + 3 * v + 2).toNat w) := d3.2.2.2.2.put d3.1.v (N5_up (by decide)) (.inl (by omega))
    unfold BZ at q ⊢
    simp only [eT]
    exact q
  have e0 : g S3 62 0 = v := by rw [hN3.co 0 (by decide)]; exact hN.c
  rw [bnO_s, bnO_s, if_pos rfl, if_pos rfl, tg_61_2, e0, if_pos (by omega : 0 ≤ v ∧ v < 8), nm_x, tg_33_0, tg_34_3, tg_52_2, hN3.c, ← hS2, bnO_eta, bnO_ite]
  exact FIN (st3.c (o2.mono (by omega) (by omega))) ⟨pt, hG', by rw [tm_up (by decide)]; exact d2.2.2.1, mv, bz⟩ (by have := hN.lt; have := hN3.lt; omega)
end Draft
