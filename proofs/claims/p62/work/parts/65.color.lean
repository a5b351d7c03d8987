/-! bestColor -/
def bt (m f : Int) : Int := i_and (i_shr m f) 1
def S00 : St := (fun _ _ => 0, fun _ _ => 0, fun _ _ => 0)
theorem bt_all : ∀ m : Nat, m < 256 → ∀ f : Nat, f < 8 → (bt (m : Int) (f : Int) = 0 ∨ bt (m : Int) (f : Int) = 1) ∧ (m < 2 ^ f → bt (m : Int) (f : Int) = 0) := by decide +kernel
theorem bc_all : ∀ m : Nat, m < 256 → fn_Integer_bitCount (m : Int) S00 = some (sumR (fun f => bt (m : Int) f) 0 8) := by decide +kernel
theorem sh_all : i_shl 1 2 = 4 ∧ i_shl 1 4 = 16 ∧ i_shl 1 6 = 64 ∧ i_shl 1 8 = 256 := by decide
theorem bt01 {m f : Int} (hm : 0 ≤ m ∧ m < 256) (hf : 0 ≤ f ∧ f < 8) : bt m f = 0 ∨ bt m f = 1 := by
  have q := (bt_all m.toNat (by omega) f.toNat (by omega)).1
  rw [show ((m.toNat : Nat) : Int) = m by omega, show ((f.toNat : Nat) : Int) = f by omega] at q
  exact q
theorem bt_hi {m f : Int} (hm : 0 ≤ m ∧ m < 256) (hf : 0 ≤ f ∧ f < 8) (h : m.toNat < 2 ^ f.toNat) : bt m f = 0 := by
  have q := (bt_all m.toNat (by omega) f.toNat (by omega)).2 h
  rw [show ((m.toNat : Nat) : Int) = m by omega, show ((f.toNat : Nat) : Int) = f by omega] at q
  exact q
theorem bc_m {m : Int} {S : St} (hm : 0 ≤ m ∧ m < 256) : fn_Integer_bitCount m S = some (sumR (fun f => bt m f) 0 8) := by
  have q := bc_all m.toNat (by omega)
  rw [show ((m.toNat : Nat) : Int) = m by omega] at q
  rw [← q]
  rfl
theorem it_sum2 {c w : Int → Int} : ∀ {n : Nat} {i : Int} {a b : Int}, inR a → inR b → itR (fun i (s : Int × Int) => (wr (s.1 + c i), wr (s.2 + w i))) i n (a, b) = (wr (a + sumR c i n), wr (b + sumR w i n))
  | 0, i, a, b, ha, hb => by show (a, b) = (wr (a + 0), wr (b + 0)); rw [Int.add_zero, Int.add_zero, wr_id ha, wr_id hb]
  | n + 1, i, a, b, ha, hb => by
    show itR _ (i + 1) n (wr (a + c i), wr (b + w i)) = (wr (a + (c i + sumR c (i + 1) n)), wr (b + (w i + sumR w (i + 1) n)))
    rw [it_sum2 (wr_in _) (wr_in _), wr_add, wr_add, Int.add_assoc, Int.add_assoc]
theorem lp_sumx {β : Type} {body : (Int × Int → Option (β ⊕ Int)) → Int × Int → Option (β ⊕ Int)} (p : Int → Bool) (r : β) (w : Int → Int) (lo B : Int)
    (hx : ∀ go a i, B ≤ i → body go (a, i) = some (.inr a)) (hs : ∀ go a i, inR a → lo ≤ i → i < B → body go (a, i) = if p i = true then some (.inl r) else go (wr (a + w i), i + 1)) {n : Nat} {a : Int} (ha : inR a) (hn : (B - lo).toNat < n) :
    lp body n (a, lo) = if anyR p lo (B - lo).toNat = true then some (.inl r) else some (.inr (wr (a + sumR w lo (B - lo).toNat))) := by
  have q : ∀ (m n : Nat) (i a : Int), inR a → lo ≤ i → (B - i).toNat = m → m < n → lp body n (a, i) = if anyR p i m = true then some (.inl r) else some (.inr (wr (a + sumR w i m))) := by
    intro m
    induction m with
    | zero =>
      intro n i a ha h1 h2 h3
      obtain ⟨n, rfl⟩ : ∃ k, n = k + 1 := ⟨n - 1, by omega⟩
      rw [lp_succ, hx _ _ _ (by omega)]
      show _ = if false = true then (some (.inl r) : Option (β ⊕ Int)) else some (.inr (wr (a + 0)))
      rw [if_neg Bool.false_ne_true, Int.add_zero, wr_id ha]
    | succ m ih =>
      intro n i a ha h1 h2 h3
      obtain ⟨n, rfl⟩ : ∃ k, n = k + 1 := ⟨n - 1, by omega⟩
      rw [lp_succ, hs _ _ _ ha h1 (by omega)]
      show _ = if (p i || anyR p (i + 1) m) = true then (some (.inl r) : Option (β ⊕ Int)) else some (.inr (wr (a + (w i + sumR w (i + 1) m))))
      cases c : p i
      · rw [if_neg Bool.false_ne_true, ih n (i + 1) _ (wr_in _) (by omega) (by omega) (by omega), Bool.false_or, wr_add, Int.add_assoc]
      · rw [if_pos rfl, Bool.true_or, if_pos rfl]
  exact q _ n lo a ha (Int.le_refl _) rfl hn
section Color
variable {S T : St} {W : Vw} {n : Int} {hs : Int → Vw}
theorem lefF_bd (hG : Good W) {f : Int} : 0 ≤ lefF W f ∧ lefF W f ≤ 256 := by
  have b := hG.1.pg
  have q := sumR_bd (w := fun p => if fOf W p = f then lf W p else 0) (l := 0) (h := 4) (n := (pgs W).toNat) (i := 1) (fun j j1 j2 => by
    have := lf_bd hG.1 hG.2.1 j1 (by omega)
    show 0 ≤ (if fOf W j = f then lf W j else 0) ∧ (if fOf W j = f then lf W j else 0) ≤ 4
    split <;> omega)
  unfold lefF sumP
  rw [wr_s (by omega) (by omega)]
  omega
def badF (W : Vw) (f : Int) : Bool := decide (at_ W 15 f = 1 ∨ at_ W 14 f = 1)
def badS (W : Vw) (m : Int) : Bool := anyR (fun f => decide (bt m f = 1) && badF W f) 0 (frm W - 0).toNat
def lefS (W : Vw) (m : Int) : Int := sumR (fun f => if bt m f = 1 then lefF W f else 0) 0 (frm W - 0).toNat
def bcS (W : Vw) (m : Int) : Int := sumR (fun f => bt m f) 0 (frm W - 0).toNat
theorem frm_v (hV : Val W) : (frm W = 2 ∧ i_shl 1 (frm W) = 4) ∨ (frm W = 4 ∧ i_shl 1 (frm W) = 16) ∨ (frm W = 6 ∧ i_shl 1 (frm W) = 64) ∨ (frm W = 8 ∧ i_shl 1 (frm W) = 256) := by
  have b := hV.1
  have e : frm W = 2 * sg W := rfl
  have c : frm W = 2 ∨ frm W = 4 ∨ frm W = 6 ∨ frm W = 8 := by omega
  rcases c with c | c | c | c
  · exact .inl ⟨c, by rw [c]; exact sh_all.1⟩
  · exact .inr (.inl ⟨c, by rw [c]; exact sh_all.2.1⟩)
  · exact .inr (.inr (.inl ⟨c, by rw [c]; exact sh_all.2.2.1⟩))
  · exact .inr (.inr (.inr ⟨c, by rw [c]; exact sh_all.2.2.2⟩))
theorem bc_S (hV : Val W) {m : Int} (h0 : 0 ≤ m) (h1 : m < i_shl 1 (frm W)) : sumR (fun f => bt m f) 0 8 = bcS W m := by
  unfold bcS
  have key : ∀ N : Nat, N ≤ 8 → (frm W - 0).toNat = N → m < 256 → m.toNat < 2 ^ N → sumR (fun f => bt m f) 0 8 = sumR (fun f => bt m f) 0 (frm W - 0).toNat := by
    intro N hN e hm hp
    rw [e, show (8 : Nat) = N + (8 - N) by omega, sumR_app, sumR_0 (n := 8 - N) (fun j j1 j2 => ?_), Int.add_zero]
    refine bt_hi ⟨h0, hm⟩ ⟨by omega, by omega⟩ (Nat.lt_of_lt_of_le hp (Nat.pow_le_pow_right (by decide) (by omega)))
  rcases frm_v hV with ⟨e, f⟩ | ⟨e, f⟩ | ⟨e, f⟩ | ⟨e, f⟩
  · exact key 2 (by decide) (by omega) (by omega) (by rw [show 2 ^ 2 = 4 from rfl]; omega)
  · exact key 4 (by decide) (by omega) (by omega) (by rw [show 2 ^ 4 = 16 from rfl]; omega)
  · exact key 6 (by decide) (by omega) (by omega) (by rw [show 2 ^ 6 = 64 from rfl]; omega)
  · exact key 8 (by decide) (by omega) (by omega) (by rw [show 2 ^ 8 = 256 from rfl]; omega)
theorem lefS_bd (hG : Good W) {m : Int} : 0 ≤ lefS W m ∧ lefS W m ≤ 2048 := by
  have b := hG.1.1
  have e : frm W = 2 * sg W := rfl
  have q := sumR_bd (w := fun f => if bt m f = 1 then lefF W f else 0) (l := 0) (h := 256) (n := (frm W - 0).toNat) (i := 0) (fun j _ _ => by
    have := lefF_bd hG (f := j)
    show 0 ≤ (if bt m j = 1 then lefF W j else 0) ∧ (if bt m j = 1 then lefF W j else 0) ≤ 256
    split <;> omega)
  unfold lefS
  omega
theorem bcS_bd (hV : Val W) {m : Int} (hm : 0 ≤ m ∧ m < 256) : 0 ≤ bcS W m ∧ bcS W m ≤ 8 := by
  have b := hV.1
  have e : frm W = 2 * sg W := rfl
  have q := sumR_bd (w := fun f => bt m f) (l := 0) (h := 1) (n := (frm W - 0).toNat) (i := 0) (fun j j1 j2 => by
    have := bt01 hm (f := j) ⟨j1, by omega⟩
    show 0 ≤ bt m j ∧ bt m j ≤ 1
    omega)
  unfold bcS
  omega
def bcF (W : Vw) (k m : Int) (s : Int × Int) : Int × Int := if bcS W m = k ∧ badS W m = false ∧ s.2 < lefS W m then (m, lefS W m) else s
def bcN (W : Vw) (k : Int) : Int := (itR (bcF W k) 1 (i_shl 1 (frm W) - 1).toNat (0, -1)).1
theorem bc_left (h : PT S 5 W) (hG : Good W) {m : Int} (hm : 0 ≤ m ∧ m < 256) : fn_Searches_leftOnSet 505 m S = some (if badS W m = true then -1 else lefS W m) := by
  have b := hG.1.1
  have ef : frm W = 2 * sg W := rfl
  have q : lo_Searches_leftOnSet_4 505 m S FU (0, 0) = _ := lp_sumx (body := fun go p0 => lb_Searches_leftOnSet_4 505 m S go p0.1 p0.2) (fun f => decide (bt m f = 1) && badF W f) (-1) (fun f => if bt m f = 1 then lefF W f else 0) 0 (frm W)
    (fun go z i hi => by
      show lb_Searches_leftOnSet_4 505 m S go z i = _
      have e2 : g S 5 2 = frm W := h.pl.gf
      unfold lb_Searches_leftOnSet_4
      rw [tg_505_0, e2, if_pos hi])
    (fun go z i hz i0 i1 => by
      show lb_Searches_leftOnSet_4 505 m S go z i = _
      have e2 : g S 5 2 = frm W := h.pl.gf
      have x0 : g S 25 i.toNat = at_ W 14 i := h.pl.f0 ⟨i0, i1⟩
      have x1 : g S 26 i.toNat = at_ W 15 i := h.pl.f1 ⟨i0, i1⟩
      have eb : i_and (i_shr m i) 1 = bt m i := rfl
      unfold lb_Searches_leftOnSet_4
      rw [tg_505_0, e2, if_neg (by omega : ¬ frm W ≤ i), eb]
      by_cases c : bt m i = 1
      · rw [if_pos c, if_pos (by omega : 0 ≤ i ∧ i < 8), tg_505_1, tg_6_3, tg_24_1, tg_24_0, x1, x0, decide_eq_true c, Bool.true_and]
        unfold badF
        by_cases d1 : at_ W 15 i = 1
        · rw [if_pos d1, if_pos (decide_eq_true (.inl d1))]
        · rw [if_neg d1]
          by_cases d2 : at_ W 14 i = 1
          · rw [if_pos d2, if_pos (decide_eq_true (.inr d2))]
          · rw [if_neg d2, if_neg (by rw [decide_eq_true_eq]; exact fun q => q.elim d1 d2), P_leftOnForm h, bnO_s, nm_x, nm_x, wr_s (z := i + 1) (by omega) (by omega), if_pos c]
      · rw [if_neg c, decide_eq_false c, Bool.false_and, if_neg Bool.false_ne_true, nm_x, wr_s (z := i + 1) (by omega) (by omega), if_neg c, Int.add_zero, wr_id hz]) (inRk rfl) (FU_lt (by omega))
  have lb := lefS_bd hG (m := m)
  have e1 : anyR (fun f => decide (bt m f = 1) && badF W f) 0 (frm W - 0).toNat = badS W m := rfl
  have e2 : sumR (fun f => if bt m f = 1 then lefF W f else 0) 0 (frm W - 0).toNat = lefS W m := rfl
  unfold fn_Searches_leftOnSet
  rw [q, e1, e2, Int.zero_add, wr_s (by omega) (by omega)]
  cases badS W m <;> rfl
theorem bc_class (h : PT S 5 W) (hG : Good W) {k : Int} : fn_Searches_roomiestForms 505 k S = some (bcN W k) := by
  have ef := frm_v hG.1
  have q : lo_Searches_roomiestForms_7 505 k S FU (0, -1, 1) = some (bcN W k) :=
    lp_it (body := fun go p0 => lb_Searches_roomiestForms_7 505 k S go p0.1 p0.2.1 p0.2.2) (fun i (s : Int × Int) => (s.1, s.2, i)) (bcF W k) (fun s => s.1) (fun i s => 1 ≤ i ∧ -1 ≤ s.2) (i_shl 1 (frm W))
      (fun go i s _ hi => by
        show lb_Searches_roomiestForms_7 505 k S go s.1 s.2 i = _
        have e2 : g S 5 2 = frm W := h.pl.gf
        unfold lb_Searches_roomiestForms_7
        rw [tg_505_0, e2, if_pos hi])
      (fun go i s hI hi => by
        have e2 : g S 5 2 = frm W := h.pl.gf
        have lb := lefS_bd hG (m := i)
        refine ⟨?_, by omega, ?_⟩
        · show lb_Searches_roomiestForms_7 505 k S go s.1 s.2 i = go ((bcF W k i s).1, (bcF W k i s).2, i + 1)
          unfold lb_Searches_roomiestForms_7 bcF
          rw [tg_505_0, e2, if_neg (by omega : ¬ i_shl 1 (frm W) ≤ i), bc_m ⟨by omega, by omega⟩, bnO_s, bc_S hG.1 (by omega) hi]
          by_cases c : bcS W i = k
          · rw [if_pos c, bc_left h hG ⟨by omega, by omega⟩, bnO_s]
            cases d : badS W i
            · rw [if_neg Bool.false_ne_true]
              by_cases f : lefS W i ≤ s.2
              · rw [if_pos f, nm_x, wr_s (z := i + 1) (by omega) (by omega), if_neg (fun q => by have := q.2.2; omega)]
              · rw [if_neg f, nm_x, wr_s (z := i + 1) (by omega) (by omega), if_pos ⟨c, rfl, by omega⟩]
            · rw [if_pos rfl, if_pos hI.2, nm_x, wr_s (z := i + 1) (by omega) (by omega), if_neg (fun q => by have := q.2.1; exact absurd this (by decide))]
          · rw [if_neg c, nm_x, wr_s (z := i + 1) (by omega) (by omega), if_neg (fun q => c q.1)]
        · unfold bcF
          split
          · show -1 ≤ lefS W i; omega
          · exact hI.2) (i_shl 1 (frm W) - 1).toNat FU 1 (0, -1) ⟨Int.le_refl _, Int.le_refl _⟩ rfl (FU_lt (by omega))
  unfold fn_Searches_roomiestForms
  rw [q, bnO_s]
theorem bcN_in (hV : Val W) {k : Int} : inR (bcN W k) := by
  have ef := frm_v hV
  have q := itR_inv (f := bcF W k) (n := (i_shl 1 (frm W) - 1).toNat) (i := 1) (s := (0, -1)) (I := fun j s => 0 ≤ s.1 ∧ s.1 < 256) (fun j s j1 j2 h => by
    show 0 ≤ (bcF W k j s).1 ∧ (bcF W k j s).1 < 256
    unfold bcF
    split
    · show 0 ≤ j ∧ j < 256; omega
    · exact h) ⟨Int.le_refl _, by decide⟩
  exact ⟨by have := q.1; unfold bcN; omega, by have := q.2; unfold bcN; omega⟩
end Color

