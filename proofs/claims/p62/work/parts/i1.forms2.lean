/-! FORMS: the pages of one form -/
theorem idxs_flt {w : Int → Int} {p : Int} : ∀ n : Nat, idxs w p n = fltN (fun k => decide (w k = p)) n
  | 0 => rfl
  | n + 1 => by
    show idxs w p n ++ _ = fltN _ n ++ _
    rw [idxs_flt n]
    congr 1
    by_cases c : w n = p
    · rw [if_pos c, if_pos (decide_eq_true c)]
    · rw [if_neg c, if_neg (by rw [decide_eq_true_eq]; exact c)]
theorem idx_sum {w F : Int → Int} {p : Int} (n : Nat) : sumR (fun j => F ((idxs w p n).getD j.toNat 0 : Nat)) 0 (idxs w p n).length = sumR (fun x => if w x = p then F x else 0) 0 n := by
  rw [idxs_flt, flt_sum]
  refine sumR_congr (fun x h1 _ => ?_)
  show (if decide (w ((x.toNat : Nat) : Int) = p) = true then F x else 0) = _
  rw [Int.toNat_of_nonneg h1]
  by_cases c : w x = p
  · rw [if_pos c, if_pos (decide_eq_true c)]
  · rw [if_neg c, if_neg (by rw [decide_eq_true_eq]; exact c)]
section Forms2
variable {S : St} {L L0 K : List PC} {P : PA} {W : Vw} {f : Int}
def pgA (W : Vw) (f p : Int) (w : Int → Int) : Int := sumA W (fun a => if 1 ≤ at_ W 6 a ∧ at_ W 6 a < p ∧ fOf W (at_ W 6 a) = f then w a else 0)
theorem pgA_s {p : Int} {w : Int → Int} (hp : 1 ≤ p) : pgA W f (p + 1) w = pgA W f p w + (if fOf W p = f then sumA W (fun a => if at_ W 6 a = p then w a else 0) else 0) := by
  by_cases c : fOf W p = f
  · rw [if_pos c]
    unfold pgA sumA
    rw [← sumR_add]
    refine sumR_congr (fun a _ _ => ?_)
    show (if 1 ≤ at_ W 6 a ∧ at_ W 6 a < p + 1 ∧ fOf W (at_ W 6 a) = f then w a else 0) = (if 1 ≤ at_ W 6 a ∧ at_ W 6 a < p ∧ fOf W (at_ W 6 a) = f then w a else 0) + (if at_ W 6 a = p then w a else 0)
    by_cases d : at_ W 6 a = p
    · rw [d, if_pos ⟨hp, by omega, c⟩, if_neg (fun z => by omega), if_pos rfl, Int.zero_add]
    · rw [if_neg d, Int.add_zero]
      by_cases e : 1 ≤ at_ W 6 a ∧ at_ W 6 a < p ∧ fOf W (at_ W 6 a) = f
      · rw [if_pos e, if_pos ⟨e.1, by omega, e.2.2⟩]
      · rw [if_neg e, if_neg (fun z => e ⟨z.1, by omega, z.2.2⟩)]
  · rw [if_neg c, Int.add_zero]
    unfold pgA sumA
    refine sumR_congr (fun a _ _ => ?_)
    show (if 1 ≤ at_ W 6 a ∧ at_ W 6 a < p + 1 ∧ fOf W (at_ W 6 a) = f then w a else 0) = (if 1 ≤ at_ W 6 a ∧ at_ W 6 a < p ∧ fOf W (at_ W 6 a) = f then w a else 0)
    by_cases e : 1 ≤ at_ W 6 a ∧ at_ W 6 a < p ∧ fOf W (at_ W 6 a) = f
    · rw [if_pos e, if_pos ⟨e.1, by omega, e.2.2⟩]
    · rw [if_neg e, if_neg (fun z => e ⟨z.1, by
        by_cases d : at_ W 6 a = p
        · rw [d] at z; exact absurd z.2.2 c
        · omega, z.2.2⟩)]
theorem pgA_end (hV : Val W) {w : Int → Int} : pgA W f (pgs W + 1) w = sumA W (fun a => if onF W a f = true then w a else 0) := by
  have b := hV.z
  unfold pgA sumA
  refine sumR_congr (fun a h1 h2 => ?_)
  have v := hV.2.1 a h1 (by omega)
  show (if 1 ≤ at_ W 6 a ∧ at_ W 6 a < pgs W + 1 ∧ fOf W (at_ W 6 a) = f then w a else 0) = (if decide (0 < at_ W 6 a ∧ fOf W (at_ W 6 a) = f) = true then w a else 0)
  by_cases c : 0 < at_ W 6 a ∧ fOf W (at_ W 6 a) = f
  · rw [if_pos (decide_eq_true c), if_pos ⟨by omega, by omega, c.2⟩]
  · rw [if_neg (fun z : 1 ≤ at_ W 6 a ∧ at_ W 6 a < pgs W + 1 ∧ fOf W (at_ W 6 a) = f => c ⟨by omega, z.2.2⟩), if_neg (by rw [decide_eq_true_eq]; exact c)]
theorem pgA_1 (hV : Val W) {w : Int → Int} : pgA W f 1 w = 0 := by
  unfold pgA sumA
  refine sumR_0 (fun a _ _ => ?_)
  show (if 1 ≤ at_ W 6 a ∧ at_ W 6 a < 1 ∧ fOf W (at_ W 6 a) = f then w a else 0) = 0
  rw [if_neg (fun z => by omega)]
def lfP (W : Vw) (f p : Int) : Int := wr (sumR (fun q => if fOf W q = f then lf W q else 0) 1 (p - 1).toNat)
theorem lfP_s {p : Int} (hp : 1 ≤ p) : lfP W f (p + 1) = wr (lfP W f p + (if fOf W p = f then lf W p else 0)) := by
  unfold lfP
  rw [show (p + 1 - 1).toNat = (p - 1).toNat + 1 by omega, sumR_snoc, wr_add, show (1 : Int) + ((p - 1).toNat : Int) = p by omega]
def fmC (W : Vw) (f : Int) (i : Int) : Bool := decide (fOf W i = f)
theorem cnT_p {p : Int} (hp : 1 ≤ p) : cnT (fmC W f) 1 (p + 1 - 1).toNat = cnT (fmC W f) 1 (p - 1).toNat + (if fOf W p = f then 1 else 0) := by
  rw [show (p + 1 - 1).toNat = (p - 1).toNat + 1 by omega, cnT_e, show (1 : Int) + ((p - 1).toNat : Int) = p by omega]
  unfold fmC
  by_cases c : fOf W p = f
  · rw [if_pos c, if_pos (decide_eq_true c)]
  · rw [if_neg c, if_neg (by rw [decide_eq_true_eq]; exact c)]
theorem cnT_cntP : ∀ (n : Nat) (q : Int), cnT (fmC W f) q n = (cntP (pe W) f q n : Int)
  | 0, _ => rfl
  | n + 1, q => by
    rw [cnT_s, cnT_cntP n (q + 1)]
    show _ = (((if fOf W q = f then 1 else 0) + cntP (pe W) f (q + 1) n : Nat) : Int)
    unfold fmC
    by_cases c : fOf W q = f
    · rw [if_pos (decide_eq_true c), if_pos c]; omega
    · rw [if_neg (by rw [decide_eq_true_eq]; exact c), if_neg c]; omega
theorem cntQ_4 : ∀ s : Nat, s < 5 → ∀ f : Nat, f < 2 * s → cntP 4 (f : Int) 1 (s * 4) = 2 := by decide +kernel
theorem cntQ_8 : ∀ s : Nat, s < 5 → ∀ f : Nat, f < 2 * s → cntP 8 (f : Int) 1 (s * 8) = 4 := by decide +kernel
theorem cntQ_16 : ∀ s : Nat, s < 5 → ∀ f : Nat, f < 2 * s → cntP 16 (f : Int) 1 (s * 16) = 8 := by decide +kernel
theorem cnT_all (hV : Val W) (hf : 0 ≤ f ∧ f < frm W) : cnT (fmC W f) 1 (pgs W).toNat = pe W / 2 := by
  have b := hV.z
  have hv := hV.1
  have ef : frm W = 2 * sg W := rfl
  obtain ⟨-, -, -, h4, h5, -⟩ := hv
  obtain ⟨s, hs⟩ : ∃ s : Nat, sg W = s := ⟨(sg W).toNat, by omega⟩
  obtain ⟨f', hf'⟩ : ∃ f' : Nat, f = f' := ⟨f.toNat, by omega⟩
  subst hf'
  have ep : pgs W = (s : Int) * pe W := by unfold pgs; rw [hs]
  rw [cnT_cntP]
  rcases h5 with e | e | e
  · rw [e] at ep
    rw [show (pgs W).toNat = s * 4 by omega, e, cntQ_4 s (by omega) f' (by omega)]; rfl
  · rw [e] at ep
    rw [show (pgs W).toNat = s * 8 by omega, e, cntQ_8 s (by omega) f' (by omega)]; rfl
  · rw [e] at ep
    rw [show (pgs W).toNat = s * 16 by omega, e, cntQ_16 s (by omega) f' (by omega)]; rfl
theorem cl_pageOf (h : PT S 5 W) (hG : Good W) (hf : 0 ≤ f ∧ f < frm W) {y : Int} (hy : -1 ≤ y ∧ y ≤ 100) : fn_FP_pageOf 0 f y S = some (0, getI (kth (fmC W f) y 1 (pgs W).toNat)) := by
  have b := hG.1.z
  exact c_pageOf h hG (by unfold inR; omega) (by unfold inR; omega) hf
/-- the ads of one page -/
theorem l_fm106 {a2 a6 p b7 b8 : Int} {c4 lst r t : Nat} {m : Int} {cp : Nat} {L1 : List PC} (h0 : HP L0 P W) (hV : Val W) (h7 : inR b7) (h8 : inR b8) (hs : Sf F0_ L0 L1) (hl : LsH L1 lst r m cp ((idxs (at_ W 6) p (nA W).toNat).map bx)) (hb : nCell + L0.length ≤ t) (hit : ItH L1 t lst m 0) (hlt : t ≠ lst ∧ (r < XB → t ≠ r)) :
    ∃ L2, lo2_Law_forms_106 (pT P) a2 c4 f a6 p t FU (b7, b8, (S, L1)) = some ((wr (b7 + sumA W (fun a => if at_ W 6 a = p then 1 else 0)), wr (b8 + sumA W (fun a => if at_ W 6 a = p then at_ W 4 a else 0)), (S, L2)), 0, 0) ∧ L2.length = L1.length ∧ Sf F0_ L0 L2 ∧ Sf (fun b => b = t) L1 L2 := by
  have b := hV.z
  obtain ⟨xs, hxs⟩ : ∃ xs, xs = idxs (at_ W 6) p (nA W).toNat := ⟨_, rfl⟩
  rw [← hxs] at hl
  have hlm : (xs.map bx).length = xs.length := List.length_map _
  have hln := hl.len
  rw [hlm] at hln
  obtain ⟨L2, e, l, k⟩ := fe_loop (body := fun go q => lb2_Law_forms_106 (pT P) a2 c4 f a6 p t go q.1 q.2.1 q.2.2.1 q.2.2.2) (S := S) (a := lst) (r := r) (t := t) (cp := cp) (m := m) (xs := xs.map bx) (fun (s : Int × Int) z => (s.1, s.2, z)) (fun s z => (s.1, s.2, z)) (fun i s => (wr (s.1 + 1), wr (s.2 + at_ W 4 (xs.getD i.toNat 0 : Nat)))) (fun _ _ K => Sf F0_ L0 K ∧ LsH K lst r m cp (xs.map bx) ∧ Sf (fun b => b = t) L1 K)
    (fun i s K hK => hK.2.1)
    (fun go s K hK hk hn => by
      show lb2_Law_forms_106 (pT P) a2 c4 f a6 p t go s.1 s.2 S K = _
      unfold lb2_Law_forms_106
      rw [if_pos hk, hn, bnO_s, if_neg Bool.false_ne_true])
    (fun go i s K x K1 hK h0' hx hk hn hnx hw => by
      have s1 : Sf F0_ L0 K1 := rd_keep hK.1 hw hb
      have h1 := h0.sf0 s1
      rw [List.getElem?_map] at hx
      obtain ⟨k, hk1, rfl⟩ := Option.map_eq_some_iff.mp hx
      have hkm : k ∈ idxs (at_ W 6) p (nA W).toNat := by rw [← hxs]; exact List.mem_of_getElem? hk1
      obtain ⟨hkn, -⟩ := idxs_mem.mp hkm
      have hka : 0 ≤ (k : Int) ∧ (k : Int) < nA W := by omega
      obtain ⟨y, hy, hg, hyc⟩ := h1.ad hka
      obtain ⟨kk, -, -, -, f3, -, -, -⟩ := ad_f hV hka hyc
      obtain ⟨kb, kv⟩ := k_box (S := S) (L := K1) (k := k) (by omega)
      obtain ⟨l0, hl0⟩ : ∃ l0, hp K t = some l0 := by
        unfold isK kcl at hk
        cases hc : hp K t with
        | some c => exact ⟨c, rfl⟩
        | none =>
          exfalso
          have := hK.2.2.1
          by_cases z : t = 0
          · unfold nCell at hb; omega
          · rw [if_neg z] at hk
            unfold lk at hk
            by_cases y : t < XB
            · rw [if_pos y, hc] at hk; cases hk
            · obtain ⟨l9, hl9⟩ := hit
              exact y (hp_bd hl9).2.1
      refine ⟨K1, ?_, hw.1, rfl, s1, hK.2.1.sf (F := fun b => b = t) (Sf.refl.w hw (.inl rfl)) (fun z => hlt.1 z.symm) (fun z y => hlt.2 z y.symm), hK.2.2.w hw (.inl rfl)⟩
      show lb2_Law_forms_106 (pT P) a2 c4 f a6 p t go s.1 s.2 S K = go (wr (s.1 + 1), wr (s.2 + at_ W 4 (xs.getD i.toNat 0 : Nat)), (S, K1))
      unfold lb2_Law_forms_106
      rw [if_pos hk, hn, bnO_s, if_pos rfl, if_pos hk, hnx, bnO_s]
      show adC 0 0 _ = _
      rw [adC00, ix_get hk1]
      simp only [rfB_r, kb, kv, eq_self, if_true, bnO_s, nm_x, h1.fA, h1.kA, hg, kk, f3])
    xs.length FU 0 (b7, b8) L1 (by rw [hlm]; omega) (Int.le_refl _) (FU_big (by omega)) hit ⟨hs, hl, Sf.refl⟩
  refine ⟨L2, ?_, l, k.1, k.2.2⟩
  have q : itR (fun i (s : Int × Int) => (wr (s.1 + 1), wr (s.2 + at_ W 4 (xs.getD i.toNat 0 : Nat)))) 0 xs.length (b7, b8) = _ := it_sum2 (c := fun _ => 1) (w := fun i => at_ W 4 (xs.getD i.toNat 0 : Nat)) h7 h8
  rw [q] at e
  have e1 := idx_sum (w := at_ W 6) (F := fun _ => 1) (p := p) (nA W).toNat
  have e2 := idx_sum (w := at_ W 6) (F := at_ W 4) (p := p) (nA W).toNat
  rw [← hxs] at e1 e2
  rw [e1, e2] at e
  exact e
end Forms2
