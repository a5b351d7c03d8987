/-! LOOPS over a list by its iterator -/
theorem adC00 {β : Type} {o : Option (β × Nat × Nat)} : adC 0 0 o = o := by
  cases o with
  | none => rfl
  | some q => rfl
theorem fe_loop {α β σ : Type} {body : (α → Option (β × Nat × Nat)) → α → Option (β × Nat × Nat)} {S : St} {a r t cp : Nat} {m : Int} {xs : List Nat} (mk : σ → LZ → α) (out : σ → LZ → β) (f : Int → σ → σ) (I : Int → σ → List PC → Prop)
    (hI : ∀ i s L, I i s L → LsH L a r m cp xs)
    (hend : ∀ go s L, I xs.length s L → isK L t 14 = true → gn_Itr_hasNext t S L = some false → body go (mk s (S, L)) = some (out s (S, L), 0, 0))
    (hstep : ∀ go i s L x L1, I i s L → 0 ≤ i → xs[i.toNat]? = some x → isK L t 14 = true → gn_Itr_hasNext t S L = some true → gn_Itr_next t S L = some ((Value.ref x, (S, L1)), 0, 0) → W1 L L1 t (14, [V (i + 1), V i, V m, Value.ref a]) →
      ∃ L2, body go (mk s (S, L)) = go (mk (f i s) (S, L2)) ∧ L2.length = L.length ∧ hp L2 t = hp L1 t ∧ I (i + 1) (f i s) L2) :
    ∀ (n N : Nat) (i : Int) (s : σ) (L : List PC), i + n = xs.length → 0 ≤ i → n < N → ItH L t a m i → I i s L → ∃ L', lp body N (mk s (S, L)) = some (out (itR f i n s) (S, L'), 0, 0) ∧ L'.length = L.length ∧ I xs.length (itR f i n s) L'
  | 0, N + 1, i, s, L, hi, h0, _, hit, hII => by
    have e : i = (xs.length : Int) := by omega
    subst e
    have q := k_hasNext (S := S) (hI _ _ _ hII) hit ⟨by omega, Int.le_refl _⟩
    rw [decide_eq_false (by omega)] at q
    exact ⟨L, hend _ s L hII hit.k q, rfl, hII⟩
  | n + 1, N + 1, i, s, L, hi, h0, hN, hit, hII => by
    have hl := hI _ _ _ hII
    obtain ⟨x, hx⟩ : ∃ x, xs[i.toNat]? = some x := ⟨_, List.getElem?_eq_getElem (by omega)⟩
    have q := k_hasNext (S := S) hl hit ⟨h0, by omega⟩
    rw [decide_eq_true (by omega)] at q
    obtain ⟨L1, e1, w1⟩ := k_next (S := S) hl hit h0 hx
    obtain ⟨L2, e2, l2, t2, I2⟩ := hstep (lp body N) i s L x L1 hII h0 hx hit.k q e1 w1
    obtain ⟨L', e3, l3, I3⟩ := fe_loop mk out f I hI hend hstep n N (i + 1) (f i s) L2 (by omega) (by omega) (by omega) ⟨V i, by rw [t2, w1.at]⟩ I2
    exact ⟨L', by rw [lp_succ, e2]; exact e3, l3.trans l2, I3⟩
section Iter
variable {S : St} {L L' : List PC} {P : PA} {W : Vw}
/-- what an iterator leaves as it is -/
theorem rd_keep {L0 L1 : List PC} {t : Nat} {c : PC} (hf : Sf F0_ L0 L) (hw : W1 L L1 t c) (ht : nCell + L0.length ≤ t) : Sf F0_ L0 L1 := hf.w hw (.inr ht)
theorem l_late1 (h : HP L P W) (hV : Val W) {f : Int} {t : Nat} {L1 : List PC} (hs : Sf F0_ L L1) (ht : nCell + L.length ≤ t) (hit : ItH L1 t (pA P).1 (pA P).2.2.1 0) : ∃ L2, lo2_LP_late_10 (pT P) f t FU (0, (S, L1)) = some ((wr (sumA W (fun a => if onF W a f = true then (if laA W a = true then 1 else 0) else 0)), (S, L2)), 0, 0) ∧ L2.length = L1.length ∧ Sf F0_ L L2 := by
  have b := hV.z
  have hlen : ((xA P).length : Int) = nA W := h.2.1.1
  obtain ⟨L2, e, l, k⟩ := fe_loop (body := fun go p => lb2_LP_late_10 (pT P) f t go p.1 p.2.1 p.2.2) (S := S) (a := (pA P).1) (r := (pA P).2.1) (t := t) (cp := (pA P).2.2.2.1) (m := (pA P).2.2.1) (xs := xA P) (fun (s : Int) z => (s, z)) (fun s z => (s, z)) (fun i a => wr (a + (if onF W i f = true then (if laA W i = true then 1 else 0) else 0))) (fun _ _ K => Sf F0_ L K)
    (fun i s K hK => (h.sf0 hK).lA)
    (fun go s K hK hk hn => by
      show lb2_LP_late_10 (pT P) f t go s S K = _
      unfold lb2_LP_late_10
      rw [if_pos hk, hn, bnO_s, if_neg Bool.false_ne_true])
    (fun go i s K x K1 hK h0 hx hk hn hnx hw => by
      have hK1 := rd_keep hK hw ht
      have h1 := h.sf0 hK1
      have hl := (List.getElem?_eq_some_iff.mp hx).1
      obtain ⟨kk, f0, f1, f2, f3, f4, f5, f6⟩ := ad_f hV (i := i) ⟨h0, by omega⟩ (h1.1.2.2.1 _ _ hx)
      have v := hV.2.1 i h0 (by omega)
      refine ⟨K1, ?_, hw.1, rfl, hK1⟩
      show lb2_LP_late_10 (pT P) f t go s S K = go (_, (S, K1))
      unfold lb2_LP_late_10
      rw [if_pos hk, hn, bnO_s, if_pos rfl, if_pos hk, hnx, bnO_s]
      show adC 0 0 _ = _
      rw [adC00]
      unfold onF laA
      by_cases c1 : at_ W 6 i ≤ 0
      · simp only [rfB_r, kk, eq_self, if_true, f5, bnO_s, nm_x]
        rw [if_pos c1, decide_eq_false (show ¬ (0 < at_ W 6 i ∧ fOf W (at_ W 6 i) = f) from fun q => by omega), if_neg Bool.false_ne_true]
      · simp only [rfB_r, kk, eq_self, if_true, f5, f4, bnO_s, nm_x, h1.k, l_form h1 hV (p := at_ W 6 i) (by omega) (by omega), h1.ti hV]
        rw [if_neg c1]
        by_cases c2 : fOf W (at_ W 6 i) = f
        · rw [if_pos c2, decide_eq_true (show 0 < at_ W 6 i ∧ fOf W (at_ W 6 i) = f from ⟨by omega, c2⟩), if_pos rfl]
          by_cases c3 : at_ W 5 i ≤ tm W
          · rw [if_pos c3, decide_eq_false (by omega), if_neg Bool.false_ne_true]
          · rw [if_neg c3, decide_eq_true (by omega), if_pos rfl]
        · rw [if_neg c2, decide_eq_false (fun q => c2 q.2), if_neg Bool.false_ne_true])
    (xA P).length FU 0 0 L1 (by omega) (Int.le_refl _) (FU_big (by omega)) hit hs
  refine ⟨L2, ?_, l, k⟩
  rw [it_sum (by unfold inR; omega), Int.zero_add, show (xA P).length = (nA W).toNat by omega] at e
  exact e
theorem l_late2 (h : HP L P W) (hV : Val W) {f z : Int} (hz : inR z) {t : Nat} {L1 : List PC} (hs : Sf F0_ L L1) (ht : nCell + L.length ≤ t) (hit : ItH L1 t (pS P).1 (pS P).2.2.1 0) : ∃ L2, lo2_LP_late_82 (pT P) f t FU (z, (S, L1)) = some ((wr (z + sumS W (fun s => if laS W s = true then (if hasPg W s f = true then 1 else 0) else 0)), (S, L2)), 0, 0) ∧ L2.length = L1.length ∧ Sf F0_ L L2 := by
  have b := hV.z
  have hlen : ((xS P).length : Int) = nS W := h.2.1.2.1
  obtain ⟨L2, e, l, k⟩ := fe_loop (body := fun go p => lb2_LP_late_82 (pT P) f t go p.1 p.2.1 p.2.2) (S := S) (a := (pS P).1) (r := (pS P).2.1) (t := t) (cp := (pS P).2.2.2.1) (m := (pS P).2.2.1) (xs := xS P) (fun (s : Int) z => (s, z)) (fun s z => (s, z)) (fun i a => wr (a + (if laS W i = true then (if hasPg W i f = true then 1 else 0) else 0))) (fun _ _ K => Sf F0_ L K)
    (fun i s K hK => (h.sf0 hK).lS)
    (fun go s K hK hk hn => by
      show lb2_LP_late_82 (pT P) f t go s S K = _
      unfold lb2_LP_late_82
      rw [if_pos hk, hn, bnO_s, if_neg Bool.false_ne_true])
    (fun go i s K x K1 hK h0 hx hk hn hnx hw => by
      have hK1 := rd_keep hK hw ht
      have h1 := h.sf0 hK1
      have hl := (List.getElem?_eq_some_iff.mp hx).1
      obtain ⟨kk, f0, f1, f2, f3, f4, f5, f6⟩ := st_f hV (i := i) ⟨h0, by omega⟩ (h1.1.2.2.2.1 _ _ hx)
      refine ⟨K1, ?_, hw.1, rfl, hK1⟩
      show lb2_LP_late_82 (pT P) f t go s S K = go (_, (S, K1))
      unfold lb2_LP_late_82
      rw [if_pos hk, hn, bnO_s, if_pos rfl, if_pos hk, hnx, bnO_s]
      show adC 0 0 _ = _
      rw [adC00]
      unfold laS
      simp only [rfB_r, kk, eq_self, if_true, f4, bnO_s, nm_x, h1.k, h1.ti hV, l_touches h1 hV (s := i) ⟨h0, by omega⟩ hx]
      by_cases c3 : at_ W 10 i ≤ tm W
      · rw [if_pos c3, decide_eq_false (by omega), if_neg Bool.false_ne_true]
      · rw [if_neg c3, decide_eq_true (by omega), if_pos rfl]
        by_cases c4 : hasPg W i f = true
        · rw [if_pos c4, if_pos c4]
        · rw [if_neg c4, if_neg c4])
    (xS P).length FU 0 z L1 (by omega) (Int.le_refl _) (FU_big (by omega)) hit hs
  refine ⟨L2, ?_, l, k⟩
  rw [it_sum hz, show (xS P).length = (nS W).toNat by omega] at e
  exact e
theorem N1.sf0 {r : Nat} {c : PC} (h : N1 L L' r c) : Sf F0_ L L' := Sf.refl.n h
theorem l_late (h : HP L P W) (hV : Val W) {f : Int} (hL : L.length < 800000000) : ∃ L', gn_LP_late (pT P) f S L = some ((latF W f, (S, L')), 2, 8) ∧ L'.length = L.length + 2 ∧ Sf F0_ L L' := by
  obtain ⟨t1, L1, e1, n1⟩ := k_iter (S := S) h.lA (by omega)
  obtain ⟨L2, e2, l2, s2⟩ := l_late1 (S := S) h hV (f := f) n1.sf0 (by rw [n1.1]; exact Nat.le_refl _) ⟨_, n1.at⟩
  have h2 := h.sf0 s2
  have ll : L2.length = L.length + 1 := l2.trans n1.2.1
  obtain ⟨t3, L3, e3, n3⟩ := k_iter (S := S) h2.lS (by omega)
  obtain ⟨L4, e4, l4, s4⟩ := l_late2 (S := S) h2 hV (f := f) (wr_in _) n3.sf0 (by rw [n3.1]; exact Nat.le_refl _) ⟨_, n3.at⟩
  refine ⟨L4, ?_, by rw [l4, n3.2.1, ll], s2.trans s4⟩
  unfold gn_LP_late
  rw [h.fA, bnO_s, rfB_r, if_pos h.kA, e1, bnO_s]
  show adC 1 4 (bnO (lo2_LP_late_10 (pT P) f t1 FU (0, (S, L1))) _) = _
  rw [e2, bnO_s]
  show adC 1 4 (adC 0 0 (bnO (gfV L2 (pT P) 12 5) _)) = _
  rw [h2.fS, bnO_s, rfB_r, if_pos h2.kS, e3, bnO_s]
  show adC 1 4 (adC 0 0 (adC 1 4 (bnO (lo2_LP_late_82 (pT P) f t3 FU (wr (sumA W _), (S, L3))) _))) = _
  rw [e4, wr_add]
  rfl
theorem bi_if {c : Prop} [Decidable c] {α : Type} {x y : α} (b : Bool) (h : b = true ↔ c) : (if c then x else y) = if b = true then x else y := by
  by_cases q : c
  · rw [if_pos q, if_pos (h.mpr q)]
  · rw [if_neg q, if_neg (fun z => q (h.mp z))]
theorem it_any {p : Int → Bool} : ∀ {n : Nat} {i : Int} {b : Bool}, itR (fun i b => b || p i) i n b = (b || anyR p i n)
  | 0, _, b => by cases b <;> rfl
  | n + 1, i, b => by
    show itR _ (i + 1) n (b || p i) = (b || (p i || anyR p (i + 1) n))
    rw [it_any, Bool.or_assoc]
theorem l_hasC1 (h : HP L P W) (hV : Val W) {f : Int} {t : Nat} {L1 : List PC} (hs : Sf F0_ L L1) (ht : nCell + L.length ≤ t) (hit : ItH L1 t (pA P).1 (pA P).2.2.1 0) : ∃ L2, lo2_LP_hasColor_10 (pT P) f t FU (0, (S, L1)) = some ((bi (anyA W (fun a => onF W a f && decide (at_ W 2 a = 1))), (S, L2)), 0, 0) ∧ L2.length = L1.length ∧ Sf F0_ L L2 := by
  have b := hV.z
  have hlen : ((xA P).length : Int) = nA W := h.2.1.1
  obtain ⟨L2, e, l, k⟩ := fe_loop (body := fun go p => lb2_LP_hasColor_10 (pT P) f t go p.1 p.2.1 p.2.2) (S := S) (a := (pA P).1) (r := (pA P).2.1) (t := t) (cp := (pA P).2.2.2.1) (m := (pA P).2.2.1) (xs := xA P) (fun (s : Bool) z => (bi s, z)) (fun s z => (bi s, z)) (fun i a => a || (onF W i f && decide (at_ W 2 i = 1))) (fun _ _ K => Sf F0_ L K)
    (fun i s K hK => (h.sf0 hK).lA)
    (fun go s K hK hk hn => by
      show lb2_LP_hasColor_10 (pT P) f t go (bi s) S K = _
      unfold lb2_LP_hasColor_10
      rw [if_pos hk, hn, bnO_s, if_neg Bool.false_ne_true])
    (fun go i s K x K1 hK h0 hx hk hn hnx hw => by
      have hK1 := rd_keep hK hw ht
      have h1 := h.sf0 hK1
      have hl := (List.getElem?_eq_some_iff.mp hx).1
      obtain ⟨kk, f0, f1, f2, f3, f4, f5, f6⟩ := ad_f hV (i := i) ⟨h0, by omega⟩ (h1.1.2.2.1 _ _ hx)
      have v := hV.2.1 i h0 (by omega)
      refine ⟨K1, ?_, hw.1, rfl, hK1⟩
      show lb2_LP_hasColor_10 (pT P) f t go (bi s) S K = go (bi _, (S, K1))
      unfold lb2_LP_hasColor_10
      rw [if_pos hk, hn, bnO_s, if_pos rfl, if_pos hk, hnx, bnO_s]
      show adC 0 0 _ = _
      rw [adC00, rfB_r]
      show (if isK K1 x 11 = true then _ else none) = _
      rw [if_pos kk]
      cases s with
      | true => rfl
      | false =>
        rw [if_pos (c := bi false = 0) rfl, Bool.false_or]
        unfold onF
        by_cases c1 : at_ W 2 i = 0
        · simp only [f6, bnO_s]
          rw [if_pos c1, decide_eq_false (show ¬ at_ W 2 i = 1 by omega), Bool.and_false]; rfl
        · rw [decide_eq_true (show at_ W 2 i = 1 by omega), Bool.and_true]
          by_cases c2 : at_ W 6 i ≤ 0
          · simp only [f6, f5, bnO_s]
            rw [if_neg c1, if_pos c2, decide_eq_false (fun q => by omega)]; rfl
          · simp only [f6, f5, bnO_s, h1.k, eq_self, if_true, l_form h1 hV (p := at_ W 6 i) (by omega) (by omega)]
            rw [if_neg c1, if_neg c2]
            by_cases c3 : fOf W (at_ W 6 i) = f
            · rw [if_pos c3, decide_eq_true ⟨by omega, c3⟩]; rfl
            · rw [if_neg c3, decide_eq_false (fun q => c3 q.2)]; rfl)
    (xA P).length FU 0 false L1 (by omega) (Int.le_refl _) (FU_big (by omega)) hit hs
  refine ⟨L2, ?_, l, k⟩
  rw [it_any, Bool.false_or, show (xA P).length = (nA W).toNat by omega] at e
  exact e
theorem l_hasC2 (h : HP L P W) (hV : Val W) {f : Int} {z : Bool} {t : Nat} {L1 : List PC} (hs : Sf F0_ L L1) (ht : nCell + L.length ≤ t) (hit : ItH L1 t (pS P).1 (pS P).2.2.1 0) : ∃ L2, lo2_LP_hasColor_80 (pT P) f t FU (bi z, (S, L1)) = some ((bi (z || anyS W (fun s => decide (at_ W 8 s = 1) && hasPg W s f)), (S, L2)), 0, 0) ∧ L2.length = L1.length ∧ Sf F0_ L L2 := by
  have b := hV.z
  have hlen : ((xS P).length : Int) = nS W := h.2.1.2.1
  obtain ⟨L2, e, l, k⟩ := fe_loop (body := fun go p => lb2_LP_hasColor_80 (pT P) f t go p.1 p.2.1 p.2.2) (S := S) (a := (pS P).1) (r := (pS P).2.1) (t := t) (cp := (pS P).2.2.2.1) (m := (pS P).2.2.1) (xs := xS P) (fun (s : Bool) z => (bi s, z)) (fun s z => (bi s, z)) (fun i a => a || (decide (at_ W 8 i = 1) && hasPg W i f)) (fun _ _ K => Sf F0_ L K)
    (fun i s K hK => (h.sf0 hK).lS)
    (fun go s K hK hk hn => by
      show lb2_LP_hasColor_80 (pT P) f t go (bi s) S K = _
      unfold lb2_LP_hasColor_80
      rw [if_pos hk, hn, bnO_s, if_neg Bool.false_ne_true])
    (fun go i s K x K1 hK h0 hx hk hn hnx hw => by
      have hK1 := rd_keep hK hw ht
      have h1 := h.sf0 hK1
      have hl := (List.getElem?_eq_some_iff.mp hx).1
      obtain ⟨kk, f0, f1, f2, f3, f4, f5, f6⟩ := st_f hV (i := i) ⟨h0, by omega⟩ (h1.1.2.2.2.1 _ _ hx)
      have v := hV.2.2.1 i h0 (by omega)
      refine ⟨K1, ?_, hw.1, rfl, hK1⟩
      show lb2_LP_hasColor_80 (pT P) f t go (bi s) S K = go (bi _, (S, K1))
      unfold lb2_LP_hasColor_80
      rw [if_pos hk, hn, bnO_s, if_pos rfl, if_pos hk, hnx, bnO_s]
      show adC 0 0 _ = _
      rw [adC00, rfB_r]
      show (if isK K1 x 11 = true then _ else none) = _
      rw [if_pos kk]
      cases s with
      | true => rfl
      | false =>
        rw [if_pos (c := bi false = 0) rfl, Bool.false_or]
        by_cases c1 : at_ W 8 i = 0
        · simp only [f6, bnO_s]
          rw [if_pos c1, decide_eq_false (show ¬ at_ W 8 i = 1 by omega), Bool.false_and]; rfl
        · rw [decide_eq_true (show at_ W 8 i = 1 by omega), Bool.true_and]
          simp only [f6, bnO_s, h1.k, eq_self, if_true, l_touches h1 hV (s := i) ⟨h0, by omega⟩ hx]
          rw [if_neg c1]
          cases hasPg W i f <;> rfl)
    (xS P).length FU 0 z L1 (by omega) (Int.le_refl _) (FU_big (by omega)) hit hs
  refine ⟨L2, ?_, l, k⟩
  rw [it_any, show (xS P).length = (nS W).toNat by omega] at e
  exact e
theorem l_hasColor (h : HP L P W) (hV : Val W) {f : Int} (hL : L.length < 800000000) : ∃ L', gn_LP_hasColor (pT P) f S L = some ((hasC W f, (S, L')), 2, 8) ∧ L'.length = L.length + 2 ∧ Sf F0_ L L' := by
  obtain ⟨t1, L1, e1, n1⟩ := k_iter (S := S) h.lA (by omega)
  obtain ⟨L2, e2, l2, s2⟩ := l_hasC1 (S := S) h hV (f := f) n1.sf0 (by rw [n1.1]; exact Nat.le_refl _) ⟨_, n1.at⟩
  have h2 := h.sf0 s2
  have ll : L2.length = L.length + 1 := l2.trans n1.2.1
  obtain ⟨t3, L3, e3, n3⟩ := k_iter (S := S) h2.lS (by omega)
  obtain ⟨L4, e4, l4, s4⟩ := l_hasC2 (S := S) h2 hV (f := f) (z := anyA W (fun a => onF W a f && decide (at_ W 2 a = 1))) n3.sf0 (by rw [n3.1]; exact Nat.le_refl _) ⟨_, n3.at⟩
  refine ⟨L4, ?_, by rw [l4, n3.2.1, ll], s2.trans s4⟩
  unfold gn_LP_hasColor
  rw [h.fA, bnO_s, rfB_r, if_pos h.kA, e1, bnO_s]
  show adC 1 4 (bnO (lo2_LP_hasColor_10 (pT P) f t1 FU (0, (S, L1))) _) = _
  rw [e2, bnO_s]
  show adC 1 4 (adC 0 0 (bnO (gfV L2 (pT P) 12 5) _)) = _
  rw [h2.fS, bnO_s, rfB_r, if_pos h2.kS, e3, bnO_s]
  show adC 1 4 (adC 0 0 (adC 1 4 (bnO (lo2_LP_hasColor_80 (pT P) f t3 FU (bi _, (S, L3))) _))) = _
  rw [e4, bnO_s]
  show adC 1 4 (adC 0 0 (adC 1 4 (adC 0 0 (if bi (hasC W f) = 0 ∨ bi (hasC W f) = 1 then some ((decide (bi (hasC W f) = 1), (S, L4)), 0, 0) else none)))) = _
  cases hasC W f <;> rfl
end Iter
