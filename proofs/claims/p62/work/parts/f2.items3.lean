/-! LATE ITEMS: the question -/
section Items3
variable {S : St} {L K : List PC} {P : PA} {W : Vw}
theorem stOp_0 (hV : Val W) {s : Int} (hs : 0 ≤ s ∧ s < nS W) (h : at_ W 11 s = 0) : stOp W s = false := by
  cases e : stOp W s with
  | false => rfl
  | true =>
    obtain ⟨f, -, -, -, q⟩ := (stOp_iff hV hs).mp e
    have := ((hasPg_iff hV hs).mp q).1
    omega
def lrP (W : Vw) (k : Nat) : Int := itR (lrF W) 0 k (-1)
theorem lrP_s {k : Nat} : lrP W (k + 1) = lrF W k (lrP W k) := by
  unfold lrP
  rw [itR_snoc, Int.zero_add]
/-- one item that is there -/
theorem l_it140 {L0 : List PC} {lst k len x : Nat} {ixs : List Nat} {go : Int × Int × Int × LZ → Option ((Int × LZ) × Nat × Nat)} {R : Int × LZ → Prop} (h0 : HP L0 P W) (hV : Val W) (hS : nS W ≤ 3) (hlst : nCell + L0.length ≤ lst) (hl : LtH L0 K W lst k len ixs) (hk : k < 110) (hi : itm W k = true) (ho : opn W k = true) (hx : gfI K x 11 4 = some (rdy W k)) (hK : K.length < 600000000)
    (hgo : ∀ K' ixs' len', LtH L0 K' W lst (k + 1) len' ixs' → (len' = len ∨ len' = len + 1) → K'.length = K.length + (gcn len' - gcn len) → Ok (go (lrP W (k + 1), rdB W (lrP W (k + 1)), ((k + 1 : Nat) : Int), (S, K'))) (5 - gcn len') (129 - gsn len') R) :
    Ok (jf2_Law_items_140_16 (pT P) lst go (lrP W k) (rdB W (lrP W k)) (k : Int) (.ref x) S K) (5 - gcn len) (129 - gsn len) R := by
  have rb := rdy_bd hV hi
  have e : lrP W (k + 1) = if rdy W k ≤ rdB W (lrP W k) then lrP W k else (k : Int) := by
    rw [lrP_s]
    show (if itm W (k : Int) = true then (if opn W (k : Int) = true then _ else _) else _) = _
    rw [if_pos hi, if_pos ho]
  rw [jf140, hx, bnO_s]
  by_cases c : rdy W k ≤ rdB W (lrP W k)
  · rw [if_pos c]
    rw [if_pos c] at e
    rw [e] at hgo
    exact l_inIt h0 hV hS hlst hl hk hi ho hx hK hgo
  · rw [if_neg c]
    rw [if_neg c] at e
    rw [e] at hgo
    have er : rdB W (k : Int) = rdy W k := by unfold rdB; rw [if_neg (by omega)]
    rw [er] at hgo
    rw [bnO_s]
    exact l_inIt h0 hV hS hlst hl hk hi ho hx hK hgo
theorem l_items16 {L0 : List PC} {lst : Nat} (h0 : HP L0 P W) (hV : Val W) (hS : nS W ≤ 3) (hlst : nCell + L0.length ≤ lst) {z0 : LZ} {K0 : List PC} (ez : z0 = (S, K0)) (hl0 : LtH L0 K0 W lst 0 0 []) (hK0 : K0.length < 500000000) :
    Ok (lo2_Law_items_16 (pT P) lst FU (-1, -1, 0, z0)) 5 129 (fun v => ∃ K ixs r m, v = (lrN W, (S, K)) ∧ SrtI W ixs 110 ∧ LsH K lst r m (rmN ixs.length) (ixs.map bx) ∧ (r < XB → nCell + L0.length ≤ r) ∧ Sf F0_ L0 K ∧ K.length ≤ K0.length + 5) := by
  have b := hV.z
  have q := lp_OkG (body := fun go z => lb2_Law_items_16 (pT P) lst go z.1 z.2.1 z.2.2.1 z.2.2.2.1 z.2.2.2.2) (R := fun v : Int × LZ => ∃ K ixs r m, v = (lrN W, (S, K)) ∧ SrtI W ixs 110 ∧ LsH K lst r m (rmN ixs.length) (ixs.map bx) ∧ (r < XB → nCell + L0.length ≤ r) ∧ Sf F0_ L0 K ∧ K.length ≤ K0.length + 5)
    (fun i : Nat × Nat => i.1) (fun i z => ∃ (K : List PC) (ixs : List Nat) (k : Nat), z = (lrP W k, rdB W (lrP W k), (k : Int), (S, K)) ∧ k + i.1 = 110 ∧ LtH L0 K W lst k i.2 ixs ∧ K.length = K0.length + gcn i.2) (fun i => 5 - gcn i.2) (fun i => 129 - gsn i.2)
    (fun go i z hz hgo => by
      obtain ⟨n, len⟩ := i
      obtain ⟨K, ixs, k, rfl, h1, h2, h3⟩ := hz
      have h1 : k + n = 110 := h1
      have h2 : LtH L0 K W lst k len ixs := h2
      have h3 : K.length = K0.length + gcn len := h3
      show Ok (lb2_Law_items_16 (pT P) lst go (lrP W k) (rdB W (lrP W k)) (k : Int) S K) (5 - gcn len) (129 - gsn len) _
      obtain ⟨r, m, t1, t2, t3, t4, t5, t6⟩ := h2
      have bm := bdI_m (k := k)
      have g0 := gs_le len (by omega)
      have hP := h0.sf0 t6
      have hA : ((xA P).length : Int) = nA W := h0.2.1.1
      have hSl : ((xS P).length : Int) = nS W := h0.2.1.2.1
      by_cases c0 : k = 110
      · unfold lb2_Law_items_16
        rw [if_pos (by omega)]
        rw [c0] at t1
        refine Ok.ret ⟨K, ixs, r, m, ?_, t1, t4, t5, t6, by omega⟩
        rw [c0]; rfl
      · have hk : k < 110 := by omega
        have i1 : wr ((k : Int) + 1) = ((k + 1 : Nat) : Int) := wr_s (by omega) (by omega)
        have go1 : ∀ K' ixs' len', LtH L0 K' W lst (k + 1) len' ixs' → (len' = len ∨ len' = len + 1) → K'.length = K.length + (gcn len' - gcn len) → Ok (go (lrP W (k + 1), rdB W (lrP W (k + 1)), ((k + 1 : Nat) : Int), (S, K'))) (5 - gcn len') (129 - gsn len') _ := fun K' ixs' len' q1 q2 q3 => hgo (n - 1, len') _ (by show n - 1 < n; omega) ⟨K', ixs', k + 1, rfl, by show k + 1 + (n - 1) = 110; omega, q1, by
          show K'.length = K0.length + gcn len'
          have gm := (gs_mono len (by omega) len' (by omega) (by omega)).2
          omega⟩
        -- a number that is skipped
        have skip : ltI W k = false → lrF W k (lrP W k) = lrP W k → Ok (nm (wr ((k : Int) + 1)) fun v12 => go (lrP W k, rdB W (lrP W k), v12, (S, K))) (5 - gcn len) (129 - gsn len) _ := fun q1 q2 => by
          rw [nm_x, i1]
          have e : lrP W (k + 1) = lrP W k := by rw [lrP_s, q2]
          have g := go1 K ixs len ⟨r, m, t1.skip q1, t2, by omega, t4, t5, t6⟩ (.inl rfl) (by omega)
          rw [e] at g
          exact g
        have none_ : itm W k = false → Ok (jf2_Law_items_91_16 (pT P) lst go (lrP W k) (rdB W (lrP W k)) (k : Int) .null S K) (5 - gcn len) (129 - gsn len) _ := fun q1 => by
          have q2 : ltI W k = false := by unfold ltI; rw [q1]; rfl
          have q3 : lrF W k (lrP W k) = lrP W k := by unfold lrF; rw [if_neg (by rw [q1]; exact Bool.false_ne_true)]
          exact skip q2 q3
        have shut_ : opn W k = false → Ok (nm (wr ((k : Int) + 1)) fun v12 => go (lrP W k, rdB W (lrP W k), v12, (S, K))) (5 - gcn len) (129 - gsn len) _ := fun q1 => by
          refine skip (by unfold ltI; rw [q1, Bool.and_false, Bool.and_false]) ?_
          unfold lrF
          rw [if_neg (c := opn W (k : Int) = true) (by rw [q1]; exact Bool.false_ne_true)]
          split <;> rfl
        have hl : LtH L0 K W lst k len ixs := ⟨r, m, t1, t2, t3, t4, t5, t6⟩
        unfold lb2_Law_items_16
        rw [if_neg (by omega), hP.fA, bnO_s, rfB_r, if_pos hP.kA, hP.cA, bnO_s]
        by_cases c1 : nA W ≤ k
        · rw [if_pos c1]
          by_cases c2 : (k : Int) < 100
          · rw [if_pos c2]
            refine none_ ?_
            unfold itm
            rw [decide_eq_false (by omega), decide_eq_false (by omega)]; rfl
          · rw [if_neg c2, hP.fS, bnO_s, rfB_r, if_pos hP.kS, hP.cS, bnO_s, nm_x, wr_s (z := (k : Int) - 100) (by omega) (by omega)]
            by_cases c3 : nS W ≤ (k : Int) - 100
            · rw [if_pos c3]
              refine none_ ?_
              unfold itm
              rw [decide_eq_false (by omega), decide_eq_false (by omega)]; rfl
            · have hs : 0 ≤ (k : Int) - 100 ∧ (k : Int) - 100 < nS W := by omega
              obtain ⟨x, hx, hg, hy⟩ := hP.st hs
              obtain ⟨kk, -, -, -, -, f4, f5, -⟩ := st_f hV hs hy
              have v := hV.2.2.1 _ hs.1 hs.2
              have him : itm W k = true := by
                have q := itm_st hV hs
                rw [show 100 + ((k : Int) - 100) = k by omega] at q
                exact q
              have hop : opn W k = stOp W ((k : Int) - 100) := by
                have q := opn_st (W := W) hs.1
                rw [show 100 + ((k : Int) - 100) = k by omega] at q
                exact q
              have hrd : rdy W k = at_ W 10 ((k : Int) - 100) := by
                have q := rdy_st (W := W) hs.1
                rw [show 100 + ((k : Int) - 100) = k by omega] at q
                exact q
              rw [if_neg c3, bnO_s, nm_x, rfB_r, if_pos hP.kS, hg, bnO_s, rfB_r, if_pos kk]
              show Ok (rfB (Value.ref x) fun r13 => bnO (gfI K r13 11 5) fun v14 => if v14 = 0 then (nm (wr ((k : Int) + 1)) fun v15 => go (lrP W k, rdB W (lrP W k), v15, (S, K))) else (if 100 ≤ (k : Int) then (if isK K (pT P) 12 = true then (bnO (gn_LP_open (pT P) r13 S K) fun p16 => if p16 = true then (jf2_Law_items_140_16 (pT P) lst go (lrP W k) (rdB W (lrP W k)) (k : Int) (.ref r13) S K) else (nm (wr ((k : Int) + 1)) fun v57 => go (lrP W k, rdB W (lrP W k), v57, (S, K)))) else none) else (bnO (gfI K r13 11 5) fun v58 => if isK K (pT P) 12 = true then (bnO (gn_LP_isShut (pT P) v58 S K) fun p59 => if p59 = true then (nm (wr ((k : Int) + 1)) fun v62 => go (lrP W k, rdB W (lrP W k), v62, (S, K))) else (jf2_Law_items_140_16 (pT P) lst go (lrP W k) (rdB W (lrP W k)) (k : Int) (.ref r13) S K)) else none))) _ _ _
              rw [rfB_r, f5, bnO_s]
              by_cases c4 : at_ W 11 ((k : Int) - 100) = 0
              · rw [if_pos c4]
                exact shut_ (by rw [hop]; exact stOp_0 hV hs c4)
              · rw [if_neg c4, if_pos (by omega), if_pos hP.k, l_open hP hV hs hx, bnO_s]
                by_cases c5 : stOp W ((k : Int) - 100) = true
                · rw [if_pos c5]
                  exact l_it140 h0 hV hS hlst hl hk him (by rw [hop]; exact c5) (by rw [hrd]; exact f4) (by omega) go1
                · rw [if_neg c5]
                  exact shut_ (by rw [hop]; exact Bool.eq_false_iff.mpr c5)
        · have ha : 0 ≤ (k : Int) ∧ (k : Int) < nA W := by omega
          obtain ⟨x, hx, hg, hy⟩ := hP.ad ha
          obtain ⟨kk, -, -, -, -, f4, f5, -⟩ := ad_f hV ha hy
          have v := hV.2.1 _ ha.1 ha.2
          have him : itm W k = true := itm_ad hV ha
          have hop : opn W k = if at_ W 6 k ≤ 0 then false else !prP W (at_ W 6 k) := opn_ad (by omega)
          have hrd : rdy W k = at_ W 5 k := rdy_ad (by omega)
          rw [if_neg c1, bnO_s, rfB_r, if_pos hP.kA, hg, bnO_s, rfB_r, if_pos kk]
          show Ok (rfB (Value.ref x) fun r13 => bnO (gfI K r13 11 5) fun v14 => if v14 = 0 then (nm (wr ((k : Int) + 1)) fun v15 => go (lrP W k, rdB W (lrP W k), v15, (S, K))) else (if 100 ≤ (k : Int) then (if isK K (pT P) 12 = true then (bnO (gn_LP_open (pT P) r13 S K) fun p16 => if p16 = true then (jf2_Law_items_140_16 (pT P) lst go (lrP W k) (rdB W (lrP W k)) (k : Int) (.ref r13) S K) else (nm (wr ((k : Int) + 1)) fun v57 => go (lrP W k, rdB W (lrP W k), v57, (S, K)))) else none) else (bnO (gfI K r13 11 5) fun v58 => if isK K (pT P) 12 = true then (bnO (gn_LP_isShut (pT P) v58 S K) fun p59 => if p59 = true then (nm (wr ((k : Int) + 1)) fun v62 => go (lrP W k, rdB W (lrP W k), v62, (S, K))) else (jf2_Law_items_140_16 (pT P) lst go (lrP W k) (rdB W (lrP W k)) (k : Int) (.ref r13) S K)) else none))) _ _ _
          rw [rfB_r, f5, bnO_s]
          by_cases c4 : at_ W 6 k = 0
          · rw [if_pos c4]
            exact shut_ (by rw [hop, if_pos (by omega)])
          · rw [if_neg c4, if_neg (by omega), bnO_s, if_pos hP.k, l_isShut hP hV (by omega) (by omega), bnO_s]
            rw [if_neg (by omega)] at hop
            by_cases c5 : prP W (at_ W 6 k) = true
            · rw [if_pos c5]
              exact shut_ (by rw [hop, c5]; rfl)
            · rw [if_neg c5]
              exact l_it140 h0 hV hS hlst hl hk him (by rw [hop, Bool.eq_false_iff.mpr c5]; rfl) (by rw [hrd]; exact f4) (by omega) go1)
    FU (110, 0) (-1, -1, 0, z0) ⟨K0, [], 0, by rw [ez]; rfl, rfl, hl0, rfl⟩ (FU_big (by decide))
  exact q
theorem l_items238 {lst r : Nat} {m a3 : Int} {ixs : List Nat} {cp : Nat} (hV : Val W) (hT : PT S 5 W) (hs : SrtI W ixs 110) (hl : LsH K lst r m cp (ixs.map bx)) : ∀ (n N k : Nat), k + n = ixs.length + 1 → n < N → lp (fun go p => lb2_Law_items_238 lst a3 go p.1 p.2.1 p.2.2) N ((k : Int), (S, K)) = some (.inr (S, K), 0, 0)
  | 0, N + 1, k, hk, _ => by
    have hsz := k_size (S := S) hl
    rw [List.length_map] at hsz
    rw [lp_succ]
    show lb2_Law_items_238 lst a3 _ (k : Int) S K = _
    unfold lb2_Law_items_238
    rw [if_pos hl.k, hsz, bnO_s, if_pos (by omega)]
  | n + 1, N + 1, k, hk, hN => by
    have hsz := k_size (S := S) hl
    have hln := hl.len
    rw [List.length_map] at hsz hln
    have i1 : wr ((k : Int) + 1) = ((k + 1 : Nat) : Int) := wr_s (by omega) (by omega)
    rw [lp_succ, ← l_items238 (a3 := a3) hV hT hs hl n N (k + 1) (by omega) (by omega)]
    show lb2_Law_items_238 lst a3 _ (k : Int) S K = _
    unfold lb2_Law_items_238
    rw [if_pos hl.k, hsz, bnO_s, if_neg (by omega), li_class hT, bnO_s, if_pos hl.k, bnO_s]
    by_cases c : ixs.length = k
    · rw [if_pos (by omega), hs.none (.inr (by omega)), if_pos rfl, nm_x, i1]
    · obtain ⟨x, hx⟩ : ∃ x, ixs[k]? = some x := ⟨_, List.getElem?_eq_getElem (by omega)⟩
      have hm := hs.1 x (List.mem_of_getElem? hx)
      have hg := k_get (S := S) hl (i := (k : Int)) (x := bx x) (by omega) (by rw [Int.toNat_natCast, List.getElem?_map, hx]; rfl)
      obtain ⟨kb, kv⟩ := k_box (S := S) (L := K) (k := x) (by omega)
      rw [if_neg (by omega), hs.val hV hx, if_pos hl.k, hg, bnO_s, rfB_r, if_pos kb, if_pos kb, kv, bnO_s, if_pos rfl, nm_x, i1]
theorem l_items (h : HP L P W) (hG : Good W) (hS : nS W ≤ 3) (hT : PT S 5 W) (hL : L.length < 400000000) : Ok (gn_Law_items (pT P) S L) 6 132 (fun v => ∃ L', v = (true, (S, L')) ∧ Sf F0_ L L' ∧ L'.length ≤ L.length + 6) := by
  have hV := hG.1
  obtain ⟨A1, e1, n1, hl1⟩ := k_newL (S := S) (L := L) (by omega)
  have l1 := n1.2.1
  unfold gn_Law_items
  rw [if_pos (by omega), nw_x, e1, bnO_s]
  refine Ok.ad (c := 1) (s := 3) (by omega) (by omega) ?_
  refine Ok.ad (c := 0) (s := 0) (Nat.zero_le _) (Nat.zero_le _) ?_
  have o := l_items16 (S := S) (lst := nCell + L.length) (z0 := (S, A1)) h hV hS (Nat.le_refl _) rfl ⟨XB + 300 + 300, 0, ⟨(fun x hx => nomatch hx), List.Pairwise.nil, (fun x hx => absurd hx (Nat.not_lt_zero _))⟩, rfl, Nat.zero_le _, hl1, (fun z => by omega), n1.sf0⟩ (by omega)
  show Ok (bnO (lo2_Law_items_16 (pT P) (nCell + L.length) FU (-1, -1, 0, (S, A1))) _) _ _ _
  refine Ok.bind o (by omega) (by omega) ?_
  rintro v cc ss ⟨K, ixs, r, m, rfl, q1, q2, q3, q4, q5⟩
  have elr := lr_class hT
  generalize lrN W = zz at elr ⊢
  have e2 := l_items238 (S := S) (a3 := zz) hV hT q1 q2 (ixs.length + 1) FU 0 (Nat.zero_add _) (FU_big (by have := q2.len; rw [List.length_map] at this; omega))
  dsimp only
  rw [show lo2_Law_items_238 (nCell + L.length) zz FU (0, (S, K)) = some (.inr (S, K), 0, 0) from e2]
  unfold bnT
  rw [bnO_s]
  show Ok (adC 0 0 (bnO (fn_FP_lastReady 0 S) _)) _ _ _
  rw [adC00, elr, bnO_s, if_pos rfl, li_class hT, bnO_s, q1.none (.inl (by decide)), if_pos rfl]
  exact Ok.ret ⟨K, rfl, q4, by omega⟩
end Items3
