theorem bi_01 (b : Bool) : bi b = 0 ∨ bi b = 1 := by cases b <;> simp [bi]
theorem cato {v : Value} (h : v = .null ∨ ∃ b, v = .ref b) : v.category = 1 := by rcases h with rfl | ⟨_, rfl⟩ <;> rfl
theorem q_758 : Cond.sameField "java/util/ArrayList" "java/util/AbstractList" "modCount" "I" ∈ gtbl := gt4 (i := 38) rfl rfl
def gn_AbC_init (c0 : Nat) (S : St) (L : List PC) : Option (Unit) := some ()
theorem te_AbC_init {sc : SC} {c0 : Nat} {S : St} {L : List PC} {q : Unit} (h : gn_AbC_init c0 S L = some q) {mc ms k n : Nat} (hk0 : k ≤ mc) (hn0 : n ≤ ms) : GX sc M_AbC_init mc ms 0 [(0, .ref c0)] [] (wz (S, L)) k n (KXU (S, L)) := by
  unfold gn_AbC_init at h
  refine x_aloadn (pc := 0) (i0 := 0) (j := 0) (dK D_AbC_init 0 rfl) rfl rfl ?_
  refine x_objinit (pc := 1) (dK D_AbC_init 1 rfl) q_749 (leK rfl) (leK rfl) (leK rfl) ?_
  exact wx_ret (pc := 4) (dK D_AbC_init 2 rfl) rfl hk0 hn0
theorem tg_AbC_init {sc : SC} {c0 : Nat} {S : St} {L : List PC} {q : Unit} (h : gn_AbC_init c0 S L = some q) : EvX sc M_AbC_init [.ref c0] (wz (S, L)) 0 0 (KXU (S, L)) := EvX.of pn2_AbC rfl (leK rfl) (te_AbC_init  h (Nat.le_refl _) (Nat.le_refl _))
def gn_AbL_init (c0 : Nat) (S : St) (L : List PC) : Option ((LZ) × Nat × Nat) := bnO (gn_AbC_init c0 S L) fun p1 => bnO (pf L c0 13 2 (V 0)) fun L2 => some ((S, L2), 0, 0)
theorem te_AbL_init {sc : SC} {c0 : Nat} {S : St} {L : List PC} {q : (LZ) × Nat × Nat} (h : gn_AbL_init c0 S L = some q) {mc ms k n : Nat} (hb : Bd k n mc ms q) : GX sc M_AbL_init mc ms 0 [(0, .ref c0)] [] (wz (S, L)) k n (KXU q.1) := by
  unfold gn_AbL_init at h
  refine x_aloadn (pc := 0) (i0 := 0) (j := 0) (dK D_AbL_init 0 rfl) rfl rfl ?_
  refine bnE h (fun p1 e_p1 h => ?_)
  refine x_callI (pc := 1) (As := []) (rest := []) (mc' := 0) (ms' := 0) (dK D_AbL_init 1 rfl) Q_AbL_1 (fitK rfl) rfl (leK rfl) (bdk hb) (bdn hb) (tg_AbC_init  e_p1) (kxU ?_)
  refine x_aloadn (pc := 4) (i0 := 0) (j := 0) (dK D_AbL_init 2 rfl) rfl rfl ?_
  refine wx_iconst (pc := 5) (dK D_AbL_init 3 rfl) ?_
  refine bnE h (fun L2 e_L2 h => ?_)
  refine wx_put (Z := (S, L)) (pc := 6) (ci := 13) (f := 2) e_L2 (dK D_AbL_init 4 rfl) q_756 (ltK rfl) (ltK rfl) rfl okInt ?_
  obtain rfl := Option.some.inj h
  exact wx_ret (pc := 9) (dK D_AbL_init 5 rfl) rfl (bdk hb) (bdn hb)
theorem tg_AbL_init {sc : SC} {c0 : Nat} {S : St} {L : List PC} {q : (LZ) × Nat × Nat} (h : gn_AbL_init c0 S L = some q) : EvX sc M_AbL_init [.ref c0] (wz (S, L)) q.2.1 q.2.2 (KXU q.1) := EvX.of pn2_AbL rfl (leK rfl) (te_AbL_init  h ⟨Nat.le_of_eq (Nat.zero_add _), Nat.le_of_eq (Nat.zero_add _)⟩)
def gn_Itr_hasNext (c0 : Nat) (S : St) (L : List PC) : Option (Bool) := bnO (gfI L c0 14 0) fun v1 => bnO (gfV L c0 14 3) fun v2 => rfB v2 fun r3 => bnO (gfI L r3 13 1) fun v4 => if v1 = v4 then (some false) else (some true)
theorem te_Itr_hasNext {sc : SC} {c0 : Nat} {S : St} {L : List PC} {q : Bool} (h : gn_Itr_hasNext c0 S L = some q) {mc ms k n : Nat} (hk0 : k ≤ mc) (hn0 : n ≤ ms) : GX sc M_Itr_hasNext mc ms 0 [(0, .ref c0)] [] (wz (S, L)) k n (KXB q (S, L)) := by
  unfold gn_Itr_hasNext at h
  refine x_aloadn (pc := 0) (i0 := 0) (j := 0) (dK D_Itr_hasNext 0 rfl) rfl rfl ?_
  refine bnE h (fun v1 e_v1 h => ?_)
  refine wx_getI (pc := 1) (ci := 14) (f := 0) e_v1 (dK D_Itr_hasNext 1 rfl) q_825 (ltK rfl) (ltK rfl) ?_
  refine x_aloadn (pc := 4) (i0 := 0) (j := 0) (dK D_Itr_hasNext 2 rfl) rfl rfl ?_
  refine bnE h (fun v2 e_v2 h => ?_)
  refine wx_getV (pc := 5) (ci := 14) (f := 3) e_v2 (dK D_Itr_hasNext 3 rfl) q_828 (ltK rfl) (ltK rfl) (fun hv2 => ?_)
  refine rfE h (fun r3 e_r3 h => ?_)
  rw [e_r3]
  refine bnE h (fun v4 e_v4 h => ?_)
  refine wx_getSz (pc := 8) rfl e_v4 (dK D_Itr_hasNext 4 rfl) ?_
  refine wx_icmp_eq (pc := 11) (t := 18) (dK D_Itr_hasNext 5 rfl) rfl (vI_at e_v1).2 (vI_at e_v4).2 (fun hc5 => ?_) (fun hc5 => ?_)
  · replace h := ifP h hc5
    refine wx_iconst (pc := 18) (dK D_Itr_hasNext 8 rfl) ?_
    obtain rfl := Option.some.inj h
    exact wx_iretB (pc := 19) (b := false) (dK D_Itr_hasNext 9 rfl) rfl hk0 hn0
  · replace h := ifN h hc5
    refine wx_iconst (pc := 14) (dK D_Itr_hasNext 6 rfl) ?_
    refine x_goto (pc := 15) (tgt := 19) (dK D_Itr_hasNext 7 rfl) rfl ?_
    obtain rfl := Option.some.inj h
    exact wx_iretB (pc := 19) (b := true) (dK D_Itr_hasNext 9 rfl) rfl hk0 hn0
theorem tg_Itr_hasNext {sc : SC} {c0 : Nat} {S : St} {L : List PC} {q : Bool} (h : gn_Itr_hasNext c0 S L = some q) : EvX sc M_Itr_hasNext [.ref c0] (wz (S, L)) 0 0 (KXB q (S, L)) := EvX.of pn2_Itr rfl (leK rfl) (te_Itr_hasNext  h (Nat.le_refl _) (Nat.le_refl _))
def gn_Itr_checkForComodification (c0 : Nat) (S : St) (L : List PC) : Option (Unit) := bnO (gfV L c0 14 3) fun v1 => rfB v1 fun r2 => bnO (gfI L r2 13 2) fun v3 => bnO (gfI L c0 14 2) fun v4 => if v3 = v4 then (some ()) else none
theorem te_Itr_checkForComodification {sc : SC} {c0 : Nat} {S : St} {L : List PC} {q : Unit} (h : gn_Itr_checkForComodification c0 S L = some q) {mc ms k n : Nat} (hk0 : k ≤ mc) (hn0 : n ≤ ms) : GX sc M_Itr_checkForComodification mc ms 0 [(0, .ref c0)] [] (wz (S, L)) k n (KXU (S, L)) := by
  unfold gn_Itr_checkForComodification at h
  refine x_aloadn (pc := 0) (i0 := 0) (j := 0) (dK D_Itr_checkForComodification 0 rfl) rfl rfl ?_
  refine bnE h (fun v1 e_v1 h => ?_)
  refine wx_getV (pc := 1) (ci := 14) (f := 3) e_v1 (dK D_Itr_checkForComodification 1 rfl) q_828 (ltK rfl) (ltK rfl) (fun hv1 => ?_)
  refine rfE h (fun r2 e_r2 h => ?_)
  rw [e_r2]
  refine bnE h (fun v3 e_v3 h => ?_)
  refine wx_getIR (pc := 4) (f := 2) e_v3 (dK D_Itr_checkForComodification 2 rfl) q_757 q_758 (ltK rfl) ?_
  refine x_aloadn (pc := 7) (i0 := 0) (j := 0) (dK D_Itr_checkForComodification 3 rfl) rfl rfl ?_
  refine bnE h (fun v4 e_v4 h => ?_)
  refine wx_getI (pc := 8) (ci := 14) (f := 2) e_v4 (dK D_Itr_checkForComodification 4 rfl) q_827 (ltK rfl) (ltK rfl) ?_
  refine wx_icmp_eq (pc := 11) (t := 22) (dK D_Itr_checkForComodification 5 rfl) rfl (vI_at e_v3).2 (vI_at e_v4).2 (fun hc5 => ?_) (fun hc5 => ?_)
  · replace h := ifP h hc5
    exact wx_ret (pc := 22) (dK D_Itr_checkForComodification 10 rfl) rfl hk0 hn0
  · replace h := ifN h hc5
    exact nomatch h
theorem tg_Itr_checkForComodification {sc : SC} {c0 : Nat} {S : St} {L : List PC} {q : Unit} (h : gn_Itr_checkForComodification c0 S L = some q) : EvX sc M_Itr_checkForComodification [.ref c0] (wz (S, L)) 0 0 (KXU (S, L)) := EvX.of pn2_Itr rfl (leK rfl) (te_Itr_checkForComodification  h (Nat.le_refl _) (Nat.le_refl _))
def gn_LI_init (c0 : Nat) (S : St) (L : List PC) : Option (Unit) := some ()
theorem te_LI_init {sc : SC} {c0 : Nat} {S : St} {L : List PC} {q : Unit} (h : gn_LI_init c0 S L = some q) {mc ms k n : Nat} (hk0 : k ≤ mc) (hn0 : n ≤ ms) : GX sc M_LI_init mc ms 0 [(0, .ref c0)] [] (wz (S, L)) k n (KXU (S, L)) := by
  unfold gn_LI_init at h
  refine x_aloadn (pc := 0) (i0 := 0) (j := 0) (dK D_LI_init 0 rfl) rfl rfl ?_
  refine x_objinit (pc := 1) (dK D_LI_init 1 rfl) q_871 (leK rfl) (leK rfl) (leK rfl) ?_
  exact wx_ret (pc := 4) (dK D_LI_init 2 rfl) rfl hk0 hn0
theorem tg_LI_init {sc : SC} {c0 : Nat} {S : St} {L : List PC} {q : Unit} (h : gn_LI_init c0 S L = some q) : EvX sc M_LI_init [.ref c0] (wz (S, L)) 0 0 (KXU (S, L)) := EvX.of pn2_LI rfl (leK rfl) (te_LI_init  h (Nat.le_refl _) (Nat.le_refl _))
def gn_ArS_newLength (a0 : Int) (a1 : Int) (a2 : Int) (S : St) (L : List PC) : Option (Int) := nm (wr (a0 + (i_max a1 a2))) fun v1 => if v1 ≤ 0 then none else (if 2147483639 < v1 then none else (some v1))
theorem te_ArS_newLength {sc : SC} {a0 : Int} (ha0 : inR a0) {a1 : Int} (ha1 : inR a1) {a2 : Int} (ha2 : inR a2) {S : St} {L : List PC} {q : Int} (h : gn_ArS_newLength a0 a1 a2 S L = some q) {mc ms k n : Nat} (hk0 : k ≤ mc) (hn0 : n ≤ ms) : GX sc M_ArS_newLength mc ms 0 [(0, V a0), (1, V a1), (2, V a2)] [] (wz (S, L)) k n (KXI q (S, L)) := by
  unfold gn_ArS_newLength at h
  refine x_iloadn (pc := 0) (i0 := 0) (j := 0) (dK D_ArS_newLength 0 rfl) rfl rfl ?_
  refine x_iloadn (pc := 1) (i0 := 1) (j := 1) (dK D_ArS_newLength 1 rfl) rfl rfl ?_
  refine x_iloadn (pc := 2) (i0 := 2) (j := 2) (dK D_ArS_newLength 2 rfl) rfl rfl ?_
  refine wx_mmax (pc := 3) (dK D_ArS_newLength 3 rfl) q_927 (leK rfl) (leK rfl) hk0 hn0 ha1 ha2 ?_
  refine wx_iadd (pc := 6) (dK D_ArS_newLength 4 rfl) ?_
  refine nmE h (fun v1 e_v1 h => ?_)
  refine wtop e_v1 ?_
  refine x_istoren (pc := 7) (i0 := 3) (ls2 := [(3, V v1), (0, V a0), (1, V a1), (2, V a2)]) (dK D_ArS_newLength 5 rfl) rfl (ltK rfl) rfl ?_
  refine wx_iconst (pc := 8) (dK D_ArS_newLength 6 rfl) ?_
  refine x_iloadn (pc := 9) (i0 := 3) (j := 0) (dK D_ArS_newLength 7 rfl) rfl rfl ?_
  refine wx_icmp_ge (pc := 10) (t := 21) (dK D_ArS_newLength 8 rfl) rfl (inRk rfl) (Vn_in e_v1) (fun hc3 => ?_) (fun hc3 => ?_)
  · replace h := ifP h hc3
    exact nomatch h
  · replace h := ifN h hc3
    refine x_iloadn (pc := 13) (i0 := 3) (j := 0) (dK D_ArS_newLength 9 rfl) rfl rfl ?_
    refine wx_ldc (pc := 14) (y := 2147483639) (dK D_ArS_newLength 10 rfl) q_930 rfl ?_
    refine wx_icmp_gt (pc := 16) (t := 21) (dK D_ArS_newLength 11 rfl) rfl (Vn_in e_v1) (inRk rfl) (fun hc2 => ?_) (fun hc2 => ?_)
    · replace h := ifP h hc2
      exact nomatch h
    · replace h := ifN h hc2
      refine x_iloadn (pc := 19) (i0 := 3) (j := 0) (dK D_ArS_newLength 12 rfl) rfl rfl ?_
      obtain rfl := Option.some.inj h
      exact wx_iretI (pc := 20) (Vn_in e_v1) (dK D_ArS_newLength 13 rfl) rfl hk0 hn0
theorem tg_ArS_newLength {sc : SC} {a0 : Int} (ha0 : inR a0) {a1 : Int} (ha1 : inR a1) {a2 : Int} (ha2 : inR a2) {S : St} {L : List PC} {q : Int} (h : gn_ArS_newLength a0 a1 a2 S L = some q) : EvX sc M_ArS_newLength [V a0, V a1, V a2] (wz (S, L)) 0 0 (KXI q (S, L)) := EvX.of pn2_ArS rfl (leK rfl) (te_ArS_newLength ha0 ha1 ha2 h (Nat.le_refl _) (Nat.le_refl _))
def gn_Preconditions_checkIndex (a0 : Int) (a1 : Int) (c2 : Value) (S : St) (L : List PC) : Option (Int) := if a0 < 0 then none else (if a0 < a1 then (some a0) else none)
theorem te_Preconditions_checkIndex {sc : SC} {a0 : Int} (ha0 : inR a0) {a1 : Int} (ha1 : inR a1) {c2 : Value} (hc2 : c2 = .null ∨ ∃ b, c2 = .ref b) {S : St} {L : List PC} {q : Int} (h : gn_Preconditions_checkIndex a0 a1 c2 S L = some q) {mc ms k n : Nat} (hk0 : k ≤ mc) (hn0 : n ≤ ms) : GX sc M_Preconditions_checkIndex mc ms 0 [(0, V a0), (1, V a1), (2, c2)] [] (wz (S, L)) k n (KXI q (S, L)) := by
  unfold gn_Preconditions_checkIndex at h
  refine x_iloadn (pc := 0) (i0 := 0) (j := 0) (dK D_Preconditions_checkIndex 0 rfl) rfl rfl ?_
  refine wx_if_lt (pc := 1) (t := 9) (dK D_Preconditions_checkIndex 1 rfl) rfl ha0 (fun hc2 => ?_) (fun hc2 => ?_)
  · replace h := ifP h hc2
    exact nomatch h
  · replace h := ifN h hc2
    refine x_iloadn (pc := 4) (i0 := 0) (j := 0) (dK D_Preconditions_checkIndex 2 rfl) rfl rfl ?_
    refine x_iloadn (pc := 5) (i0 := 1) (j := 1) (dK D_Preconditions_checkIndex 3 rfl) rfl rfl ?_
    refine wx_icmp_lt (pc := 6) (t := 16) (dK D_Preconditions_checkIndex 4 rfl) rfl ha0 ha1 (fun hc1 => ?_) (fun hc1 => ?_)
    · replace h := ifP h hc1
      refine x_iloadn (pc := 16) (i0 := 0) (j := 0) (dK D_Preconditions_checkIndex 10 rfl) rfl rfl ?_
      obtain rfl := Option.some.inj h
      exact wx_iretI (pc := 17) ha0 (dK D_Preconditions_checkIndex 11 rfl) rfl hk0 hn0
    · replace h := ifN h hc1
      exact nomatch h
theorem tg_Preconditions_checkIndex {sc : SC} {a0 : Int} (ha0 : inR a0) {a1 : Int} (ha1 : inR a1) {c2 : Value} (hc2 : c2 = .null ∨ ∃ b, c2 = .ref b) {S : St} {L : List PC} {q : Int} (h : gn_Preconditions_checkIndex a0 a1 c2 S L = some q) : EvX sc M_Preconditions_checkIndex [V a0, V a1, c2] (wz (S, L)) 0 0 (KXI q (S, L)) := by
  rcases hc2 with e_c2 | ⟨b_c2, e_c2⟩ <;> subst e_c2 <;>
  exact EvX.of pn2_Prec rfl (leK rfl) (te_Preconditions_checkIndex ha0 ha1 (by first | exact .inl rfl | exact .inr ⟨_, rfl⟩) h (Nat.le_refl _) (Nat.le_refl _))
def gn_LP_pages (c0 : Nat) (S : St) (L : List PC) : Option (Int) := bnO (gfI L c0 12 0) fun v1 => bnO (gfI L c0 12 1) fun v2 => some (wr (v1 * v2))
theorem te_LP_pages {sc : SC} {c0 : Nat} {S : St} {L : List PC} {q : Int} (h : gn_LP_pages c0 S L = some q) {mc ms k n : Nat} (hk0 : k ≤ mc) (hn0 : n ≤ ms) : GX sc M_LP_pages mc ms 0 [(0, .ref c0)] [] (wz (S, L)) k n (KXI q (S, L)) := by
  unfold gn_LP_pages at h
  refine x_aloadn (pc := 0) (i0 := 0) (j := 0) (dK D_LP_pages 0 rfl) rfl rfl ?_
  refine bnE h (fun v1 e_v1 h => ?_)
  refine wx_getI (pc := 1) (ci := 12) (f := 0) e_v1 (dK D_LP_pages 1 rfl) q_767 (ltK rfl) (ltK rfl) ?_
  refine x_aloadn (pc := 4) (i0 := 0) (j := 0) (dK D_LP_pages 2 rfl) rfl rfl ?_
  refine bnE h (fun v2 e_v2 h => ?_)
  refine wx_getI (pc := 5) (ci := 12) (f := 1) e_v2 (dK D_LP_pages 3 rfl) q_769 (ltK rfl) (ltK rfl) ?_
  refine wx_imul (pc := 8) (dK D_LP_pages 4 rfl) ?_
  obtain rfl := Option.some.inj h
  refine wtop (x := (wr (v1 * v2))) rfl ?_
  exact wx_iretI (pc := 9) (wr_in _) (dK D_LP_pages 5 rfl) rfl hk0 hn0
theorem tg_LP_pages {sc : SC} {c0 : Nat} {S : St} {L : List PC} {q : Int} (h : gn_LP_pages c0 S L = some q) : EvX sc M_LP_pages [.ref c0] (wz (S, L)) 0 0 (KXI q (S, L)) := EvX.of pn2_LP rfl (leK rfl) (te_LP_pages  h (Nat.le_refl _) (Nat.le_refl _))
def gn_AL_size (c0 : Nat) (S : St) (L : List PC) : Option (Int) := bnO (gfI L c0 13 1) fun v1 => some v1
theorem te_AL_size {sc : SC} {c0 : Nat} {S : St} {L : List PC} {q : Int} (h : gn_AL_size c0 S L = some q) {mc ms k n : Nat} (hk0 : k ≤ mc) (hn0 : n ≤ ms) : GX sc M_AL_size mc ms 0 [(0, .ref c0)] [] (wz (S, L)) k n (KXI q (S, L)) := by
  unfold gn_AL_size at h
  refine x_aloadn (pc := 0) (i0 := 0) (j := 0) (dK D_AL_size 0 rfl) rfl rfl ?_
  refine bnE h (fun v1 e_v1 h => ?_)
  refine wx_getI (pc := 1) (ci := 13) (f := 1) e_v1 (dK D_AL_size 1 rfl) q_755 (ltK rfl) (ltK rfl) ?_
  obtain rfl := Option.some.inj h
  exact wx_iretI (pc := 4) (vI_at e_v1).2 (dK D_AL_size 2 rfl) rfl hk0 hn0
theorem tg_AL_size {sc : SC} {c0 : Nat} {S : St} {L : List PC} {q : Int} (h : gn_AL_size c0 S L = some q) : EvX sc M_AL_size [.ref c0] (wz (S, L)) 0 0 (KXI q (S, L)) := EvX.of pn2_AL rfl (leK rfl) (te_AL_size  h (Nat.le_refl _) (Nat.le_refl _))
def gn_Objs_checkIndex (a0 : Int) (a1 : Int) (S : St) (L : List PC) : Option (Int) := bnO (gn_Preconditions_checkIndex a0 a1 .null S L) fun p1 => some p1
theorem te_Objs_checkIndex {sc : SC} {a0 : Int} (ha0 : inR a0) {a1 : Int} (ha1 : inR a1) {S : St} {L : List PC} {q : Int} (h : gn_Objs_checkIndex a0 a1 S L = some q) {mc ms k n : Nat} (hk0 : k ≤ mc) (hn0 : n ≤ ms) : GX sc M_Objs_checkIndex mc ms 0 [(0, V a0), (1, V a1)] [] (wz (S, L)) k n (KXI q (S, L)) := by
  unfold gn_Objs_checkIndex at h
  refine x_iloadn (pc := 0) (i0 := 0) (j := 0) (dK D_Objs_checkIndex 0 rfl) rfl rfl ?_
  refine x_iloadn (pc := 1) (i0 := 1) (j := 1) (dK D_Objs_checkIndex 1 rfl) rfl rfl ?_
  refine x_null (pc := 2) (dK D_Objs_checkIndex 2 rfl) ?_
  refine bnE h (fun p1 e_p1 h => ?_)
  refine x_callS (pc := 3) (As := [V a0, V a1, .null]) (rest := []) (mc' := 0) (ms' := 0) (dK D_Objs_checkIndex 3 rfl) Q_Objs_105 (fitK rfl) rfl (leK rfl) hk0 hn0 (tg_Preconditions_checkIndex ha0 ha1 (.inl rfl) e_p1) (kxI' (fun h_p1 => ?_))
  obtain rfl := Option.some.inj h
  exact wx_iretI (pc := 6) h_p1 (dK D_Objs_checkIndex 4 rfl) rfl hk0 hn0
theorem tg_Objs_checkIndex {sc : SC} {a0 : Int} (ha0 : inR a0) {a1 : Int} (ha1 : inR a1) {S : St} {L : List PC} {q : Int} (h : gn_Objs_checkIndex a0 a1 S L = some q) : EvX sc M_Objs_checkIndex [V a0, V a1] (wz (S, L)) 0 0 (KXI q (S, L)) := EvX.of pn2_Objs rfl (leK rfl) (te_Objs_checkIndex ha0 ha1 h (Nat.le_refl _) (Nat.le_refl _))
def gn_Law_told (a0 : Int) (S : St) (L : List PC) : Option (Int) := if a0 = 0 then (some (-1)) else (some a0)
theorem te_Law_told {sc : SC} {a0 : Int} (ha0 : inR a0) {S : St} {L : List PC} {q : Int} (h : gn_Law_told a0 S L = some q) {mc ms k n : Nat} (hk0 : k ≤ mc) (hn0 : n ≤ ms) : GX sc M_Law_told mc ms 0 [(0, V a0)] [] (wz (S, L)) k n (KXI q (S, L)) := by
  unfold gn_Law_told at h
  refine x_iloadn (pc := 0) (i0 := 0) (j := 0) (dK D_Law_told 0 rfl) rfl rfl ?_
  refine wx_if_ne (pc := 1) (t := 8) (dK D_Law_told 1 rfl) rfl ha0 (fun hc1 => ?_) (fun hc1 => ?_)
  · replace h := ifN h hc1
    refine x_iloadn (pc := 8) (i0 := 0) (j := 0) (dK D_Law_told 4 rfl) rfl rfl ?_
    obtain rfl := Option.some.inj h
    exact wx_iretI (pc := 9) ha0 (dK D_Law_told 5 rfl) rfl hk0 hn0
  · replace h := ifP h hc1
    refine wx_iconst (pc := 4) (dK D_Law_told 2 rfl) ?_
    refine x_goto (pc := 5) (tgt := 9) (dK D_Law_told 3 rfl) rfl ?_
    obtain rfl := Option.some.inj h
    exact wx_iretI (pc := 9) (inRk rfl) (dK D_Law_told 5 rfl) rfl hk0 hn0
theorem tg_Law_told {sc : SC} {a0 : Int} (ha0 : inR a0) {S : St} {L : List PC} {q : Int} (h : gn_Law_told a0 S L = some q) : EvX sc M_Law_told [V a0] (wz (S, L)) 0 0 (KXI q (S, L)) := EvX.of pn2_Law rfl (leK rfl) (te_Law_told ha0 h (Nat.le_refl _) (Nat.le_refl _))
def gn_Number_init (c0 : Nat) (S : St) (L : List PC) : Option (Unit) := some ()
theorem te_Number_init {sc : SC} {c0 : Nat} {S : St} {L : List PC} {q : Unit} (h : gn_Number_init c0 S L = some q) {mc ms k n : Nat} (hk0 : k ≤ mc) (hn0 : n ≤ ms) : GX sc M_Number_init mc ms 0 [(0, .ref c0)] [] (wz (S, L)) k n (KXU (S, L)) := by
  unfold gn_Number_init at h
  refine x_aloadn (pc := 0) (i0 := 0) (j := 0) (dK D_Number_init 0 rfl) rfl rfl ?_
  refine x_objinit (pc := 1) (dK D_Number_init 1 rfl) q_1247 (leK rfl) (leK rfl) (leK rfl) ?_
  exact wx_ret (pc := 4) (dK D_Number_init 2 rfl) rfl hk0 hn0
theorem tg_Number_init {sc : SC} {c0 : Nat} {S : St} {L : List PC} {q : Unit} (h : gn_Number_init c0 S L = some q) : EvX sc M_Number_init [.ref c0] (wz (S, L)) 0 0 (KXU (S, L)) := EvX.of pn2_Number rfl (leK rfl) (te_Number_init  h (Nat.le_refl _) (Nat.le_refl _))
def gn_LP_form (c0 : Nat) (a1 : Int) (S : St) (L : List PC) : Option (Int) := bnO (gfI L c0 12 1) fun v1 => nm (wr (a1 - 1)) fun v2 => if 0 < v1 then (nm (wr (v2.tmod v1)) fun v4 => bnO (gfI L c0 12 1) fun v5 => nm (wr (a1 - 1)) fun v6 => if 0 < v5 then (nm (wr (v4.tmod 4)) fun v8 => if v8 = 1 then (some (wr ((2 * (v6.tdiv v5)) + 1))) else (nm (wr (v4.tmod 4)) fun v9 => if v9 = 2 then (some (wr ((2 * (v6.tdiv v5)) + 1))) else (some (wr ((2 * (v6.tdiv v5)) + 0))))) else none) else none
theorem te_LP_form {sc : SC} {c0 : Nat} {a1 : Int} (ha1 : inR a1) {S : St} {L : List PC} {q : Int} (h : gn_LP_form c0 a1 S L = some q) {mc ms k n : Nat} (hk0 : k ≤ mc) (hn0 : n ≤ ms) : GX sc M_LP_form mc ms 0 [(0, .ref c0), (1, V a1)] [] (wz (S, L)) k n (KXI q (S, L)) := by
  unfold gn_LP_form at h
  refine x_iloadn (pc := 0) (i0 := 1) (j := 1) (dK D_LP_form 0 rfl) rfl rfl ?_
  refine wx_iconst (pc := 1) (dK D_LP_form 1 rfl) ?_
  refine wx_isub (pc := 2) (dK D_LP_form 2 rfl) ?_
  refine x_aloadn (pc := 3) (i0 := 0) (j := 0) (dK D_LP_form 3 rfl) rfl rfl ?_
  refine bnE h (fun v1 e_v1 h => ?_)
  refine wx_getI (pc := 4) (ci := 12) (f := 1) e_v1 (dK D_LP_form 4 rfl) q_769 (ltK rfl) (ltK rfl) ?_
  refine nmE h (fun v2 e_v2 h => ?_)
  refine wsk (st' := [V v1, V v2]) (by rw [Vn e_v2]) ?_
  refine gdE h (fun hp3 h => ?_)
  refine wx_irem (pc := 7) (dK D_LP_form 5 rfl) (Vn_in e_v2) (vI_at e_v1).2 hp3 ?_
  refine nmE h (fun v4 e_v4 h => ?_)
  refine wtop e_v4 ?_
  refine x_istoren (pc := 8) (i0 := 2) (ls2 := [(2, V v4), (0, .ref c0), (1, V a1)]) (dK D_LP_form 6 rfl) rfl (ltK rfl) rfl ?_
  refine wx_iconst (pc := 9) (dK D_LP_form 7 rfl) ?_
  refine x_iloadn (pc := 10) (i0 := 1) (j := 2) (dK D_LP_form 8 rfl) rfl rfl ?_
  refine wx_iconst (pc := 11) (dK D_LP_form 9 rfl) ?_
  refine wx_isub (pc := 12) (dK D_LP_form 10 rfl) ?_
  refine x_aloadn (pc := 13) (i0 := 0) (j := 1) (dK D_LP_form 11 rfl) rfl rfl ?_
  refine bnE h (fun v5 e_v5 h => ?_)
  refine wx_getI (pc := 14) (ci := 12) (f := 1) e_v5 (dK D_LP_form 12 rfl) q_769 (ltK rfl) (ltK rfl) ?_
  refine nmE h (fun v6 e_v6 h => ?_)
  refine wsk (st' := [V v5, V v6, V 2]) (by rw [Vn e_v6]) ?_
  refine gdE h (fun hp7 h => ?_)
  refine wx_idiv (pc := 17) (dK D_LP_form 13 rfl) (Vn_in e_v6) (vI_at e_v5).2 hp7 ?_
  refine wx_imul (pc := 18) (dK D_LP_form 14 rfl) ?_
  refine x_iloadn (pc := 19) (i0 := 2) (j := 0) (dK D_LP_form 15 rfl) rfl rfl ?_
  refine wx_iconst (pc := 20) (dK D_LP_form 16 rfl) ?_
  refine wx_irem (pc := 21) (dK D_LP_form 17 rfl) (Vn_in e_v4) (inRk rfl) (by decide) ?_
  refine wx_iconst (pc := 22) (dK D_LP_form 18 rfl) ?_
  refine nmE h (fun v8 e_v8 h => ?_)
  refine wsk (st' := [V 1, V v8, V (2 * (v6.tdiv v5))]) (by rw [Vn e_v8]) ?_
  refine wx_icmp_eq (pc := 23) (t := 33) (dK D_LP_form 19 rfl) rfl (Vn_in e_v8) (inRk rfl) (fun hc11 => ?_) (fun hc11 => ?_)
  · replace h := ifP h hc11
    refine wx_iconst (pc := 33) (dK D_LP_form 25 rfl) ?_
    refine x_goto (pc := 34) (tgt := 38) (dK D_LP_form 26 rfl) rfl ?_
    refine wx_iadd (pc := 38) (dK D_LP_form 28 rfl) ?_
    obtain rfl := Option.some.inj h
    refine wtop (x := (wr ((2 * (v6.tdiv v5)) + 1))) rfl ?_
    exact wx_iretI (pc := 39) (wr_in _) (dK D_LP_form 29 rfl) rfl hk0 hn0
  · replace h := ifN h hc11
    refine x_iloadn (pc := 26) (i0 := 2) (j := 0) (dK D_LP_form 20 rfl) rfl rfl ?_
    refine wx_iconst (pc := 27) (dK D_LP_form 21 rfl) ?_
    refine wx_irem (pc := 28) (dK D_LP_form 22 rfl) (Vn_in e_v4) (inRk rfl) (by decide) ?_
    refine wx_iconst (pc := 29) (dK D_LP_form 23 rfl) ?_
    refine nmE h (fun v9 e_v9 h => ?_)
    refine wsk (st' := [V 2, V v9, V (2 * (v6.tdiv v5))]) (by rw [Vn e_v9]) ?_
    refine wx_icmp_ne (pc := 30) (t := 37) (dK D_LP_form 24 rfl) rfl (Vn_in e_v9) (inRk rfl) (fun hc10 => ?_) (fun hc10 => ?_)
    · replace h := ifN h hc10
      refine wx_iconst (pc := 37) (dK D_LP_form 27 rfl) ?_
      refine wx_iadd (pc := 38) (dK D_LP_form 28 rfl) ?_
      obtain rfl := Option.some.inj h
      refine wtop (x := (wr ((2 * (v6.tdiv v5)) + 0))) rfl ?_
      exact wx_iretI (pc := 39) (wr_in _) (dK D_LP_form 29 rfl) rfl hk0 hn0
    · replace h := ifP h hc10
      refine wx_iconst (pc := 33) (dK D_LP_form 25 rfl) ?_
      refine x_goto (pc := 34) (tgt := 38) (dK D_LP_form 26 rfl) rfl ?_
      refine wx_iadd (pc := 38) (dK D_LP_form 28 rfl) ?_
      obtain rfl := Option.some.inj h
      refine wtop (x := (wr ((2 * (v6.tdiv v5)) + 1))) rfl ?_
      exact wx_iretI (pc := 39) (wr_in _) (dK D_LP_form 29 rfl) rfl hk0 hn0
theorem tg_LP_form {sc : SC} {c0 : Nat} {a1 : Int} (ha1 : inR a1) {S : St} {L : List PC} {q : Int} (h : gn_LP_form c0 a1 S L = some q) : EvX sc M_LP_form [.ref c0, V a1] (wz (S, L)) 0 0 (KXI q (S, L)) := EvX.of pn2_LP rfl (leK rfl) (te_LP_form ha1 h (Nat.le_refl _) (Nat.le_refl _))
def gn_Integer_intValue (c0 : Nat) (S : St) (L : List PC) : Option (Int) := bnO (gfI L c0 17 0) fun v1 => some v1
theorem te_Integer_intValue {sc : SC} {c0 : Nat} {S : St} {L : List PC} {q : Int} (h : gn_Integer_intValue c0 S L = some q) {mc ms k n : Nat} (hk0 : k ≤ mc) (hn0 : n ≤ ms) : GX sc M_Integer_intValue mc ms 0 [(0, .ref c0)] [] (wz (S, L)) k n (KXI q (S, L)) := by
  unfold gn_Integer_intValue at h
  refine x_aloadn (pc := 0) (i0 := 0) (j := 0) (dK D_Integer_intValue 0 rfl) rfl rfl ?_
  refine bnE h (fun v1 e_v1 h => ?_)
  refine wx_getI (pc := 1) (ci := 17) (f := 0) e_v1 (dK D_Integer_intValue 1 rfl) q_1248 (ltK rfl) (ltK rfl) ?_
  obtain rfl := Option.some.inj h
  exact wx_iretI (pc := 4) (vI_at e_v1).2 (dK D_Integer_intValue 2 rfl) rfl hk0 hn0
theorem tg_Integer_intValue {sc : SC} {c0 : Nat} {S : St} {L : List PC} {q : Int} (h : gn_Integer_intValue c0 S L = some q) : EvX sc M_Integer_intValue [.ref c0] (wz (S, L)) 0 0 (KXI q (S, L)) := EvX.of pn2_Integer rfl (leK rfl) (te_Integer_intValue  h (Nat.le_refl _) (Nat.le_refl _))
def gn_ASB_newCapacity (c0 : Nat) (a1 : Int) (S : St) (L : List PC) : Option (Int) := bnO (gfV L c0 15 0) fun v1 => rfB v1 fun r2 => bnO (aln L r2) fun v3 => bnO (gfI L c0 15 1) fun v4 => nm (wr ((i_shl a1 v4) - v3)) fun v5 => bnO (gfI L c0 15 1) fun v6 => nm (wr (v3 + (i_shl 2 v6))) fun v7 => bnO (gn_ArS_newLength v3 v5 v7 S L) fun p8 => if p8 = 2147483647 then none else (bnO (gfI L c0 15 1) fun v9 => some (i_shr p8 v9))
theorem te_ASB_newCapacity {sc : SC} {c0 : Nat} {a1 : Int} (ha1 : inR a1) {S : St} {L : List PC} {q : Int} (h : gn_ASB_newCapacity c0 a1 S L = some q) {mc ms k n : Nat} (hk0 : k ≤ mc) (hn0 : n ≤ ms) : GX sc M_ASB_newCapacity mc ms 0 [(0, .ref c0), (1, V a1)] [] (wz (S, L)) k n (KXI q (S, L)) := by
  unfold gn_ASB_newCapacity at h
  refine x_aloadn (pc := 0) (i0 := 0) (j := 0) (dK D_ASB_newCapacity 0 rfl) rfl rfl ?_
  refine bnE h (fun v1 e_v1 h => ?_)
  refine wx_getV (pc := 1) (ci := 15) (f := 0) e_v1 (dK D_ASB_newCapacity 1 rfl) q_1292 (ltK rfl) (ltK rfl) (fun hv1 => ?_)
  refine rfE h (fun r2 e_r2 h => ?_)
  rw [e_r2]
  refine bnE h (fun v3 e_v3 h => ?_)
  refine wx_alen (pc := 4) e_v3 (dK D_ASB_newCapacity 2 rfl) (fun i_v3 => ?_)
  refine x_istoren (pc := 5) (i0 := 2) (ls2 := [(2, V v3), (0, .ref c0), (1, V a1)]) (dK D_ASB_newCapacity 3 rfl) rfl (ltK rfl) rfl ?_
  refine x_iloadn (pc := 6) (i0 := 1) (j := 2) (dK D_ASB_newCapacity 4 rfl) rfl rfl ?_
  refine x_aloadn (pc := 7) (i0 := 0) (j := 1) (dK D_ASB_newCapacity 5 rfl) rfl rfl ?_
  refine bnE h (fun v4 e_v4 h => ?_)
  refine wx_getI (pc := 8) (ci := 15) (f := 1) e_v4 (dK D_ASB_newCapacity 6 rfl) q_1293 (ltK rfl) (ltK rfl) ?_
  refine wx_ishl (pc := 11) (dK D_ASB_newCapacity 7 rfl) ?_
  refine x_istoren (pc := 12) (i0 := 3) (ls2 := [(3, V (i_shl a1 v4)), (2, V v3), (0, .ref c0), (1, V a1)]) (dK D_ASB_newCapacity 8 rfl) rfl (ltK rfl) rfl ?_
  refine x_iloadn (pc := 13) (i0 := 3) (j := 0) (dK D_ASB_newCapacity 9 rfl) rfl rfl ?_
  refine x_iloadn (pc := 14) (i0 := 2) (j := 1) (dK D_ASB_newCapacity 10 rfl) rfl rfl ?_
  refine wx_isub (pc := 15) (dK D_ASB_newCapacity 11 rfl) ?_
  refine nmE h (fun v5 e_v5 h => ?_)
  refine wtop e_v5 ?_
  refine x_istore (pc := 16) (ls2 := [(4, V v5), (3, V (i_shl a1 v4)), (2, V v3), (0, .ref c0), (1, V a1)]) (dK D_ASB_newCapacity 12 rfl) (ltK rfl) rfl ?_
  refine x_iloadn (pc := 18) (i0 := 2) (j := 2) (dK D_ASB_newCapacity 13 rfl) rfl rfl ?_
  refine x_iload (pc := 19) (j := 0) (dK D_ASB_newCapacity 14 rfl) rfl ?_
  refine x_iloadn (pc := 21) (i0 := 2) (j := 2) (dK D_ASB_newCapacity 15 rfl) rfl rfl ?_
  refine wx_iconst (pc := 22) (dK D_ASB_newCapacity 16 rfl) ?_
  refine x_aloadn (pc := 23) (i0 := 0) (j := 3) (dK D_ASB_newCapacity 17 rfl) rfl rfl ?_
  refine bnE h (fun v6 e_v6 h => ?_)
  refine wx_getI (pc := 24) (ci := 15) (f := 1) e_v6 (dK D_ASB_newCapacity 18 rfl) q_1293 (ltK rfl) (ltK rfl) ?_
  refine wx_ishl (pc := 27) (dK D_ASB_newCapacity 19 rfl) ?_
  refine wx_iadd (pc := 28) (dK D_ASB_newCapacity 20 rfl) ?_
  refine nmE h (fun v7 e_v7 h => ?_)
  refine wtop e_v7 ?_
  refine bnE h (fun p8 e_p8 h => ?_)
  refine x_callS (pc := 29) (As := [V v3, V v5, V v7]) (rest := []) (mc' := 0) (ms' := 0) (dK D_ASB_newCapacity 21 rfl) Q_ASB_114 (fitK rfl) rfl (leK rfl) hk0 hn0 (tg_ArS_newLength i_v3 (Vn_in e_v5) (Vn_in e_v7) e_p8) (kxI' (fun h_p8 => ?_))
  refine x_istore (pc := 32) (ls2 := [(5, V p8), (4, V v5), (3, V (i_shl a1 v4)), (2, V v3), (0, .ref c0), (1, V a1)]) (dK D_ASB_newCapacity 22 rfl) (ltK rfl) rfl ?_
  refine x_iload (pc := 34) (j := 0) (dK D_ASB_newCapacity 23 rfl) rfl ?_
  refine wx_ldc (pc := 36) (y := 2147483647) (dK D_ASB_newCapacity 24 rfl) q_1326 rfl ?_
  refine wx_icmp_ne (pc := 38) (t := 51) (dK D_ASB_newCapacity 25 rfl) rfl h_p8 (inRk rfl) (fun hc10 => ?_) (fun hc10 => ?_)
  · replace h := ifN h hc10
    refine x_iload (pc := 51) (j := 0) (dK D_ASB_newCapacity 31 rfl) rfl ?_
    refine x_aloadn (pc := 53) (i0 := 0) (j := 4) (dK D_ASB_newCapacity 32 rfl) rfl rfl ?_
    refine bnE h (fun v9 e_v9 h => ?_)
    refine wx_getI (pc := 54) (ci := 15) (f := 1) e_v9 (dK D_ASB_newCapacity 33 rfl) q_1293 (ltK rfl) (ltK rfl) ?_
    refine wx_ishr (pc := 57) (dK D_ASB_newCapacity 34 rfl) ?_
    obtain rfl := Option.some.inj h
    exact wx_iretI (pc := 58) (toInt_in _) (dK D_ASB_newCapacity 35 rfl) rfl hk0 hn0
  · replace h := ifP h hc10
    exact nomatch h
theorem tg_ASB_newCapacity {sc : SC} {c0 : Nat} {a1 : Int} (ha1 : inR a1) {S : St} {L : List PC} {q : Int} (h : gn_ASB_newCapacity c0 a1 S L = some q) : EvX sc M_ASB_newCapacity [.ref c0, V a1] (wz (S, L)) 0 0 (KXI q (S, L)) := EvX.of pn2_ASB rfl (leK rfl) (te_ASB_newCapacity ha1 h (Nat.le_refl _) (Nat.le_refl _))
def gn_ASB_getValue (c0 : Nat) (S : St) (L : List PC) : Option (Value) := bnO (gfV L c0 15 0) fun v1 => some v1
theorem te_ASB_getValue {sc : SC} {c0 : Nat} {S : St} {L : List PC} {q : Value} (h : gn_ASB_getValue c0 S L = some q) {mc ms k n : Nat} (hk0 : k ≤ mc) (hn0 : n ≤ ms) : GX sc M_ASB_getValue mc ms 0 [(0, .ref c0)] [] (wz (S, L)) k n (KXR q (S, L)) := by
  unfold gn_ASB_getValue at h
  refine x_aloadn (pc := 0) (i0 := 0) (j := 0) (dK D_ASB_getValue 0 rfl) rfl rfl ?_
  refine bnE h (fun v1 e_v1 h => ?_)
  refine wx_getV (pc := 1) (ci := 15) (f := 0) e_v1 (dK D_ASB_getValue 1 rfl) q_1292 (ltK rfl) (ltK rfl) (fun hv1 => ?_)
  obtain rfl := Option.some.inj h
  exact wx_aret (pc := 4) hv1 (dK D_ASB_getValue 2 rfl) rfl (by first | exact .inl ⟨_, rfl⟩ | exact .inr ⟨_, rfl⟩) hk0 hn0
theorem tg_ASB_getValue {sc : SC} {c0 : Nat} {S : St} {L : List PC} {q : Value} (h : gn_ASB_getValue c0 S L = some q) : EvX sc M_ASB_getValue [.ref c0] (wz (S, L)) 0 0 (KXR q (S, L)) := EvX.of pn2_ASB rfl (leK rfl) (te_ASB_getValue  h (Nat.le_refl _) (Nat.le_refl _))
def gn_ASB_length (c0 : Nat) (S : St) (L : List PC) : Option (Int) := bnO (gfI L c0 15 3) fun v1 => some v1
theorem te_ASB_length {sc : SC} {c0 : Nat} {S : St} {L : List PC} {q : Int} (h : gn_ASB_length c0 S L = some q) {mc ms k n : Nat} (hk0 : k ≤ mc) (hn0 : n ≤ ms) : GX sc M_ASB_length mc ms 0 [(0, .ref c0)] [] (wz (S, L)) k n (KXI q (S, L)) := by
  unfold gn_ASB_length at h
  refine x_aloadn (pc := 0) (i0 := 0) (j := 0) (dK D_ASB_length 0 rfl) rfl rfl ?_
  refine bnE h (fun v1 e_v1 h => ?_)
  refine wx_getI (pc := 1) (ci := 15) (f := 3) e_v1 (dK D_ASB_length 1 rfl) q_1295 (ltK rfl) (ltK rfl) ?_
  obtain rfl := Option.some.inj h
  exact wx_iretI (pc := 4) (vI_at e_v1).2 (dK D_ASB_length 2 rfl) rfl hk0 hn0
theorem tg_ASB_length {sc : SC} {c0 : Nat} {S : St} {L : List PC} {q : Int} (h : gn_ASB_length c0 S L = some q) : EvX sc M_ASB_length [.ref c0] (wz (S, L)) 0 0 (KXI q (S, L)) := EvX.of pn2_ASB rfl (leK rfl) (te_ASB_length  h (Nat.le_refl _) (Nat.le_refl _))
def gn_Ars_checkLength (a0 : Int) (a1 : Int) (S : St) (L : List PC) : Option (Unit) := if a0 ≤ a1 then (some ()) else none
theorem te_Ars_checkLength {sc : SC} {a0 : Int} (ha0 : inR a0) {a1 : Int} (ha1 : inR a1) {S : St} {L : List PC} {q : Unit} (h : gn_Ars_checkLength a0 a1 S L = some q) {mc ms k n : Nat} (hk0 : k ≤ mc) (hn0 : n ≤ ms) : GX sc M_Ars_checkLength mc ms 0 [(0, V a0), (1, V a1)] [] (wz (S, L)) k n (KXU (S, L)) := by
  unfold gn_Ars_checkLength at h
  refine x_iloadn (pc := 0) (i0 := 1) (j := 1) (dK D_Ars_checkLength 0 rfl) rfl rfl ?_
  refine x_iloadn (pc := 1) (i0 := 0) (j := 0) (dK D_Ars_checkLength 1 rfl) rfl rfl ?_
  refine wx_icmp_ge (pc := 2) (t := 37) (dK D_Ars_checkLength 2 rfl) rfl ha1 ha0 (fun hc1 => ?_) (fun hc1 => ?_)
  · replace h := ifP h hc1
    exact wx_ret (pc := 37) (dK D_Ars_checkLength 17 rfl) rfl hk0 hn0
  · replace h := ifN h hc1
    exact nomatch h
theorem tg_Ars_checkLength {sc : SC} {a0 : Int} (ha0 : inR a0) {a1 : Int} (ha1 : inR a1) {S : St} {L : List PC} {q : Unit} (h : gn_Ars_checkLength a0 a1 S L = some q) : EvX sc M_Ars_checkLength [V a0, V a1] (wz (S, L)) 0 0 (KXU (S, L)) := EvX.of pn2_Ars rfl (leK rfl) (te_Ars_checkLength ha0 ha1 h (Nat.le_refl _) (Nat.le_refl _))
def gn_LP_isShut (c0 : Nat) (a1 : Int) (S : St) (L : List PC) : Option (Bool) := bnO (gfV L c0 12 8) fun v1 => if isK L c0 12 = true then (bnO (gn_LP_form c0 a1 S L) fun p2 => rfB v1 fun r4 => bnO (ald L 2 r4 p2) fun v5 => if v5 = 0 ∨ v5 = 1 then (some (decide (v5 = 1))) else none) else none
theorem te_LP_isShut {sc : SC} {c0 : Nat} {a1 : Int} (ha1 : inR a1) {S : St} {L : List PC} {q : Bool} (h : gn_LP_isShut c0 a1 S L = some q) {mc ms k n : Nat} (hk0 : k ≤ mc) (hn0 : n ≤ ms) : GX sc M_LP_isShut mc ms 0 [(0, .ref c0), (1, V a1)] [] (wz (S, L)) k n (KXB q (S, L)) := by
  unfold gn_LP_isShut at h
  refine x_aloadn (pc := 0) (i0 := 0) (j := 0) (dK D_LP_isShut 0 rfl) rfl rfl ?_
  refine bnE h (fun v1 e_v1 h => ?_)
  refine wx_getV (pc := 1) (ci := 12) (f := 8) e_v1 (dK D_LP_isShut 1 rfl) q_783 (ltK rfl) (ltK rfl) (fun hv1 => ?_)
  refine x_aloadn (pc := 4) (i0 := 0) (j := 0) (dK D_LP_isShut 2 rfl) rfl rfl ?_
  refine x_iloadn (pc := 5) (i0 := 1) (j := 1) (dK D_LP_isShut 3 rfl) rfl rfl ?_
  refine gdE h (fun hk3 h => ?_)
  refine bnE h (fun p2 e_p2 h => ?_)
  refine x_callX (pc := 6) (As := [V a1]) (rest := [v1]) (mc' := 0) (ms' := 0) (dK D_LP_isShut 4 rfl) Q_LP_79 sx_LP_form (fitK rfl) (isK_at (Z := (S, L)) (ci := 12) hk3) rfl (by simp only [List.map_cons, List.map_nil, cato hv1]; exact leK rfl) hk0 hn0 (tg_LP_form ha1 e_p2) (kxI' (fun h_p2 => ?_))
  refine rfE h (fun r4 e_r4 h => ?_)
  rw [e_r4]
  refine bnE h (fun v5 e_v5 h => ?_)
  refine wx_zald (pc := 9) e_v5 h_p2 (dK D_LP_isShut 5 rfl) ?_
  refine gdE h (fun hb6 h => ?_)
  obtain rfl := Option.some.inj h
  refine wsk (st' := [V (bi (decide (v5 = 1)))]) (congrArg (fun z => [z]) (V_bi hb6).symm) ?_
  exact wx_iretB (pc := 10) (b := (decide (v5 = 1))) (dK D_LP_isShut 6 rfl) rfl hk0 hn0
theorem tg_LP_isShut {sc : SC} {c0 : Nat} {a1 : Int} (ha1 : inR a1) {S : St} {L : List PC} {q : Bool} (h : gn_LP_isShut c0 a1 S L = some q) : EvX sc M_LP_isShut [.ref c0, V a1] (wz (S, L)) 0 0 (KXB q (S, L)) := EvX.of pn2_LP rfl (leK rfl) (te_LP_isShut ha1 h (Nat.le_refl _) (Nat.le_refl _))
def gn_LP_sided (c0 : Nat) (c1 : Nat) (a2 : Int) (S : St) (L : List PC) : Option (Bool) := bnO (gfI L c1 11 2) fun v1 => if v1 = 0 then (some true) else (bnO (gfI L c1 11 2) fun v2 => if v2 = 1 then (nm (wr (a2.tmod 2)) fun v7 => if v7 = 0 then (some true) else (bnO (gfI L c1 11 2) fun v8 => if v8 = 2 then (nm (wr (a2.tmod 2)) fun v9 => if v9 = 1 then (some true) else (some false)) else (some false))) else (bnO (gfI L c1 11 2) fun v3 => if v3 = 2 then (nm (wr (a2.tmod 2)) fun v4 => if v4 = 1 then (some true) else (some false)) else (some false)))
theorem te_LP_sided {sc : SC} {c0 : Nat} {c1 : Nat} {a2 : Int} (ha2 : inR a2) {S : St} {L : List PC} {q : Bool} (h : gn_LP_sided c0 c1 a2 S L = some q) {mc ms k n : Nat} (hk0 : k ≤ mc) (hn0 : n ≤ ms) : GX sc M_LP_sided mc ms 0 [(0, .ref c0), (1, .ref c1), (2, V a2)] [] (wz (S, L)) k n (KXB q (S, L)) := by
  unfold gn_LP_sided at h
  refine x_aloadn (pc := 0) (i0 := 1) (j := 1) (dK D_LP_sided 0 rfl) rfl rfl ?_
  refine bnE h (fun v1 e_v1 h => ?_)
  refine wx_getI (pc := 1) (ci := 11) (f := 2) e_v1 (dK D_LP_sided 1 rfl) q_880 (ltK rfl) (ltK rfl) ?_
  refine wx_if_eq (pc := 4) (t := 36) (dK D_LP_sided 2 rfl) rfl (vI_at e_v1).2 (fun hc14 => ?_) (fun hc14 => ?_)
  · replace h := ifP h hc14
    refine wx_iconst (pc := 36) (dK D_LP_sided 20 rfl) ?_
    refine x_goto (pc := 37) (tgt := 41) (dK D_LP_sided 21 rfl) rfl ?_
    obtain rfl := Option.some.inj h
    exact wx_iretB (pc := 41) (b := true) (dK D_LP_sided 23 rfl) rfl hk0 hn0
  · replace h := ifN h hc14
    refine x_aloadn (pc := 7) (i0 := 1) (j := 1) (dK D_LP_sided 3 rfl) rfl rfl ?_
    refine bnE h (fun v2 e_v2 h => ?_)
    refine wx_getI (pc := 8) (ci := 11) (f := 2) e_v2 (dK D_LP_sided 4 rfl) q_880 (ltK rfl) (ltK rfl) ?_
    refine wx_iconst (pc := 11) (dK D_LP_sided 5 rfl) ?_
    refine wx_icmp_ne (pc := 12) (t := 21) (dK D_LP_sided 6 rfl) rfl (vI_at e_v2).2 (inRk rfl) (fun hc13 => ?_) (fun hc13 => ?_)
    · replace h := ifN h hc13
      refine x_aloadn (pc := 21) (i0 := 1) (j := 1) (dK D_LP_sided 11 rfl) rfl rfl ?_
      refine bnE h (fun v3 e_v3 h => ?_)
      refine wx_getI (pc := 22) (ci := 11) (f := 2) e_v3 (dK D_LP_sided 12 rfl) q_880 (ltK rfl) (ltK rfl) ?_
      refine wx_iconst (pc := 25) (dK D_LP_sided 13 rfl) ?_
      refine wx_icmp_ne (pc := 26) (t := 40) (dK D_LP_sided 14 rfl) rfl (vI_at e_v3).2 (inRk rfl) (fun hc6 => ?_) (fun hc6 => ?_)
      · replace h := ifN h hc6
        refine wx_iconst (pc := 40) (dK D_LP_sided 22 rfl) ?_
        obtain rfl := Option.some.inj h
        exact wx_iretB (pc := 41) (b := false) (dK D_LP_sided 23 rfl) rfl hk0 hn0
      · replace h := ifP h hc6
        refine x_iloadn (pc := 29) (i0 := 2) (j := 2) (dK D_LP_sided 15 rfl) rfl rfl ?_
        refine wx_iconst (pc := 30) (dK D_LP_sided 16 rfl) ?_
        refine wx_irem (pc := 31) (dK D_LP_sided 17 rfl) ha2 (inRk rfl) (by decide) ?_
        refine wx_iconst (pc := 32) (dK D_LP_sided 18 rfl) ?_
        refine nmE h (fun v4 e_v4 h => ?_)
        refine wsk (st' := [V 1, V v4]) (by rw [Vn e_v4]) ?_
        refine wx_icmp_ne (pc := 33) (t := 40) (dK D_LP_sided 19 rfl) rfl (Vn_in e_v4) (inRk rfl) (fun hc5 => ?_) (fun hc5 => ?_)
        · replace h := ifN h hc5
          refine wx_iconst (pc := 40) (dK D_LP_sided 22 rfl) ?_
          obtain rfl := Option.some.inj h
          exact wx_iretB (pc := 41) (b := false) (dK D_LP_sided 23 rfl) rfl hk0 hn0
        · replace h := ifP h hc5
          refine wx_iconst (pc := 36) (dK D_LP_sided 20 rfl) ?_
          refine x_goto (pc := 37) (tgt := 41) (dK D_LP_sided 21 rfl) rfl ?_
          obtain rfl := Option.some.inj h
          exact wx_iretB (pc := 41) (b := true) (dK D_LP_sided 23 rfl) rfl hk0 hn0
    · replace h := ifP h hc13
      refine x_iloadn (pc := 15) (i0 := 2) (j := 2) (dK D_LP_sided 7 rfl) rfl rfl ?_
      refine wx_iconst (pc := 16) (dK D_LP_sided 8 rfl) ?_
      refine wx_irem (pc := 17) (dK D_LP_sided 9 rfl) ha2 (inRk rfl) (by decide) ?_
      refine nmE h (fun v7 e_v7 h => ?_)
      refine wtop e_v7 ?_
      refine wx_if_eq (pc := 18) (t := 36) (dK D_LP_sided 10 rfl) rfl (Vn_in e_v7) (fun hc12 => ?_) (fun hc12 => ?_)
      · replace h := ifP h hc12
        refine wx_iconst (pc := 36) (dK D_LP_sided 20 rfl) ?_
        refine x_goto (pc := 37) (tgt := 41) (dK D_LP_sided 21 rfl) rfl ?_
        obtain rfl := Option.some.inj h
        exact wx_iretB (pc := 41) (b := true) (dK D_LP_sided 23 rfl) rfl hk0 hn0
      · replace h := ifN h hc12
        refine x_aloadn (pc := 21) (i0 := 1) (j := 1) (dK D_LP_sided 11 rfl) rfl rfl ?_
        refine bnE h (fun v8 e_v8 h => ?_)
        refine wx_getI (pc := 22) (ci := 11) (f := 2) e_v8 (dK D_LP_sided 12 rfl) q_880 (ltK rfl) (ltK rfl) ?_
        refine wx_iconst (pc := 25) (dK D_LP_sided 13 rfl) ?_
        refine wx_icmp_ne (pc := 26) (t := 40) (dK D_LP_sided 14 rfl) rfl (vI_at e_v8).2 (inRk rfl) (fun hc11 => ?_) (fun hc11 => ?_)
        · replace h := ifN h hc11
          refine wx_iconst (pc := 40) (dK D_LP_sided 22 rfl) ?_
          obtain rfl := Option.some.inj h
          exact wx_iretB (pc := 41) (b := false) (dK D_LP_sided 23 rfl) rfl hk0 hn0
        · replace h := ifP h hc11
          refine x_iloadn (pc := 29) (i0 := 2) (j := 2) (dK D_LP_sided 15 rfl) rfl rfl ?_
          refine wx_iconst (pc := 30) (dK D_LP_sided 16 rfl) ?_
          refine wx_irem (pc := 31) (dK D_LP_sided 17 rfl) ha2 (inRk rfl) (by decide) ?_
          refine wx_iconst (pc := 32) (dK D_LP_sided 18 rfl) ?_
          refine nmE h (fun v9 e_v9 h => ?_)
          refine wsk (st' := [V 1, V v9]) (by rw [Vn e_v9]) ?_
          refine wx_icmp_ne (pc := 33) (t := 40) (dK D_LP_sided 19 rfl) rfl (Vn_in e_v9) (inRk rfl) (fun hc10 => ?_) (fun hc10 => ?_)
          · replace h := ifN h hc10
            refine wx_iconst (pc := 40) (dK D_LP_sided 22 rfl) ?_
            obtain rfl := Option.some.inj h
            exact wx_iretB (pc := 41) (b := false) (dK D_LP_sided 23 rfl) rfl hk0 hn0
          · replace h := ifP h hc10
            refine wx_iconst (pc := 36) (dK D_LP_sided 20 rfl) ?_
            refine x_goto (pc := 37) (tgt := 41) (dK D_LP_sided 21 rfl) rfl ?_
            obtain rfl := Option.some.inj h
            exact wx_iretB (pc := 41) (b := true) (dK D_LP_sided 23 rfl) rfl hk0 hn0
theorem tg_LP_sided {sc : SC} {c0 : Nat} {c1 : Nat} {a2 : Int} (ha2 : inR a2) {S : St} {L : List PC} {q : Bool} (h : gn_LP_sided c0 c1 a2 S L = some q) : EvX sc M_LP_sided [.ref c0, .ref c1, V a2] (wz (S, L)) 0 0 (KXB q (S, L)) := EvX.of pn2_LP rfl (leK rfl) (te_LP_sided ha2 h (Nat.le_refl _) (Nat.le_refl _))
def gn_AL_isEmpty (c0 : Nat) (S : St) (L : List PC) : Option (Bool) := bnO (gfI L c0 13 1) fun v1 => if v1 = 0 then (some true) else (some false)
theorem te_AL_isEmpty {sc : SC} {c0 : Nat} {S : St} {L : List PC} {q : Bool} (h : gn_AL_isEmpty c0 S L = some q) {mc ms k n : Nat} (hk0 : k ≤ mc) (hn0 : n ≤ ms) : GX sc M_AL_isEmpty mc ms 0 [(0, .ref c0)] [] (wz (S, L)) k n (KXB q (S, L)) := by
  unfold gn_AL_isEmpty at h
  refine x_aloadn (pc := 0) (i0 := 0) (j := 0) (dK D_AL_isEmpty 0 rfl) rfl rfl ?_
  refine bnE h (fun v1 e_v1 h => ?_)
  refine wx_getI (pc := 1) (ci := 13) (f := 1) e_v1 (dK D_AL_isEmpty 1 rfl) q_755 (ltK rfl) (ltK rfl) ?_
  refine wx_if_ne (pc := 4) (t := 11) (dK D_AL_isEmpty 2 rfl) rfl (vI_at e_v1).2 (fun hc2 => ?_) (fun hc2 => ?_)
  · replace h := ifN h hc2
    refine wx_iconst (pc := 11) (dK D_AL_isEmpty 5 rfl) ?_
    obtain rfl := Option.some.inj h
    exact wx_iretB (pc := 12) (b := false) (dK D_AL_isEmpty 6 rfl) rfl hk0 hn0
  · replace h := ifP h hc2
    refine wx_iconst (pc := 7) (dK D_AL_isEmpty 3 rfl) ?_
    refine x_goto (pc := 8) (tgt := 12) (dK D_AL_isEmpty 4 rfl) rfl ?_
    obtain rfl := Option.some.inj h
    exact wx_iretB (pc := 12) (b := true) (dK D_AL_isEmpty 6 rfl) rfl hk0 hn0
theorem tg_AL_isEmpty {sc : SC} {c0 : Nat} {S : St} {L : List PC} {q : Bool} (h : gn_AL_isEmpty c0 S L = some q) : EvX sc M_AL_isEmpty [.ref c0] (wz (S, L)) 0 0 (KXB q (S, L)) := EvX.of pn2_AL rfl (leK rfl) (te_AL_isEmpty  h (Nat.le_refl _) (Nat.le_refl _))
def gn_AL_rangeCheckForAdd (c0 : Nat) (a1 : Int) (S : St) (L : List PC) : Option (Unit) := bnO (gfI L c0 13 1) fun v1 => if v1 < a1 then none else (if 0 ≤ a1 then (some ()) else none)
theorem te_AL_rangeCheckForAdd {sc : SC} {c0 : Nat} {a1 : Int} (ha1 : inR a1) {S : St} {L : List PC} {q : Unit} (h : gn_AL_rangeCheckForAdd c0 a1 S L = some q) {mc ms k n : Nat} (hk0 : k ≤ mc) (hn0 : n ≤ ms) : GX sc M_AL_rangeCheckForAdd mc ms 0 [(0, .ref c0), (1, V a1)] [] (wz (S, L)) k n (KXU (S, L)) := by
  unfold gn_AL_rangeCheckForAdd at h
  refine x_iloadn (pc := 0) (i0 := 1) (j := 1) (dK D_AL_rangeCheckForAdd 0 rfl) rfl rfl ?_
  refine x_aloadn (pc := 1) (i0 := 0) (j := 0) (dK D_AL_rangeCheckForAdd 1 rfl) rfl rfl ?_
  refine bnE h (fun v1 e_v1 h => ?_)
  refine wx_getI (pc := 2) (ci := 13) (f := 1) e_v1 (dK D_AL_rangeCheckForAdd 2 rfl) q_755 (ltK rfl) (ltK rfl) ?_
  refine wx_icmp_gt (pc := 5) (t := 12) (dK D_AL_rangeCheckForAdd 3 rfl) rfl ha1 (vI_at e_v1).2 (fun hc3 => ?_) (fun hc3 => ?_)
  · replace h := ifP h hc3
    exact nomatch h
  · replace h := ifN h hc3
    refine x_iloadn (pc := 8) (i0 := 1) (j := 1) (dK D_AL_rangeCheckForAdd 4 rfl) rfl rfl ?_
    refine wx_if_ge (pc := 9) (t := 25) (dK D_AL_rangeCheckForAdd 5 rfl) rfl ha1 (fun hc2 => ?_) (fun hc2 => ?_)
    · replace h := ifP h hc2
      exact wx_ret (pc := 25) (dK D_AL_rangeCheckForAdd 13 rfl) rfl hk0 hn0
    · replace h := ifN h hc2
      exact nomatch h
theorem tg_AL_rangeCheckForAdd {sc : SC} {c0 : Nat} {a1 : Int} (ha1 : inR a1) {S : St} {L : List PC} {q : Unit} (h : gn_AL_rangeCheckForAdd c0 a1 S L = some q) : EvX sc M_AL_rangeCheckForAdd [.ref c0, V a1] (wz (S, L)) 0 0 (KXU (S, L)) := EvX.of pn2_AL rfl (leK rfl) (te_AL_rangeCheckForAdd ha1 h (Nat.le_refl _) (Nat.le_refl _))
def gn_Prec_checkFromToIndex (a0 : Int) (a1 : Int) (a2 : Int) (c3 : Value) (S : St) (L : List PC) : Option (Int) := if a0 < 0 then none else (if a1 < a0 then none else (if a1 ≤ a2 then (some a0) else none))
theorem te_Prec_checkFromToIndex {sc : SC} {a0 : Int} (ha0 : inR a0) {a1 : Int} (ha1 : inR a1) {a2 : Int} (ha2 : inR a2) {c3 : Value} (hc3 : c3 = .null ∨ ∃ b, c3 = .ref b) {S : St} {L : List PC} {q : Int} (h : gn_Prec_checkFromToIndex a0 a1 a2 c3 S L = some q) {mc ms k n : Nat} (hk0 : k ≤ mc) (hn0 : n ≤ ms) : GX sc M_Prec_checkFromToIndex mc ms 0 [(0, V a0), (1, V a1), (2, V a2), (3, c3)] [] (wz (S, L)) k n (KXI q (S, L)) := by
  unfold gn_Prec_checkFromToIndex at h
  refine x_iloadn (pc := 0) (i0 := 0) (j := 0) (dK D_Prec_checkFromToIndex 0 rfl) rfl rfl ?_
  refine wx_if_lt (pc := 1) (t := 14) (dK D_Prec_checkFromToIndex 1 rfl) rfl ha0 (fun hc3 => ?_) (fun hc3 => ?_)
  · replace h := ifP h hc3
    exact nomatch h
  · replace h := ifN h hc3
    refine x_iloadn (pc := 4) (i0 := 0) (j := 0) (dK D_Prec_checkFromToIndex 2 rfl) rfl rfl ?_
    refine x_iloadn (pc := 5) (i0 := 1) (j := 1) (dK D_Prec_checkFromToIndex 3 rfl) rfl rfl ?_
    refine wx_icmp_gt (pc := 6) (t := 14) (dK D_Prec_checkFromToIndex 4 rfl) rfl ha0 ha1 (fun hc2 => ?_) (fun hc2 => ?_)
    · replace h := ifP h hc2
      exact nomatch h
    · replace h := ifN h hc2
      refine x_iloadn (pc := 9) (i0 := 1) (j := 1) (dK D_Prec_checkFromToIndex 5 rfl) rfl rfl ?_
      refine x_iloadn (pc := 10) (i0 := 2) (j := 2) (dK D_Prec_checkFromToIndex 6 rfl) rfl rfl ?_
      refine wx_icmp_le (pc := 11) (t := 22) (dK D_Prec_checkFromToIndex 7 rfl) rfl ha1 ha2 (fun hc1 => ?_) (fun hc1 => ?_)
      · replace h := ifP h hc1
        refine x_iloadn (pc := 22) (i0 := 0) (j := 0) (dK D_Prec_checkFromToIndex 14 rfl) rfl rfl ?_
        obtain rfl := Option.some.inj h
        exact wx_iretI (pc := 23) ha0 (dK D_Prec_checkFromToIndex 15 rfl) rfl hk0 hn0
      · replace h := ifN h hc1
        exact nomatch h
theorem tg_Prec_checkFromToIndex {sc : SC} {a0 : Int} (ha0 : inR a0) {a1 : Int} (ha1 : inR a1) {a2 : Int} (ha2 : inR a2) {c3 : Value} (hc3 : c3 = .null ∨ ∃ b, c3 = .ref b) {S : St} {L : List PC} {q : Int} (h : gn_Prec_checkFromToIndex a0 a1 a2 c3 S L = some q) : EvX sc M_Prec_checkFromToIndex [V a0, V a1, V a2, c3] (wz (S, L)) 0 0 (KXI q (S, L)) := by
  rcases hc3 with e_c3 | ⟨b_c3, e_c3⟩ <;> subst e_c3 <;>
  exact EvX.of pn2_Prec rfl (leK rfl) (te_Prec_checkFromToIndex ha0 ha1 ha2 (by first | exact .inl rfl | exact .inr ⟨_, rfl⟩) h (Nat.le_refl _) (Nat.le_refl _))
