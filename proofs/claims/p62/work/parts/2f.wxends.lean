/-! MOVING WORLDS: the class's own methods called there, ends -/
/-- the class's cells masked, the law's behind them -/
def xz (L : List PC) : XT := (nCell + L.length, fun a => decide (a < nCell), fun a => L.getD (a - nCell) (0, []), false)
theorem kept_ok : ∀ a, a < nCell → (!(Nat.beq (kd a) 105) || (List.range (ln a)).all (fun f => Nat.blt (tgt a f) nCell)) = true := by decide +kernel
theorem kd9 : ∀ a, a < nCell → Nat.blt (kd a) 900 = true := by decide +kernel
theorem xz_cl (L : List PC) : Cl (xz L) := by
  refine ⟨fun a _ hm => of_decide_eq_true hm, fun a f _ hm ho => ?_⟩
  have ha : a < nCell := of_decide_eq_true hm
  have ht : tgt a f < nCell := by
    rcases ho with ⟨kk, l, hmem⟩ | ⟨h1, h2⟩
    · exact (wt_of ⟨ha, rfl⟩ hmem).1
    · have h3 := kept_ok a ha
      rw [h1] at h3
      have h4 : (List.range (ln a)).all (fun f => Nat.blt (tgt a f) nCell) = true := h3
      exact Nat.le_of_ble_eq_true (List.all_eq_true.mp h4 f (List.mem_range.mpr h2))
  exact ⟨Nat.lt_of_lt_of_le ht (Nat.le_add_right _ _), decide_eq_true ht⟩
theorem xz_hc {L : List PC} : HC (xz L) 10 0 := ⟨xz_cl L, Nat.lt_of_lt_of_le (Nat.le_of_ble_eq_true rfl) (Nat.le_add_right _ _), decide_eq_true (show 0 < nCell from Nat.le_of_ble_eq_true rfl), rfl⟩
theorem xz_wx {L : List PC} {S : St} : WX (xz L) S = (wz (S, L), false) := by
  refine Prod.ext ?_ rfl
  show gmX (xz L) S = gm S ++ L
  apply List.ext_getElem?
  intro j
  unfold gmX
  rw [List.getElem?_map]
  by_cases hj : j < nCell
  · rw [List.getElem?_range (by show j < nCell + L.length; omega), List.getElem?_append_left (by rw [gm_len]; exact hj), gm_at hj]
    show some (if decide (j < nCell) = true then _ else _) = _
    rw [if_pos (decide_eq_true hj)]
  · rw [List.getElem?_append_right (by rw [gm_len]; omega), gm_len]
    by_cases hl : j < nCell + L.length
    · rw [List.getElem?_range (by exact hl)]
      show some (if decide (j < nCell) = true then _ else L.getD (j - nCell) (0, [])) = _
      rw [if_neg (by rw [decide_eq_true_iff]; exact hj), List.getD_eq_getElem?_getD, List.getElem?_eq_getElem (by omega)]
      rfl
    · rw [List.getElem?_eq_none (by rw [List.length_range]; show nCell + L.length ≤ j; omega), List.getElem?_eq_none (by omega)]
      rfl
/-- what stands in the class's cells points into them -/
theorem sl_ref {S S' : St} {a : Nat} (ha : a < nCell) {x : Nat} (h : .ref x ∈ sl S a) : .ref x ∈ sl S' a := by
  unfold sl at h ⊢
  split at h
  · rename_i q
    rw [if_pos q]
    obtain ⟨f, hf, e⟩ := List.mem_map.mp h
    refine List.mem_map.mpr ⟨f, hf, ?_⟩
    unfold fv at e ⊢
    split at e
    · cases e
    · cases e
    · exact e
  · rename_i q
    rw [if_neg q]
    obtain ⟨f, hf, e⟩ := List.mem_map.mp h
    refine List.mem_map.mpr ⟨f, hf, ?_⟩
    unfold av at e ⊢
    by_cases q1 : kd a = 105
    · rw [if_pos q1] at e ⊢; exact e
    · rw [if_neg q1] at e
      split at e
      · cases e
      · split at e <;> cases e
theorem gr_S {S S1 : St} {L : List PC} : Gr (wz (S, L)) (wz (S1, L)) := fun a ⟨c, hc, hk⟩ => by
  by_cases ha : a < nCell
  · exact ⟨(kd a, sl S1 a), by unfold wz; rw [List.getElem?_append_left (by rw [gm_len]; exact ha)]; exact gm_at ha, Nat.le_of_ble_eq_true (kd9 a ha)⟩
  · refine ⟨c, ?_, hk⟩
    rw [wz_at (by omega)] at hc ⊢
    exact hc
theorem wf_S {S S1 : St} {L : List PC} (h : WfW (wz (S, L))) : WfW (wz (S1, L)) := fun c hc => by
  rcases List.mem_append.mp hc with hc | hc
  · obtain ⟨a, ha, rfl⟩ := List.mem_map.mp hc
    have ha := List.mem_range.mp ha
    intro v hv
    cases v with
    | ref x =>
      have h1 : .ref x ∈ sl S a := sl_ref ha hv
      exact Sc.gr gr_S (h (kd a, sl S a) (List.mem_append_left _ (List.mem_map.mpr ⟨a, List.mem_range.mpr ha, rfl⟩)) _ h1)
    | _ => trivial
  · exact ScV.gr gr_S (h c (List.mem_append_right _ hc))
/-! what methods end with -/
def KXU (Z : LZ) : Option Value → List PC → Prop := fun v w => v = none ∧ w = wz Z
def KXI (r : Int) (Z : LZ) : Option Value → List PC → Prop := fun v w => v = some (V r) ∧ inR r ∧ w = wz Z
def KXB (b : Bool) (Z : LZ) : Option Value → List PC → Prop := fun v w => v = some (V (bi b)) ∧ w = wz Z
def KXD (r : UInt64) (Z : LZ) : Option Value → List PC → Prop := fun v w => v = some (.double r) ∧ w = wz Z
def KXR (r : Value) (Z : LZ) : Option Value → List PC → Prop := fun v w => v = some r ∧ (r = .null ∨ ∃ b, r = .ref b) ∧ w = wz Z
section WXK
variable {sc : SC} {Y : MI} {mc ms pc k n i : Nat} {ls : List (Nat × Value)} {st rest As : List Value} {Z : LZ} {S S1 : St} {L : List PC} {K : Option Value → List PC → Prop}
theorem clU (h : ∀ E, Ev E Y As (WX (xz L) S) mc ms (KU (xz L) S1)) : EvX sc Y As (wz (S, L)) mc ms (KXU (S1, L)) := by
  refine EvX.ofEv (K0 := KU (xz L) S1) (fun E => by rw [← xz_wx]; exact h E) ?_
  rintro _ _ ⟨rfl, rfl⟩
  refine ⟨_, rfl, rfl, fun x hx => (by cases hx), ?_, fun hw => ?_, rfl, ?_⟩
  all_goals rw [xz_wx]
  · exact gr_S
  · exact wf_S hw
theorem clI {r : Int} (h : ∀ E, Ev E Y As (WX (xz L) S) mc ms (KI (xz L) r S1)) : EvX sc Y As (wz (S, L)) mc ms (KXI r (S1, L)) := by
  refine EvX.ofEv (K0 := KI (xz L) r S1) (fun E => by rw [← xz_wx]; exact h E) ?_
  rintro _ _ ⟨rfl, h1, rfl⟩
  refine ⟨_, rfl, rfl, fun x hx => (by cases hx; exact fun _ => trivial), ?_, fun hw => ?_, rfl, h1, ?_⟩
  all_goals rw [xz_wx]
  · exact gr_S
  · exact wf_S hw
theorem clB {b : Bool} (h : ∀ E, Ev E Y As (WX (xz L) S) mc ms (KB (xz L) b S1)) : EvX sc Y As (wz (S, L)) mc ms (KXB b (S1, L)) := by
  refine EvX.ofEv (K0 := KB (xz L) b S1) (fun E => by rw [← xz_wx]; exact h E) ?_
  rintro _ _ ⟨rfl, rfl⟩
  refine ⟨_, rfl, rfl, fun x hx => (by cases hx; exact fun _ => trivial), ?_, fun hw => ?_, rfl, ?_⟩
  all_goals rw [xz_wx]
  · exact gr_S
  · exact wf_S hw
theorem clD {r : UInt64} (h : ∀ E, Ev E Y As (WX (xz L) S) mc ms (KD (xz L) r S1)) : EvX sc Y As (wz (S, L)) mc ms (KXD r (S1, L)) := by
  refine EvX.ofEv (K0 := KD (xz L) r S1) (fun E => by rw [← xz_wx]; exact h E) ?_
  rintro _ _ ⟨rfl, rfl⟩
  refine ⟨_, rfl, rfl, fun x hx => (by cases hx; exact fun _ => trivial), ?_, fun hw => ?_, rfl, ?_⟩
  all_goals rw [xz_wx]
  · exact gr_S
  · exact wf_S hw
/-! ends -/
theorem wx_ret (hd : decode (mBy Y) pc = .ok (.return_, 1)) (hr : mRt Y = none) (hk : k ≤ mc) (hn : n ≤ ms) : GX sc Y mc ms pc ls [] (wz Z) k n (KXU Z) := x_return hd hr hk hn ⟨rfl, rfl⟩
theorem wx_iretI {r : Int} (h0 : inR r) (hd : decode (mBy Y) pc = .ok (.ireturn, 1)) (hr : mRt Y = some .int) (hk : k ≤ mc) (hn : n ≤ ms) : GX sc Y mc ms pc ls [V r] (wz Z) k n (KXI r Z) := x_ireturn hd hr rfl hk hn ⟨rfl, h0, rfl⟩
theorem wx_iretB {b : Bool} (hd : decode (mBy Y) pc = .ok (.ireturn, 1)) (hr : mRt Y = some .boolean) (hk : k ≤ mc) (hn : n ≤ ms) : GX sc Y mc ms pc ls [V (bi b)] (wz Z) k n (KXB b Z) := x_ireturn hd hr (narB b) hk hn ⟨rfl, rfl⟩
theorem wx_aret {r : Value} {rt : FieldType} (h0 : r = .null ∨ ∃ b, r = .ref b) (hd : decode (mBy Y) pc = .ok (.areturn, 1)) (hr : mRt Y = some rt) (hrt : (∃ n, rt = .object n) ∨ ∃ t, rt = .array t) (hk : k ≤ mc) (hn : n ≤ ms) : GX sc Y mc ms pc ls [r] (wz Z) k n (KXR r Z) := x_areturn hd hr hrt h0 hk hn ⟨rfl, h0, rfl⟩
/-! after a call -/
theorem kxU {P : Option Value → List PC → Prop} (h : P none (wz Z)) : ∀ v w, KXU Z v w → P v w := fun v w q => by rw [q.1, q.2]; exact h
theorem kxI' {r : Int} {P : Option Value → List PC → Prop} (h : inR r → P (some (V r)) (wz Z)) : ∀ v w, KXI r Z v w → P v w := fun v w q => by rw [q.1, q.2.2]; exact h q.2.1
theorem kxB' {b : Bool} {P : Option Value → List PC → Prop} (h : P (some (V (bi b))) (wz Z)) : ∀ v w, KXB b Z v w → P v w := fun v w q => by rw [q.1, q.2]; exact h
theorem kxD' {r : UInt64} {P : Option Value → List PC → Prop} (h : P (some (.double r)) (wz Z)) : ∀ v w, KXD r Z v w → P v w := fun v w q => by rw [q.1, q.2]; exact h
theorem kxR {r : Value} {P : Option Value → List PC → Prop} (h : (r = .null ∨ ∃ b, r = .ref b) → P (some r) (wz Z)) : ∀ v w, KXR r Z v w → P v w := fun v w q => by rw [q.1, q.2.2]; exact h q.2.1
end WXK
