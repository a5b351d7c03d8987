/-! THE LAW'S PLAN: what stands at t holds W -/
/-- an item: size, group, side, price, ready, page, color -/
def itV (sz gr sd pr rd pg co : Int) : List Value := [V sz, V gr, V sd, V pr, V rd, V pg, V co]
/-- a list: its cell, its row, its count of changes, its room, the items -/
abbrev LA : Type := Nat × Nat × Int × Nat × List Nat
def LsA (L : List PC) (A : LA) : Prop := LsH L A.1 A.2.1 A.2.2.1 A.2.2.2.1 A.2.2.2.2
/-- a plan: its cell, its lists, its rows -/
abbrev PA : Type := Nat × (LA × LA × LA) × Nat × Nat × Nat
def pT (P : PA) : Nat := P.1
def pA (P : PA) : LA := P.2.1.1
def pS (P : PA) : LA := P.2.1.2.1
def pB (P : PA) : LA := P.2.1.2.2
def pC (P : PA) : Nat := P.2.2.1
def pP (P : PA) : Nat := P.2.2.2.1
def pK (P : PA) : Nat := P.2.2.2.2
def xA (P : PA) : List Nat := (pA P).2.2.2.2
def xS (P : PA) : List Nat := (pS P).2.2.2.2
def xB (P : PA) : List Nat := (pB P).2.2.2.2
/-- the cells of a plan -/
def fpP (P : PA) (b : Nat) : Prop := b = pT P ∨ (b = (pA P).1 ∨ b = (pA P).2.1) ∨ (b = (pS P).1 ∨ b = (pS P).2.1) ∨ (b = (pB P).1 ∨ b = (pB P).2.1) ∨ (b = pC P ∨ b = pP P ∨ b = pK P) ∨ b ∈ xA P ∨ b ∈ xS P ∨ b ∈ xB P
def adV (W : Vw) (i : Nat) : List Value := itV (W 0 i) (W 1 i) (W 3 i) (W 4 i) (W 5 i) (W 6 i) (W 2 i)
def stV (W : Vw) (i : Nat) : List Value := itV (W 7 i) 0 (W 9 i) 0 (W 10 i) (W 11 i) (W 8 i)
def sbV (W : Vw) (i : Nat) : List Value := itV (W 12 i) 0 0 0 0 (W 13 i) 0
/-- what the rows of a plan may hold: 102 of flags, 100 of hours -/
def clO (k : Nat) (vs : List Value) : Prop := vs.all (fun v => match v with | .int q => fits (aT (k - 100)) (.int q) | _ => false) = true
theorem clO_set {k f : Nat} {vs : List Value} {z : Int} (h : clO k vs) (hz : k = 100 ∨ (k = 102 ∧ (z = 0 ∨ z = 1))) : clO k (vs.set f (V z)) := by
  unfold clO at *
  rw [List.all_eq_true] at *
  intro v hv
  rcases List.mem_or_eq_of_mem_set hv with q | rfl
  · exact h v q
  · rcases hz with rfl | ⟨rfl, rfl | rfl⟩
    · rfl
    · rfl
    · rfl
def RwH (L : List PC) (k r : Nat) (W : Vw) (j : Nat) : Prop := ∃ vs, hp L r = some (k, vs) ∧ (vs.length = 8 ∧ clO k vs) ∧ ∀ f : Nat, (f : Int) < 2 * sg W → vs[f]? = some (V (W j f))
/-- the cells themselves -/
def HC0 (L : List PC) (P : PA) (W : Vw) : Prop :=
  hp L (pT P) = some (12, [V (sg W), V (pe W), V (tm W), V (lo_ W), Value.ref (pA P).1, Value.ref (pS P).1, Value.ref (pB P).1, Value.ref (pC P), Value.ref (pP P), Value.ref (pK P)]) ∧
  (LsA L (pA P) ∧ LsA L (pS P) ∧ LsA L (pB P)) ∧
  (∀ (i x : Nat), (xA P)[i]? = some x → hp L x = some (11, adV W i)) ∧ (∀ (i x : Nat), (xS P)[i]? = some x → hp L x = some (11, stV W i)) ∧ (∀ (i x : Nat), (xB P)[i]? = some x → hp L x = some (11, sbV W i)) ∧
  RwH L 102 (pC P) W 14 ∧ RwH L 102 (pP P) W 15 ∧ RwH L 100 (pK P) W 16
/-- what lies apart -/
def Apt (P : PA) : Prop := ((pA P).1 ≠ (pS P).1 ∧ (pA P).1 ≠ (pB P).1 ∧ (pS P).1 ≠ (pB P).1) ∧ ((pA P).2.1 < XB → (pA P).2.1 ≠ (pS P).2.1 ∧ (pA P).2.1 ≠ (pB P).2.1) ∧ pC P ≠ pP P ∧ (xA P ++ xS P ++ xB P).Nodup
def HP (L : List PC) (P : PA) (W : Vw) : Prop := HC0 L P W ∧ (((xA P).length : Int) = nA W ∧ ((xS P).length : Int) = nS W ∧ ((xB P).length : Int) = nB W) ∧ inR (lo_ W) ∧ Apt P
section Plans
variable {S : St} {L L' : List PC} {P : PA} {W : Vw} {F : Nat → Prop}
theorem fp_lt (h : HC0 L P W) : ∀ b, fpP P b → (∃ c, hp L b = some c) ∨ b = XB + 300 + 300 := by
  intro b hb
  have ls : ∀ A : LA, LsA L A → (b = A.1 ∨ b = A.2.1) → (∃ c, hp L b = some c) ∨ b = XB + 300 + 300 := by
    intro A hA hq
    rcases hq with rfl | rfl
    · exact .inl ⟨_, hA.2.1⟩
    · rcases hA.2.2 with ⟨e, _⟩ | ⟨vs, q, _⟩
      · exact .inr e
      · exact .inl ⟨_, q⟩
  obtain ⟨h1, ⟨h2, h3, h4⟩, h5, h6, h7, ⟨v1, h8, _⟩, ⟨v2, h9, _⟩, ⟨v3, h10, _⟩⟩ := h
  have im : ∀ (xs : List Nat) (f : Nat → List Value), (∀ (i x : Nat), xs[i]? = some x → hp L x = some (11, f i)) → b ∈ xs → ∃ c, hp L b = some c := by
    intro xs f hf hm
    obtain ⟨i, hi⟩ := List.mem_iff_getElem?.mp hm
    exact ⟨_, hf i b hi⟩
  rcases hb with rfl | hb | hb | hb | hb | hb | hb | hb
  · exact .inl ⟨_, h1⟩
  · exact ls _ h2 hb
  · exact ls _ h3 hb
  · exact ls _ h4 hb
  · rcases hb with rfl | rfl | rfl
    · exact .inl ⟨_, h8⟩
    · exact .inl ⟨_, h9⟩
    · exact .inl ⟨_, h10⟩
  · exact .inl (im _ _ h5 hb)
  · exact .inl (im _ _ h6 hb)
  · exact .inl (im _ _ h7 hb)
theorem HC0.sf (h : HC0 L P W) (hf : Sf F L L') (hF : ∀ b, fpP P b → ¬ F b) : HC0 L' P W := by
  obtain ⟨h1, ⟨h2, h3, h4⟩, h5, h6, h7, ⟨v1, h8, k8⟩, ⟨v2, h9, k9⟩, ⟨v3, h10, k10⟩⟩ := h
  have m : ∀ (xs : List Nat) i x, xs[i]? = some x → x ∈ xs := fun xs i x hx => List.mem_of_getElem? hx
  refine ⟨hf.at h1 (hF _ (.inl rfl)), ⟨h2.sf hf (hF _ (.inr (.inl (.inl rfl)))) (fun _ => hF _ (.inr (.inl (.inr rfl)))), h3.sf hf (hF _ (.inr (.inr (.inl (.inl rfl))))) (fun _ => hF _ (.inr (.inr (.inl (.inr rfl))))), h4.sf hf (hF _ (.inr (.inr (.inr (.inl (.inl rfl)))))) (fun _ => hF _ (.inr (.inr (.inr (.inl (.inr rfl))))))⟩,
    fun i x hx => hf.at (h5 i x hx) (hF _ (.inr (.inr (.inr (.inr (.inr (.inl (m _ _ _ hx)))))))), fun i x hx => hf.at (h6 i x hx) (hF _ (.inr (.inr (.inr (.inr (.inr (.inr (.inl (m _ _ _ hx))))))))), fun i x hx => hf.at (h7 i x hx) (hF _ (.inr (.inr (.inr (.inr (.inr (.inr (.inr (m _ _ _ hx))))))))),
    ⟨v1, hf.at h8 (hF _ (.inr (.inr (.inr (.inr (.inl (.inl rfl))))))), k8⟩, ⟨v2, hf.at h9 (hF _ (.inr (.inr (.inr (.inr (.inl (.inr (.inl rfl)))))))), k9⟩, ⟨v3, hf.at h10 (hF _ (.inr (.inr (.inr (.inr (.inl (.inr (.inr rfl)))))))), k10⟩⟩
theorem HP.sf (h : HP L P W) (hf : Sf F L L') (hF : ∀ b, fpP P b → ¬ F b) : HP L' P W := ⟨h.1.sf hf hF, h.2⟩
theorem HP.sf0 (h : HP L P W) (hf : Sf F0_ L L') : HP L' P W := h.sf hf (fun _ _ => id)
/-! reading -/
theorem val_in (hV : Val W) : (inR (sg W) ∧ inR (pe W) ∧ inR (tm W)) ∧ (∀ i : Nat, (i : Int) < nA W → ∀ k, k < 7 → inR (W k i)) ∧ (∀ i : Nat, (i : Int) < nS W → ∀ k, 7 ≤ k → k < 12 → inR (W k i)) ∧ (∀ i : Nat, (i : Int) < nB W → ∀ k, 12 ≤ k → k < 14 → inR (W k i)) ∧ ∀ f : Nat, (f : Int) < 2 * sg W → ∀ k, 14 ≤ k → k < 17 → inR (W k f) := by
  have pg := hV.pg
  obtain ⟨⟨-, -, -, b4, b5, b6⟩, b7, b8, b9, b10⟩ := hV
  refine ⟨⟨?_, ?_, ?_⟩, ?_, ?_, ?_, ?_⟩
  · unfold inR; omega
  · unfold inR; omega
  · unfold inR; omega
  · intro i hi k hk
    obtain ⟨q0, q1, q2, q3, q4, q5, q6⟩ := b7 i (by omega) hi
    unfold at_ at q0 q1 q2 q3 q4 q5 q6
    simp only [Int.toNat_natCast] at q0 q1 q2 q3 q4 q5 q6
    unfold inR
    match k, hk with
    | 0, _ => omega
    | 1, _ => omega
    | 2, _ => omega
    | 3, _ => omega
    | 4, _ => omega
    | 5, _ => omega
    | 6, _ => omega
  · intro i hi k h7 hk
    obtain ⟨q0, q1, q2, q3, q4⟩ := b8 i (by omega) hi
    unfold at_ at q0 q1 q2 q3 q4
    simp only [Int.toNat_natCast] at q0 q1 q2 q3 q4
    unfold inR
    match k, h7, hk with
    | 7, _, _ => omega
    | 8, _, _ => omega
    | 9, _, _ => omega
    | 10, _, _ => omega
    | 11, _, _ => omega
  · intro i hi k h7 hk
    obtain ⟨q0, q1⟩ := b9 i (by omega) hi
    unfold at_ at q0 q1
    simp only [Int.toNat_natCast] at q0 q1
    unfold inR
    match k, h7, hk with
    | 12, _, _ => omega
    | 13, _, _ => omega
  · intro i hi k h7 hk
    obtain ⟨q0, q1, q2⟩ := b10 i (by omega) hi
    unfold at_ at q0 q1 q2
    simp only [Int.toNat_natCast] at q0 q1 q2
    unfold inR
    rcases (show k = 14 ∨ k = 15 ∨ k = 16 by omega) with rfl | rfl | rfl <;> omega
theorem HP.gg (h : HP L P W) (hV : Val W) : gfI L (pT P) 12 0 = some (sg W) := gfI_s h.1.1 rfl (val_in hV).1.1
theorem HP.ss (h : HP L P W) (hV : Val W) : gfI L (pT P) 12 1 = some (pe W) := gfI_s h.1.1 rfl (val_in hV).1.2.1
theorem HP.ti (h : HP L P W) (hV : Val W) : gfI L (pT P) 12 2 = some (tm W) := gfI_s h.1.1 rfl (val_in hV).1.2.2
theorem HP.lo (h : HP L P W) : gfI L (pT P) 12 3 = some (lo_ W) := gfI_s h.1.1 rfl h.2.2.1
theorem HP.fA (h : HP L P W) : gfV L (pT P) 12 4 = some (Value.ref (pA P).1) := gfV_s h.1.1 rfl
theorem HP.fS (h : HP L P W) : gfV L (pT P) 12 5 = some (Value.ref (pS P).1) := gfV_s h.1.1 rfl
theorem HP.fB (h : HP L P W) : gfV L (pT P) 12 6 = some (Value.ref (pB P).1) := gfV_s h.1.1 rfl
theorem HP.fC (h : HP L P W) : gfV L (pT P) 12 7 = some (Value.ref (pC P)) := gfV_s h.1.1 rfl
theorem HP.fP (h : HP L P W) : gfV L (pT P) 12 8 = some (Value.ref (pP P)) := gfV_s h.1.1 rfl
theorem HP.fK (h : HP L P W) : gfV L (pT P) 12 9 = some (Value.ref (pK P)) := gfV_s h.1.1 rfl
theorem HP.k (h : HP L P W) : isK L (pT P) 12 = true := isK_s h.1.1 (by decide)
theorem HP.lA (h : HP L P W) : LsA L (pA P) := h.1.2.1.1
theorem HP.lS (h : HP L P W) : LsA L (pS P) := h.1.2.1.2.1
theorem HP.lB (h : HP L P W) : LsA L (pB P) := h.1.2.1.2.2
theorem HP.kA (h : HP L P W) : isK L (pA P).1 13 = true := h.lA.k
theorem HP.kS (h : HP L P W) : isK L (pS P).1 13 = true := h.lS.k
theorem HP.kB (h : HP L P W) : isK L (pB P).1 13 = true := h.lB.k
theorem HP.cA (h : HP L P W) : gn_AL_size (pA P).1 S L = some (nA W) := by rw [k_size h.lA]; exact congrArg some h.2.1.1
theorem HP.cS (h : HP L P W) : gn_AL_size (pS P).1 S L = some (nS W) := by rw [k_size h.lS]; exact congrArg some h.2.1.2.1
theorem HP.cB (h : HP L P W) : gn_AL_size (pB P).1 S L = some (nB W) := by rw [k_size h.lB]; exact congrArg some h.2.1.2.2
theorem at_n {k i : Nat} : at_ W k (i : Int) = W k i := by unfold at_; rw [Int.toNat_natCast]
/-- the i-th ad: its cell -/
theorem HP.ad (h : HP L P W) {i : Int} (hi : 0 ≤ i ∧ i < nA W) : ∃ x, (xA P)[i.toNat]? = some x ∧ (∀ S, gn_AL_get (pA P).1 i S L = some (Value.ref x)) ∧ hp L x = some (11, adV W i.toNat) := by
  have e := h.2.1.1
  have hx : (xA P)[i.toNat]? = some ((xA P)[i.toNat]'(by omega)) := List.getElem?_eq_getElem _
  exact ⟨_, hx, fun S => k_get h.lA hi.1 hx, h.1.2.2.1 _ _ hx⟩
theorem HP.st (h : HP L P W) {i : Int} (hi : 0 ≤ i ∧ i < nS W) : ∃ x, (xS P)[i.toNat]? = some x ∧ (∀ S, gn_AL_get (pS P).1 i S L = some (Value.ref x)) ∧ hp L x = some (11, stV W i.toNat) := by
  have e := h.2.1.2.1
  have hx : (xS P)[i.toNat]? = some ((xS P)[i.toNat]'(by omega)) := List.getElem?_eq_getElem _
  exact ⟨_, hx, fun S => k_get h.lS hi.1 hx, h.1.2.2.2.1 _ _ hx⟩
theorem HP.sb (h : HP L P W) {i : Int} (hi : 0 ≤ i ∧ i < nB W) : ∃ x, (xB P)[i.toNat]? = some x ∧ (∀ S, gn_AL_get (pB P).1 i S L = some (Value.ref x)) ∧ hp L x = some (11, sbV W i.toNat) := by
  have e := h.2.1.2.2
  have hx : (xB P)[i.toNat]? = some ((xB P)[i.toNat]'(by omega)) := List.getElem?_eq_getElem _
  exact ⟨_, hx, fun S => k_get h.lB hi.1 hx, h.1.2.2.2.2.1 _ _ hx⟩
/-- the fields of an ad -/
theorem ad_f {x : Nat} {i : Int} (hV : Val W) (hi : 0 ≤ i ∧ i < nA W) (hx : hp L x = some (11, adV W i.toNat)) : isK L x 11 = true ∧ gfI L x 11 0 = some (at_ W 0 i) ∧ gfI L x 11 1 = some (at_ W 1 i) ∧ gfI L x 11 2 = some (at_ W 3 i) ∧ gfI L x 11 3 = some (at_ W 4 i) ∧ gfI L x 11 4 = some (at_ W 5 i) ∧ gfI L x 11 5 = some (at_ W 6 i) ∧ gfI L x 11 6 = some (at_ W 2 i) := by
  have q := (val_in hV).2.1 i.toNat (by omega)
  exact ⟨isK_s hx (by decide), gfI_s hx rfl (q 0 (by decide)), gfI_s hx rfl (q 1 (by decide)), gfI_s hx rfl (q 3 (by decide)), gfI_s hx rfl (q 4 (by decide)), gfI_s hx rfl (q 5 (by decide)), gfI_s hx rfl (q 6 (by decide)), gfI_s hx rfl (q 2 (by decide))⟩
theorem inR_0 : inR 0 := by unfold inR; omega
theorem st_f {x : Nat} {i : Int} (hV : Val W) (hi : 0 ≤ i ∧ i < nS W) (hx : hp L x = some (11, stV W i.toNat)) : isK L x 11 = true ∧ gfI L x 11 0 = some (at_ W 7 i) ∧ gfI L x 11 1 = some 0 ∧ gfI L x 11 2 = some (at_ W 9 i) ∧ gfI L x 11 3 = some 0 ∧ gfI L x 11 4 = some (at_ W 10 i) ∧ gfI L x 11 5 = some (at_ W 11 i) ∧ gfI L x 11 6 = some (at_ W 8 i) := by
  have q := (val_in hV).2.2.1 i.toNat (by omega)
  exact ⟨isK_s hx (by decide), gfI_s hx rfl (q 7 (by decide) (by decide)), gfI_s hx rfl inR_0, gfI_s hx rfl (q 9 (by decide) (by decide)), gfI_s hx rfl inR_0, gfI_s hx rfl (q 10 (by decide) (by decide)), gfI_s hx rfl (q 11 (by decide) (by decide)), gfI_s hx rfl (q 8 (by decide) (by decide))⟩
theorem sb_f {x : Nat} {i : Int} (hV : Val W) (hi : 0 ≤ i ∧ i < nB W) (hx : hp L x = some (11, sbV W i.toNat)) : isK L x 11 = true ∧ gfI L x 11 0 = some (at_ W 12 i) ∧ gfI L x 11 5 = some (at_ W 13 i) := by
  have q := (val_in hV).2.2.2.1 i.toNat (by omega)
  exact ⟨isK_s hx (by decide), gfI_s hx rfl (q 12 (by decide) (by decide)), gfI_s hx rfl (q 13 (by decide) (by decide))⟩
theorem HP.co (h : HP L P W) (hV : Val W) {f : Int} (hf : 0 ≤ f ∧ f < 2 * sg W) : ald L 2 (pC P) f = some (at_ W 14 f) := by
  obtain ⟨vs, q1, q2, q3⟩ := h.1.2.2.2.2.2.1
  exact ald_s (t := 2) q1 hf.1 (q3 f.toNat (by omega)) ((val_in hV).2.2.2.2 f.toNat (by omega) 14 (by decide) (by decide))
theorem HP.pr (h : HP L P W) (hV : Val W) {f : Int} (hf : 0 ≤ f ∧ f < 2 * sg W) : ald L 2 (pP P) f = some (at_ W 15 f) := by
  obtain ⟨vs, q1, q2, q3⟩ := h.1.2.2.2.2.2.2.1
  exact ald_s (t := 2) q1 hf.1 (q3 f.toNat (by omega)) ((val_in hV).2.2.2.2 f.toNat (by omega) 15 (by decide) (by decide))
theorem HP.cl (h : HP L P W) (hV : Val W) {f : Int} (hf : 0 ≤ f ∧ f < 2 * sg W) : ald L 0 (pK P) f = some (at_ W 16 f) := by
  obtain ⟨vs, q1, q2, q3⟩ := h.1.2.2.2.2.2.2.2
  exact ald_s (t := 0) q1 hf.1 (q3 f.toNat (by omega)) ((val_in hV).2.2.2.2 f.toNat (by omega) 16 (by decide) (by decide))
/-! pages and forms -/
theorem l_pages (h : HP L P W) (hV : Val W) : gn_LP_pages (pT P) S L = some (pgs W) := by
  have b := hV.pg
  unfold gn_LP_pages
  rw [h.gg hV, bnO_s, h.ss hV, bnO_s, nm_x]
  exact congrArg some (wr_s (by show _ ≤ pgs W; omega) (by show pgs W < _; omega))
theorem l_form (h : HP L P W) (hV : Val W) {p : Int} (h1 : 1 ≤ p) (h2 : p ≤ 1000) : gn_LP_form (pT P) p S L = some (fOf W p) := by
  have hv := hV.1
  obtain ⟨-, -, -, b4, b5, b6⟩ := hv
  have hp : 0 < pe W := by omega
  have q1 : 0 ≤ (p - 1) / pe W := Int.ediv_nonneg (by omega) (by omega)
  have q2 : (p - 1) / pe W ≤ p - 1 := Int.ediv_le_self _ (by omega)
  have q3 := Int.emod_nonneg (p - 1) (b := pe W) (by omega)
  have q4 := Int.emod_lt_of_pos (p - 1) (b := pe W) (by omega)
  unfold gn_LP_form fOf
  simp only [h.ss hV, bnO_s, nm_x, wr_s (z := p - 1) (by omega) (by omega), tm_n (a := p - 1) (b := pe W) (by omega), td_n (a := p - 1) (b := pe W) (by omega), wr_s (z := (p - 1) % pe W) (by omega) (by omega), tm_n (a := (p - 1) % pe W) (b := 4) q3, wr_s (z := (p - 1) % pe W % 4) (by omega) (by omega), wr_s (z := 2 * ((p - 1) / pe W) + 1) (by omega) (by omega), wr_s (z := 2 * ((p - 1) / pe W) + 0) (by omega) (by omega), if_pos hp]
  by_cases c1 : (p - 1) % pe W % 4 = 1
  · rw [if_pos c1, if_neg (by omega)]
  · rw [if_neg c1]
    by_cases c2 : (p - 1) % pe W % 4 = 2
    · rw [if_pos c2, if_neg (by omega)]
    · rw [if_neg c2, if_pos (by omega)]
theorem l_fb (hV : Val W) {p : Int} (h1 : 1 ≤ p) (h2 : p ≤ pgs W) : 0 ≤ fOf W p ∧ fOf W p < 2 * sg W := by
  obtain ⟨-, -, -, h3, h4, -⟩ := hV.1
  have e : pgs W = sg W * pe W := rfl
  have hp : 0 < pe W := by omega
  have q1 : 0 ≤ (p - 1) / pe W := Int.ediv_nonneg (by omega) (by omega)
  have q2 : (p - 1) / pe W < sg W := Int.ediv_lt_of_lt_mul hp (by omega)
  unfold fOf
  split <;> omega
theorem l_isShut (h : HP L P W) (hV : Val W) {p : Int} (h1 : 1 ≤ p) (h2 : p ≤ pgs W) : gn_LP_isShut (pT P) p S L = some (prP W p) := by
  have b := l_fb hV h1 h2
  have v := hV.2.2.2.2 _ b.1 b.2
  have pg := hV.pg
  unfold gn_LP_isShut prP
  simp only [h.fP, bnO_s, h.k, eq_self, if_true, l_form h hV h1 (by omega), rfB_r, h.pr hV b]
  rcases v.2.1 with e | e <;> rw [e] <;> rfl
end Plans
