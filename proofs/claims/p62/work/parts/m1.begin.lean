/-! A PLAN OF THE LAW'S BEGUN, ITS LISTS GROWN -/
section Beg
variable {S : St} {L L' : List PC} {P : PA} {W W' : Vw}
def aS (P : PA) (r : Nat) (m : Int) (cp x : Nat) : PA := (pT P, (pA P, ((pS P).1, r, m, cp, xS P ++ [x]), pB P), pC P, pP P, pK P)
def aB (P : PA) (r : Nat) (m : Int) (cp x : Nat) : PA := (pT P, (pA P, pS P, ((pB P).1, r, m, cp, xB P ++ [x])), pC P, pP P, pK P)
theorem HP.addS {x r' cp' : Nat} {m' : Int} {v : List Value} (h : HP L P W) (hlen : L.length ≤ L'.length) (hl : LsH L' (pS P).1 r' m' cp' (xS P ++ [x])) (hf : ∀ b, b ≠ (pS P).1 → b ≠ r' → hp L' b = hp L b) (hr : r' = (pS P).2.1 ∨ r' = nCell + L.length) (hSB : (pS P).2.1 < XB → (pS P).2.1 ≠ (pB P).2.1)
    (hx : hp L x = some (11, v)) (hxn : ¬ fpP P x) (v1 : v = stV W' (xS P).length) (vS : ∀ i : Nat, (i : Int) < nS W → stV W' i = stV W i) (vA : ∀ i, adV W' i = adV W i) (vB : ∀ i, sbV W' i = sbV W i)
    (vn : nA W' = nA W ∧ nS W' = nS W + 1 ∧ nB W' = nB W ∧ sg W' = sg W ∧ pe W' = pe W ∧ tm W' = tm W ∧ lo_ W' = lo_ W) (vF : ∀ k i : Nat, 14 ≤ k → k < 17 → W' k i = W k i) : HP L' (aS P r' m' cp' x) W' := by
  have keep : ∀ {b k : Nat} {vs : List Value}, hp L b = some (k, vs) → (k ≠ 13 ∧ k ≠ 103) → hp L' b = some (k, vs) := fun hb hk => add_keep h.lS hr hf hb hk
  obtain ⟨n1, n2, n3, n4, n5, n6, n7⟩ := vn
  obtain ⟨⟨q1, q2, q3⟩, q4, q5, q6⟩ := h.2.2.2
  have sf : Sf (fun b => b = (pS P).1 ∨ b = r') L L' := ⟨hlen, fun b _ hb => hf b (fun e => hb (.inl e)) (fun e => hb (.inr e))⟩
  have hrow : ∀ (A : LA), LsA L A → (r' < XB → r' ≠ A.2.1) ∨ (r' = (pS P).2.1) := fun A hA => by
    rcases hr with e | e
    · exact .inr e
    · refine .inl (fun hx2 => ?_)
      rcases hA.2.2 with ⟨e2, _⟩ | ⟨vs, e2, _⟩
      · omega
      · have := hp_lt e2; omega
  have lst : ∀ A : LA, LsA L A → A.1 ≠ (pS P).1 → ((pS P).2.1 < XB → (pS P).2.1 ≠ A.2.1) → LsA L' A := fun A hA ha hb => by
    refine LsH.sf hA sf (fun q => ?_) (fun q1 q2 => ?_)
    · rcases q with q | q
      · exact ha q
      · rcases hr with e | e
        · rcases h.lS.2.2 with ⟨e2, _⟩ | ⟨vs, e2, _⟩
          · have := (hp_bd hA.2.1).2.1; omega
          · rw [← e, ← q] at e2
            exact hp_ne hA.2.1 e2 (by decide) rfl
        · have := hp_lt hA.2.1; omega
    · rcases hA.2.2 with ⟨e2, _⟩ | ⟨vs, e2, _⟩
      · omega
      · rcases q2 with q | q
        · rw [q] at e2
          exact hp_ne h.lS.2.1 e2 (by decide) rfl
        · rcases hr with e | e
          · exact hb (by omega) (by omega)
          · have := hp_lt e2; omega
  have rw_ : ∀ {k r j : Nat}, RwH L k r W j → (k ≠ 13 ∧ k ≠ 103) → 14 ≤ j ∧ j < 17 → RwH L' k r W' j := fun hR hk hj => by
    obtain ⟨vs, e1, e2, e3⟩ := hR
    refine ⟨vs, keep e1 hk, e2, fun f hf => ?_⟩
    rw [n4] at hf
    rw [e3 f hf, vF _ _ hj.1 hj.2]
  obtain ⟨c1, c2, c3, c4, c5, c6, c7, c8⟩ := h.1
  refine ⟨⟨?_, ⟨lst (pA P) h.lA q1 (fun z e => (q4 (by rw [← e]; exact z)).1 e.symm), hl, lst (pB P) h.lB (fun e => q3 e.symm) hSB⟩, fun i y hy => ?_, fun i y hy => ?_, fun i y hy => ?_, rw_ c6 (by decide) (by decide), rw_ c7 (by decide) (by decide), rw_ c8 (by decide) (by decide)⟩, ⟨?_, ?_, ?_⟩, ?_, ⟨⟨q1, q2, q3⟩, fun z => ?_, q5, ?_⟩⟩
  · rw [n4, n5, n6, n7]
    exact keep c1 (by decide)
  · rw [vA i]
    exact keep (c3 i y hy) (by decide)
  · have hy : (xS P ++ [x])[i]? = some y := hy
    by_cases d : i < (xS P).length
    · rw [List.getElem?_append_left d] at hy
      rw [vS i (by have := h.2.1.2.1; omega)]
      exact keep (c4 i y hy) (by decide)
    · rw [List.getElem?_append_right (by omega)] at hy
      have : i - (xS P).length = 0 := by
        have := (List.getElem?_eq_some_iff.mp hy).1
        have e : [x].length = 1 := rfl
        omega
      rw [this] at hy
      have e : x = y := Option.some.inj hy
      have ei : i = (xS P).length := by omega
      rw [← e, ei, ← v1]
      exact keep hx (by decide)
  · rw [vB i]
    exact keep (c5 i y hy) (by decide)
  · rw [n1]; exact h.2.1.1
  · show (((xS P ++ [x]).length : Nat) : Int) = _
    rw [List.length_append, n2, ← h.2.1.2.1]
    rfl
  · rw [n3]; exact h.2.1.2.2
  · rw [n7]; exact h.2.2.1
  · refine ⟨fun e => ?_, (q4 z).2⟩
    have e : (pA P).2.1 = r' := e
    rcases hrow _ h.lA with e2 | e2
    · exact e2 (by rw [← e]; exact z) e.symm
    · exact (q4 z).1 (e.trans e2)
  · show (xA P ++ (xS P ++ [x]) ++ xB P).Nodup
    rw [← List.append_assoc]
    refine nodup_mid q6 (fun e => ?_) (fun e => hxn (.inr (.inr (.inr (.inr (.inr (.inr (.inr e))))))))
    rcases List.mem_append.mp e with e | e
    · exact hxn (.inr (.inr (.inr (.inr (.inr (.inl e))))))
    · exact hxn (.inr (.inr (.inr (.inr (.inr (.inr (.inl e)))))))
theorem HP.addB {x r' cp' : Nat} {m' : Int} {v : List Value} (h : HP L P W) (hlen : L.length ≤ L'.length) (hl : LsH L' (pB P).1 r' m' cp' (xB P ++ [x])) (hf : ∀ b, b ≠ (pB P).1 → b ≠ r' → hp L' b = hp L b) (hr : r' = (pB P).2.1 ∨ r' = nCell + L.length) (hSB : (pS P).2.1 < XB → (pS P).2.1 ≠ (pB P).2.1)
    (hx : hp L x = some (11, v)) (hxn : ¬ fpP P x) (v1 : v = sbV W' (xB P).length) (vB : ∀ i : Nat, (i : Int) < nB W → sbV W' i = sbV W i) (vA : ∀ i, adV W' i = adV W i) (vS : ∀ i, stV W' i = stV W i)
    (vn : nA W' = nA W ∧ nS W' = nS W ∧ nB W' = nB W + 1 ∧ sg W' = sg W ∧ pe W' = pe W ∧ tm W' = tm W ∧ lo_ W' = lo_ W) (vF : ∀ k i : Nat, 14 ≤ k → k < 17 → W' k i = W k i) : HP L' (aB P r' m' cp' x) W' := by
  have keep : ∀ {b k : Nat} {vs : List Value}, hp L b = some (k, vs) → (k ≠ 13 ∧ k ≠ 103) → hp L' b = some (k, vs) := fun hb hk => add_keep h.lB hr hf hb hk
  obtain ⟨n1, n2, n3, n4, n5, n6, n7⟩ := vn
  obtain ⟨⟨q1, q2, q3⟩, q4, q5, q6⟩ := h.2.2.2
  have sf : Sf (fun b => b = (pB P).1 ∨ b = r') L L' := ⟨hlen, fun b _ hb => hf b (fun e => hb (.inl e)) (fun e => hb (.inr e))⟩
  have hrow : ∀ (A : LA), LsA L A → (r' < XB → r' ≠ A.2.1) ∨ (r' = (pB P).2.1) := fun A hA => by
    rcases hr with e | e
    · exact .inr e
    · refine .inl (fun hx2 => ?_)
      rcases hA.2.2 with ⟨e2, _⟩ | ⟨vs, e2, _⟩
      · omega
      · have := hp_lt e2; omega
  have lst : ∀ A : LA, LsA L A → A.1 ≠ (pB P).1 → ((pB P).2.1 < XB → (pB P).2.1 ≠ A.2.1) → LsA L' A := fun A hA ha hb => by
    refine LsH.sf hA sf (fun q => ?_) (fun q1 q2 => ?_)
    · rcases q with q | q
      · exact ha q
      · rcases hr with e | e
        · rcases h.lB.2.2 with ⟨e2, _⟩ | ⟨vs, e2, _⟩
          · have := (hp_bd hA.2.1).2.1; omega
          · rw [← e, ← q] at e2
            exact hp_ne hA.2.1 e2 (by decide) rfl
        · have := hp_lt hA.2.1; omega
    · rcases hA.2.2 with ⟨e2, _⟩ | ⟨vs, e2, _⟩
      · omega
      · rcases q2 with q | q
        · rw [q] at e2
          exact hp_ne h.lB.2.1 e2 (by decide) rfl
        · rcases hr with e | e
          · exact hb (by omega) (by omega)
          · have := hp_lt e2; omega
  have rw_ : ∀ {k r j : Nat}, RwH L k r W j → (k ≠ 13 ∧ k ≠ 103) → 14 ≤ j ∧ j < 17 → RwH L' k r W' j := fun hR hk hj => by
    obtain ⟨vs, e1, e2, e3⟩ := hR
    refine ⟨vs, keep e1 hk, e2, fun f hf => ?_⟩
    rw [n4] at hf
    rw [e3 f hf, vF _ _ hj.1 hj.2]
  obtain ⟨c1, c2, c3, c4, c5, c6, c7, c8⟩ := h.1
  refine ⟨⟨?_, ⟨lst (pA P) h.lA q2 (fun z e => (q4 (by rw [← e]; exact z)).2 e.symm), lst (pS P) h.lS q3 (fun z e => hSB (by rw [← e]; exact z) e.symm), hl⟩, fun i y hy => ?_, fun i y hy => ?_, fun i y hy => ?_, rw_ c6 (by decide) (by decide), rw_ c7 (by decide) (by decide), rw_ c8 (by decide) (by decide)⟩, ⟨?_, ?_, ?_⟩, ?_, ⟨⟨q1, q2, q3⟩, fun z => ?_, q5, ?_⟩⟩
  · rw [n4, n5, n6, n7]
    exact keep c1 (by decide)
  · rw [vA i]
    exact keep (c3 i y hy) (by decide)
  · rw [vS i]
    exact keep (c4 i y hy) (by decide)
  · have hy : (xB P ++ [x])[i]? = some y := hy
    by_cases d : i < (xB P).length
    · rw [List.getElem?_append_left d] at hy
      rw [vB i (by have := h.2.1.2.2; omega)]
      exact keep (c5 i y hy) (by decide)
    · rw [List.getElem?_append_right (by omega)] at hy
      have : i - (xB P).length = 0 := by
        have := (List.getElem?_eq_some_iff.mp hy).1
        have e : [x].length = 1 := rfl
        omega
      rw [this] at hy
      have e : x = y := Option.some.inj hy
      have ei : i = (xB P).length := by omega
      rw [← e, ei, ← v1]
      exact keep hx (by decide)
  · rw [n1]; exact h.2.1.1
  · rw [n2]; exact h.2.1.2.1
  · show (((xB P ++ [x]).length : Nat) : Int) = _
    rw [List.length_append, n3, ← h.2.1.2.2]
    rfl
  · rw [n7]; exact h.2.2.1
  · refine ⟨(q4 z).1, fun e => ?_⟩
    have e : (pA P).2.1 = r' := e
    rcases hrow _ h.lA with e2 | e2
    · exact e2 (by rw [← e]; exact z) e.symm
    · exact (q4 z).2 (e.trans e2)
  · show (xA P ++ xS P ++ (xB P ++ [x])).Nodup
    rw [← List.append_assoc, ← List.append_nil ((xA P ++ xS P ++ xB P) ++ [x])]
    refine nodup_mid (by rw [List.append_nil]; exact q6) (fun e => ?_) List.not_mem_nil
    rcases List.mem_append.mp e with e | e
    · rcases List.mem_append.mp e with e | e
      · exact hxn (.inr (.inr (.inr (.inr (.inr (.inl e))))))
      · exact hxn (.inr (.inr (.inr (.inr (.inr (.inr (.inl e)))))))
    · exact hxn (.inr (.inr (.inr (.inr (.inr (.inr (.inr e)))))))
/-- a plan begun -/
theorem HP_em {t q : Nat} {s e : Int} (hs : 1 ≤ s ∧ s ≤ 4) (h0 : hp L t = some (12, [V s, V e, V 0, V 0, Value.ref q, Value.ref (q + 1), Value.ref (q + 2), Value.ref (q + 3), Value.ref (q + 4), Value.ref (q + 5)]))
    (h1 : LsH L q (XB + 300 + 300) 0 0 []) (h2 : LsH L (q + 1) (XB + 300 + 300) 0 0 []) (h3 : LsH L (q + 2) (XB + 300 + 300) 0 0 []) (h4 : hp L (q + 3) = some (102, z8)) (h5 : hp L (q + 4) = some (102, z8)) (h6 : hp L (q + 5) = some (100, m8)) :
    HP L (t, ((q, XB + 300 + 300, 0, 0, []), (q + 1, XB + 300 + 300, 0, 0, []), (q + 2, XB + 300 + 300, 0, 0, [])), q + 3, q + 4, q + 5) (emV s e) := by
  have nil : ∀ {f : Nat → List Value} (i x : Nat), ([] : List Nat)[i]? = some x → hp L x = some (11, f i) := fun i x h => by
    rw [List.getElem?_nil] at h; cases h
  refine ⟨⟨h0, ⟨h1, h2, h3⟩, nil, nil, nil, ⟨z8, h4, z8_ok, fun f hf => ?_⟩, ⟨z8, h5, z8_ok, fun f hf => ?_⟩, ⟨m8, h6, m8_ok, fun f hf => ?_⟩⟩, ⟨rfl, rfl, rfl⟩, (show inR 0 from inR_0), ⟨⟨by show q ≠ q + 1; omega, by show q ≠ q + 2; omega, by show q + 1 ≠ q + 2; omega⟩, fun z => by have z : XB + 300 + 300 < XB := z; omega, by show q + 3 ≠ q + 4; omega, List.nodup_nil⟩⟩
  · have hf : (f : Int) < 2 * s := hf
    exact z8_at f (by omega)
  · have hf : (f : Int) < 2 * s := hf
    exact z8_at f (by omega)
  · have hf : (f : Int) < 2 * s := hf
    rw [m8_at f (by omega)]
    show _ = some (V (if (16 : Nat) = 16 then (if (f : Int) < 2 * s then -1 else 0) else _))
    rw [if_pos rfl, if_pos hf]
end Beg
