/-! THE PLANS KEPT -/
section His
variable {S : St} {L L' L1 : List PC} {P P' P1 Q : PA} {W W' W1' : Vw} {c3 : Nat} {H H1 H2 : List (PA × Vw)} {F : Nat → Prop} {n : Int} {hs : Int → Vw} {T : Int}
theorem Sf.cut (h : Sf F L L') : Sf (fun b => F b ∧ b < XB) L L' := ⟨h.1, fun b hb hF => by
  by_cases c : F b
  · have hx : ¬ b < XB := fun q => hF ⟨c, q⟩
    unfold hp
    rw [if_neg (fun q => hx q.2), if_neg (fun q => hx q.2)]
  · exact h.2 b hb c⟩
/-- two plans have no cell in common -/
def Dj (P Q : PA) : Prop := ∀ b, fpP P b → b < XB → ¬ fpP Q b
theorem Dj.symm (h : Dj P Q) : Dj Q P := fun b h1 h2 h3 => h b h3 h2 h1
def HsO (L : List PC) (P : PA) (c3 : Nat) (H : List (PA × Vw)) : Prop := (∃ r m cp, LsH L c3 r m cp (H.map (fun e => pT e.1)) ∧ (∀ b, (b = c3 ∨ b = r) → b < XB → ¬ fpP P b) ∧ ∀ e ∈ H, ∀ b, (b = c3 ∨ b = r) → b < XB → ¬ fpP e.1 b) ∧ (∀ e ∈ H, HP L e.1 e.2 ∧ Dj e.1 P) ∧ H.Pairwise (fun e e' => Dj e.1 e'.1)
theorem HsO.sf (h : HsO L P c3 H) (hs : Sf (fpP P) L L') (hf : ∀ b, fpP P' b → fpP P b ∨ nCell + L.length ≤ b) : HsO L' P' c3 H := by
  obtain ⟨⟨r, m, cp, h1, h2, h3⟩, h4, h5⟩ := h
  have ho := h1.old
  have cx := (hp_bd h1.2.1).2.1
  refine ⟨⟨r, m, cp, h1.sf hs (h2 c3 (.inl rfl) cx) (fun hx => h2 r (.inr rfl) hx), fun b hb hx q => ?_, h3⟩, fun e he => ⟨(h4 e he).1.sf hs.cut (fun b hb hF => (h4 e he).2 b hb hF.2 hF.1), fun b hb hx q => ?_⟩, h5⟩
  · rcases hf b q with q | q
    · exact h2 b hb hx q
    · rcases hb with e | e
      · rw [e] at q; omega
      · rw [e] at q hx
        have := ho.2 hx
        omega
  · rcases hf b q with q | q
    · exact (h4 e he).2 b hb hx q
    · have := fp_old (h4 e he).1 b hb hx
      omega
theorem HsO.sf0 (h : HsO L P c3 H) (hs : Sf F0_ L L') : HsO L' P c3 H := h.sf (hs.mono (fun _ q => q.elim)) (fun _ q => .inl q)
theorem HsO.ok (h : HsO L P c3 H) : ∀ y ∈ H.map (fun e => pT e.1), okE L (Value.ref y) = true := fun y hy => by
  obtain ⟨e, he, rfl⟩ := List.mem_map.mp hy
  exact okE_i (h.2.1 e he).1.1.1 (.inr (.inl rfl))
theorem HsO.k (h : HsO L P c3 H) : isK L c3 13 = true := by
  obtain ⟨⟨r, m, cp, h1, -⟩, -⟩ := h
  exact h1.k
theorem HsO.size (h : HsO L P c3 H) : gn_AL_size c3 S L = some (H.length : Int) := by
  obtain ⟨⟨r, m, cp, h1, -⟩, -⟩ := h
  rw [k_size h1, List.length_map]
theorem HsO.emp (h : HsO L P c3 H) : gn_AL_isEmpty c3 S L = some (decide (H = [])) := by
  obtain ⟨⟨r, m, cp, h1, -⟩, -⟩ := h
  rw [k_isEmpty h1]
  cases H with
  | nil => rfl
  | cons e l => rfl
/-- one more -/
theorem HsO.push (h : HsO L P c3 H) (hP : HP L P W) (h1 : HP L P1 W1') (d1 : Dj P1 P) (dl : ∀ b, fpP P1 b → b < XB → ∃ K : List PC, (∃ r m cp, LsH K c3 r m cp (H.map (fun e => pT e.1)) ∧ LsH L c3 r m cp (H.map (fun e => pT e.1))) ∧ nCell + K.length ≤ b) (de : ∀ e ∈ H, Dj e.1 P1) (hn : H.length ≤ 49) (hL : L.length < 800000000) :
    ∃ L1 c s, gn_AL_add c3 (Value.ref (pT P1)) S L = some ((true, (S, L1)), c, s) ∧ (c ≤ 1 ∧ s ≤ 73) ∧ HsO L1 P c3 (H ++ [(P1, W1')]) ∧ HP L1 P W ∧ L1.length ≤ L.length + 1 := by
  have hok := h.ok
  obtain ⟨⟨r, m, cp, l1, l2, l3⟩, l4, l5⟩ := h
  have cx := (hp_bd l1.2.1).2.1
  obtain ⟨L1, r', m', cp', c, s, e, b, a1, a2, a3, a4, a5⟩ := k_addAny (S := S) l1 (okE_i h1.1.1 (.inr (.inl rfl))) hok (by rw [List.length_map]; exact hn) hL
  have sf : Sf (fun b => b = c3 ∨ b = r') L L1 := ⟨a4, fun b hb hF => a3 b (fun q => hF (.inl q)) (fun q => hF (.inr q))⟩
  have ap : ∀ (Q : PA) (V : Vw), HP L Q V → (∀ b, (b = c3 ∨ b = r) → b < XB → ¬ fpP Q b) → (∀ b, fpP Q b → b < XB → ¬ (b = c3 ∨ b = r')) := fun Q V hQ hq b hb hx hF => by
    rcases hF with q | q
    · exact hq b (.inl q) hx hb
    · rcases a2 with e2 | e2
      · exact hq b (.inr (q.trans e2)) hx hb
      · have := fp_old hQ b hb hx
        omega
  have keep : ∀ (Q : PA) (V : Vw), HP L Q V → (∀ b, (b = c3 ∨ b = r) → b < XB → ¬ fpP Q b) → HP L1 Q V := fun Q V hQ hq => hQ.sf sf.cut (fun b hb hF => ap Q V hQ hq b hb hF.2 hF.1)
  have q1 : ∀ b, (b = c3 ∨ b = r) → b < XB → ¬ fpP P1 b := fun b hb hx q => by
    obtain ⟨K, ⟨r2, m2, cp2, x1, x2⟩, x3⟩ := dl b q hx
    have o := x1.old
    have er : r2 = r := by
      have z1 := x2.2.1
      have z2 := l1.2.1
      rw [z1] at z2
      have z3 := (Prod.mk.inj (Option.some.inj z2)).2
      have z4 : Value.ref r2 = Value.ref r := (List.cons.inj z3).1
      exact Value.ref.inj z4
    rcases hb with e | e
    · rw [e] at x3; omega
    · rw [e, ← er] at x3 hx
      have := o.2 (by rw [er]; rw [er] at hx; exact hx)
      omega
  refine ⟨L1, c, s, e, b, ⟨⟨r', m', cp', by rw [List.map_append]; exact a1, fun b hb hx q => ap P W hP l2 b q hx hb, fun x hx b hb hb2 q => ?_⟩, fun x hx => ?_, ?_⟩, keep P W hP l2, a5⟩
  · rcases List.mem_append.mp hx with hx | hx
    · exact ap x.1 x.2 (l4 x hx).1 (l3 x hx) b q hb2 hb
    · rw [List.mem_singleton.mp hx] at q
      exact ap P1 W1' h1 q1 b q hb2 hb
  · rcases List.mem_append.mp hx with hx | hx
    · exact ⟨keep x.1 x.2 (l4 x hx).1 (l3 x hx), (l4 x hx).2⟩
    · rw [List.mem_singleton.mp hx]
      exact ⟨keep P1 W1' h1 q1, d1⟩
  · refine List.pairwise_append.mpr ⟨l5, List.pairwise_singleton _ _, fun x hx y hy => ?_⟩
    rw [List.mem_singleton.mp hy]
    exact de x hx
theorem er_mid {α : Type} : ∀ (A : List α) (x : α) (B : List α), (A ++ x :: B).eraseIdx A.length = A ++ B
  | [], _, _ => rfl
  | a :: A, x, B => congrArg (a :: ·) (er_mid A x B)
theorem at_mid {α : Type} : ∀ (A : List α) (x : α) (B : List α), (A ++ x :: B)[A.length]? = some x
  | [], _, _ => rfl
  | _ :: A, x, B => at_mid A x B
/-- one less -/
theorem HsO.del {e : PA × Vw} (h : HsO L P c3 (H1 ++ e :: H2)) (hP : HP L P W) :
    ∃ L1, gn_AL_remove c3 (H1.length : Int) S L = some ((Value.ref (pT e.1), (S, L1)), 0, 0) ∧ HsO L1 P c3 (H1 ++ H2) ∧ HP L1 P W ∧ HP L1 e.1 e.2 ∧ (H2 = [] → HsO L1 e.1 c3 H1) ∧ L1.length = L.length := by
  have hok := h.ok
  obtain ⟨⟨r, m, cp, l1, l2, l3⟩, l4, l5⟩ := h
  have em : (H1 ++ e :: H2).map (fun e => pT e.1) = H1.map (fun e => pT e.1) ++ pT e.1 :: H2.map (fun e => pT e.1) := by rw [List.map_append, List.map_cons]
  have hlen : (H1.map (fun e => pT e.1)).length = H1.length := List.length_map _
  obtain ⟨L1, m1, x1, x2, x3, x4⟩ := k_remove (S := S) (i := H1.length) (y := pT e.1) l1 (by rw [em, ← hlen]; exact at_mid _ _ _) hok
  have x2' : LsH L1 c3 r m1 cp ((H1 ++ H2).map (fun e => pT e.1)) := by
    rw [em, ← hlen, er_mid] at x2
    rw [List.map_append]
    exact x2
  have sf : Sf (fun b => b = c3 ∨ b = r) L L1 := ⟨by omega, fun b hb hF => x4 b (fun q => hF (.inl q)) (fun q => hF (.inr q))⟩
  have keep : ∀ (Q : PA) (V : Vw), HP L Q V → (∀ b, (b = c3 ∨ b = r) → b < XB → ¬ fpP Q b) → HP L1 Q V := fun Q V hQ hq => hQ.sf sf.cut (fun b hb hF => hq b hF.1 hF.2 hb)
  have me : e ∈ H1 ++ e :: H2 := List.mem_append_right _ List.mem_cons_self
  have m12 : ∀ x ∈ H1 ++ H2, x ∈ H1 ++ e :: H2 := fun x hx => by
    rcases List.mem_append.mp hx with q | q
    · exact List.mem_append_left _ q
    · exact List.mem_append_right _ (List.mem_cons_of_mem _ q)
  obtain ⟨p1, p2, p3⟩ := List.pairwise_append.mp l5
  obtain ⟨p4, p5⟩ := List.pairwise_cons.mp p2
  refine ⟨L1, x1, ⟨⟨r, m1, cp, x2', l2, fun x hx => l3 x (m12 x hx)⟩, fun x hx => ⟨keep x.1 x.2 (l4 x (m12 x hx)).1 (l3 x (m12 x hx)), (l4 x (m12 x hx)).2⟩, List.pairwise_append.mpr ⟨p1, p5, fun x hx y hy => p3 x hx y (List.mem_cons_of_mem _ hy)⟩⟩, keep P W hP l2, keep e.1 e.2 (l4 e me).1 (l3 e me), fun hn => ?_, x3⟩
  rw [hn, List.append_nil] at x2'
  refine ⟨⟨r, m1, cp, x2', l3 e me, fun x hx => l3 x (List.mem_append_left _ hx)⟩, fun x hx => ⟨keep x.1 x.2 (l4 x (List.mem_append_left _ hx)).1 (l3 x (List.mem_append_left _ hx)), p3 x hx e List.mem_cons_self⟩, p1⟩
/-! the class's kept states, by the list -/
def HHs (n : Int) (hs : Int → Vw) (H : List (PA × Vw)) : Prop := n = (H.length : Int) ∧ ∀ (j : Nat) (e : PA × Vw), H[j]? = some e → hs (j : Int) = e.2
theorem HHs.nil : HHs 0 hs [] := ⟨rfl, fun j e h => by cases h⟩
theorem HHs.push (h : HHs n hs H) (hn : n < 20) : HHs (hpn n) (hph n hs W) (H ++ [(P, W)]) := by
  obtain ⟨h1, h2⟩ := h
  refine ⟨?_, fun j e he => ?_⟩
  · unfold hpn
    rw [if_neg (by omega), List.length_append, h1]
    rfl
  · unfold hph
    rw [if_neg (by omega)]
    by_cases c : j < H.length
    · rw [List.getElem?_append_left c] at he
      rw [if_neg (by omega)]
      exact h2 j e he
    · have hj := (List.getElem?_eq_some_iff.mp he).1
      rw [List.length_append] at hj
      have e1 : [(P, W)].length = 1 := rfl
      have ej : j = H.length := by omega
      rw [ej, at_mid] at he
      rw [if_pos (by omega), ← Option.some.inj he]
theorem HHs.push20 {e0 : PA × Vw} (h : HHs n hs (e0 :: H)) (hn : n = 20) : HHs (hpn n) (hph n hs W) (H ++ [(P, W)]) := by
  obtain ⟨h1, h2⟩ := h
  rw [List.length_cons] at h1
  refine ⟨?_, fun j e he => ?_⟩
  · unfold hpn
    rw [if_pos hn, List.length_append]
    show (20 : Int) = ((H.length + 1 : Nat) : Int)
    omega
  · unfold hph
    rw [if_pos hn]
    by_cases c : j < H.length
    · rw [List.getElem?_append_left c] at he
      rw [if_neg (by omega)]
      exact h2 (j + 1) e (by rw [List.getElem?_cons_succ]; exact he)
    · have hj := (List.getElem?_eq_some_iff.mp he).1
      rw [List.length_append] at hj
      have e1 : [(P, W)].length = 1 := rfl
      have ej : j = H.length := by omega
      rw [ej, at_mid] at he
      rw [if_pos (by omega), ← Option.some.inj he]
theorem HHs.pop {e : PA × Vw} (h : HHs n hs (H ++ [e])) : hs (n - 1) = e.2 ∧ HHs (n - 1) hs H := by
  obtain ⟨h1, h2⟩ := h
  rw [List.length_append] at h1
  have e1 : [e].length = 1 := rfl
  have en : n - 1 = (H.length : Int) := by omega
  refine ⟨?_, en, fun j x hx => h2 j x ?_⟩
  · rw [en]
    exact h2 H.length e (at_mid _ _ _)
  · rw [List.getElem?_append_left (List.getElem?_eq_some_iff.mp hx).1]
    exact hx
/-! what every plan keeps to -/
def QV (T : Int) (W : Vw) : Prop := Good W ∧ nS W ≤ 3 ∧ tm W ≤ T ∧ ∀ f : Int, 0 ≤ f → f < frm W → at_ W 16 f ≤ 40
theorem QV.mono {T' : Int} (h : QV T W) (hT : T ≤ T') : QV T' W := ⟨h.1, h.2.1, by have := h.2.2.1; omega, h.2.2.2⟩
theorem QV.kd (h : QV T W) (hG : Good W') (hk : Kd W W') : QV (T + 7) W' := by
  obtain ⟨⟨k1, k2⟩, k3, k4⟩ := hk
  refine ⟨hG, by rw [k1]; exact h.2.1, by have := h.2.2.1; omega, fun f f0 f1 => ?_⟩
  have ef : frm W' = frm W := by unfold frm; rw [k2]
  rw [ef] at f1
  rcases k4 f f0 f1 with q | q
  · exact q
  · rw [q]; exact h.2.2.2 f f0 f1
theorem HHs.gd (h : HHs n hs H) (hq : ∀ e ∈ H, QV T e.2) : HGd n hs := fun j j0 j1 => by
  obtain ⟨h1, h2⟩ := h
  obtain ⟨e, he⟩ : ∃ e, H[j.toNat]? = some e := ⟨_, List.getElem?_eq_getElem (by omega)⟩
  have q := h2 j.toNat e he
  rw [show ((j.toNat : Nat) : Int) = j by omega] at q
  rw [q]
  exact (hq e (List.mem_of_getElem? he)).1
end His
