/-! PAGES CHANGED BY A RULE: of the first ads, of the first standbys -/
def mapP (W : Vw) (f : Int → Int) (m n : Int) : Vw := fun k j => if k = 6 ∧ (j : Int) < m then f (W 6 j) else if k = 13 ∧ (j : Int) < n then f (W 13 j) else W k j
section Maps
variable {S T : St} {W : Vw} {f : Int → Int} {m n : Int}
theorem mp_0 : mapP W f 0 0 = W := by
  funext k j
  unfold mapP
  rw [if_neg (by omega), if_neg (by omega)]
theorem mp_o {k : Nat} (h6 : k ≠ 6) (h13 : k ≠ 13) (j : Nat) : mapP W f m n k j = W k j := by
  unfold mapP
  rw [if_neg (fun z => h6 z.1), if_neg (fun z => h13 z.1)]
theorem mp_ao {k : Nat} (h6 : k ≠ 6) (h13 : k ≠ 13) (a : Int) : at_ (mapP W f m n) k a = at_ W k a := mp_o h6 h13 _
theorem mp_n : nA (mapP W f m n) = nA W ∧ nS (mapP W f m n) = nS W ∧ nB (mapP W f m n) = nB W ∧ sg (mapP W f m n) = sg W ∧ pe (mapP W f m n) = pe W ∧ tm (mapP W f m n) = tm W := ⟨mp_o (by decide) (by decide) _, mp_o (by decide) (by decide) _, mp_o (by decide) (by decide) _, mp_o (by decide) (by decide) _, mp_o (by decide) (by decide) _, mp_o (by decide) (by decide) _⟩
theorem mp_pgs : pgs (mapP W f m n) = pgs W := by unfold pgs; rw [mp_n.2.2.2.1, mp_n.2.2.2.2.1]
theorem mp_6 {a : Int} (ha : 0 ≤ a) : at_ (mapP W f m n) 6 a = if a < m then f (at_ W 6 a) else at_ W 6 a := by
  unfold at_ mapP
  by_cases c : a < m
  · rw [if_pos ⟨rfl, by omega⟩, if_pos c]
  · rw [if_neg (by omega), if_neg (by omega), if_neg c]
theorem mp_13 {a : Int} (ha : 0 ≤ a) : at_ (mapP W f m n) 13 a = if a < n then f (at_ W 13 a) else at_ W 13 a := by
  unfold at_ mapP
  by_cases c : a < n
  · rw [if_neg (by omega), if_pos ⟨rfl, by omega⟩, if_pos c]
  · rw [if_neg (by omega), if_neg (by omega), if_neg c]
theorem mp_s6 {i : Int} (hi : 0 ≤ i) : up (mapP W f i n) 6 i.toNat (f (at_ W 6 i)) = mapP W f (i + 1) n := by
  funext k j
  unfold up
  by_cases c : k = 6 ∧ j = i.toNat
  · rw [if_pos c]
    unfold mapP
    rw [if_pos ⟨c.1, by omega⟩, c.2]; rfl
  · rw [if_neg c]
    unfold mapP
    by_cases d : k = 6 ∧ (j : Int) < i
    · rw [if_pos d, if_pos ⟨d.1, by omega⟩]
    · rw [if_neg d, if_neg (by omega : ¬ (k = 6 ∧ (j : Int) < i + 1))]
theorem mp_e6 {i : Int} (hi : 0 ≤ i) (h : f (at_ W 6 i) = at_ W 6 i) : mapP W f (i + 1) n = mapP W f i n := by
  rw [← mp_s6 hi, h]
  funext k j
  unfold up
  by_cases c : k = 6 ∧ j = i.toNat
  · rw [if_pos c]
    unfold mapP
    rw [if_neg (by omega), if_neg (by omega), c.1, c.2]; rfl
  · rw [if_neg c]
theorem mp_s13 {i : Int} (hi : 0 ≤ i) : up (mapP W f m i) 13 i.toNat (f (at_ W 13 i)) = mapP W f m (i + 1) := by
  funext k j
  unfold up
  by_cases c : k = 13 ∧ j = i.toNat
  · rw [if_pos c]
    unfold mapP
    rw [if_neg (by omega), if_pos ⟨c.1, by omega⟩, c.2]; rfl
  · rw [if_neg c]
    unfold mapP
    by_cases e : k = 6 ∧ (j : Int) < m
    · rw [if_pos e, if_pos e]
    · rw [if_neg e, if_neg e]
      by_cases d : k = 13 ∧ (j : Int) < i
      · rw [if_pos d, if_pos ⟨d.1, by omega⟩]
      · rw [if_neg d, if_neg (fun z => by omega)]
theorem mp_e13 {i : Int} (hi : 0 ≤ i) (h : f (at_ W 13 i) = at_ W 13 i) : mapP W f m (i + 1) = mapP W f m i := by
  rw [← mp_s13 hi, h]
  funext k j
  unfold up
  by_cases c : k = 13 ∧ j = i.toNat
  · rw [if_pos c]
    unfold mapP
    rw [if_neg (by omega), if_neg (by omega), c.1, c.2]; rfl
  · rw [if_neg c]
def mpV (W : Vw) (f : Int → Int) : Vw := mapP W f (nA W) (nB W)
theorem mpV_6 {a : Int} (ha : 0 ≤ a ∧ a < nA W) : at_ (mpV W f) 6 a = f (at_ W 6 a) := by unfold mpV; rw [mp_6 ha.1, if_pos ha.2]
theorem mpV_13 {a : Int} (ha : 0 ≤ a ∧ a < nB W) : at_ (mpV W f) 13 a = f (at_ W 13 a) := by unfold mpV; rw [mp_13 ha.1, if_pos ha.2]
theorem mpV_inv (hf : ∀ x, f (f x) = x) : mpV (mpV W f) f = W := by
  have n1 : nA (mpV W f) = nA W := mp_n.1
  have n3 : nB (mpV W f) = nB W := mp_n.2.2.1
  funext k j
  unfold mpV at n1 n3 ⊢
  rw [n1, n3]
  show mapP (mapP W f (nA W) (nB W)) f (nA W) (nB W) k j = W k j
  unfold mapP
  by_cases c : k = 6 ∧ (j : Int) < nA W
  · rw [if_pos c, if_pos ⟨rfl, c.2⟩, hf, c.1]
  · rw [if_neg c]
    by_cases d : k = 13 ∧ (j : Int) < nB W
    · rw [if_pos d, if_neg (by omega), if_pos ⟨rfl, d.2⟩, hf, d.1]
    · rw [if_neg d, if_neg c, if_neg d]
theorem Val_mapP (hV : Val W) (hf : ∀ x, 0 ≤ x → x ≤ pgs W → 0 ≤ f x ∧ f x ≤ pgs W) : Val (mapP W f m n) := by
  refine Val.mk' mp_n hV (fun a a1 a2 => ?_) (fun s s1 s2 => ?_) (fun b b1 b2 => ?_) (fun x x1 x2 => ?_)
  · have v := hV.2.1 a a1 a2
    rw [mp_ao (by decide) (by decide), mp_ao (by decide) (by decide), mp_ao (by decide) (by decide), mp_ao (by decide) (by decide), mp_ao (by decide) (by decide), mp_ao (by decide) (by decide), mp_6 a1]
    refine ⟨⟨rfl, rfl⟩, v.2.2.1, v.2.2.2.1, v.2.2.2.2.1, rfl, ?_⟩
    split
    · exact hf _ v.2.2.2.2.2.2.1 v.2.2.2.2.2.2.2
    · exact v.2.2.2.2.2.2
  · have v := hV.2.2.1 s s1 s2
    rw [mp_ao (by decide) (by decide), mp_ao (by decide) (by decide), mp_ao (by decide) (by decide), mp_ao (by decide) (by decide), mp_ao (by decide) (by decide)]
    exact ⟨⟨rfl, rfl, rfl, rfl⟩, v.2.2.2.2⟩
  · have v := hV.2.2.2.1 b b1 b2
    rw [mp_ao (by decide) (by decide), mp_13 b1]
    refine ⟨rfl, ?_⟩
    split
    · exact hf _ v.2.1 v.2.2
    · exact v.2
  · have v := hV.2.2.2.2 x x1 x2
    rw [mp_ao (by decide) (by decide), mp_ao (by decide) (by decide), mp_ao (by decide) (by decide)]
    exact v
theorem lp_mapC6 {body : (Int × St → Option St) → Int × St → Option St} (hV : Val W) (hf : ∀ x, 0 ≤ x → x ≤ pgs W → 0 ≤ f x ∧ f x ≤ pgs W) (h0 : vC S 6 = W)
    (hx : ∀ go i T, g T 7 7 = nA W → nA W ≤ i → body go (i, T) = some T)
    (hs : ∀ go i T, 0 ≤ i → i < nA W → g T 7 7 = nA W → g T 14 i.toNat = at_ W 6 i → body go (i, T) = go (i + 1, u T 14 i.toNat (f (at_ W 6 i))) ∨ (f (at_ W 6 i) = at_ W 6 i ∧ body go (i, T) = go (i + 1, T))) : ∃ T, lp body FU (0, S) = some T ∧ Off S T 7 28 ∧ vC T 6 = mapP W f (nA W) 0 := by
  have z := hV.z
  have gn : ∀ (T : St) i, vC T 6 = mapP W f i 0 → g T 7 7 = nA W := fun T i h => by
    have e : nA (vC T 6) = g T 7 7 := rfl
    rw [← e, h]; exact mp_n.1
  obtain ⟨T, e, h1, h2, h3⟩ := lp_inv (body := body) (fun i s => (i, s)) id (fun i T => 0 ≤ i ∧ Off S T 7 28 ∧ vC T 6 = mapP W f i 0) (nA W)
    (fun go i T hI hi => hx go i T (gn T i hI.2.2) hi)
    (fun go i T hI hi => by
      obtain ⟨hi0, hO, hv⟩ := hI
      have e6 : g T 14 i.toNat = at_ W 6 i := by
        have q : g T 14 i.toNat = at_ (vC T 6) 6 i := vC_ad (S := T) (s := 6) (k := 6) (by decide) hi0 (by rw [hv, mp_n.1]; exact hi)
        rw [q, hv, mp_6 hi0, if_neg (by omega)]
      rcases hs go i T hi0 hi (gn T i hv) e6 with q | q
      · refine ⟨_, q, by omega, hO.tu (by omega) (by omega), ?_⟩
        have v := hV.2.1 i hi0 hi
        have fb := hf (at_ W 6 i) (by omega) (by omega)
        have vv : vC (u T 14 i.toNat (f (at_ W 6 i))) 6 = up (mapP W f i 0) 6 i.toNat (f (at_ W 6 i)) := K_vA (k := 6) (by decide) hv (by rw [mp_n.1]; exact ⟨hi0, hi⟩) ⟨by omega, by omega⟩
        rw [vv, mp_s6 hi0]
      · exact ⟨T, q.2, by omega, hO, by rw [mp_e6 hi0 q.1]; exact hv⟩) (nA W).toNat FU 0 S ⟨Int.le_refl _, Off.refl, by rw [mp_0]; exact h0⟩ (by omega) (by omega) (FU_lt (by omega))
  exact ⟨T, e, h2, h3⟩
theorem lp_mapC13 {body : (Int × St → Option St) → Int × St → Option St} (hV : Val W) (hf : ∀ x, 0 ≤ x → x ≤ pgs W → 0 ≤ f x ∧ f x ≤ pgs W) (h0 : vC S 6 = mapP W f (nA W) 0)
    (hx : ∀ go i T, g T 21 2 = nB W → nB W ≤ i → body go (i, T) = some T)
    (hs : ∀ go i T, 0 ≤ i → i < nB W → g T 21 2 = nB W → g T 23 i.toNat = at_ W 13 i → body go (i, T) = go (i + 1, u T 23 i.toNat (f (at_ W 13 i))) ∨ (f (at_ W 13 i) = at_ W 13 i ∧ body go (i, T) = go (i + 1, T))) : ∃ T, lp body FU (0, S) = some T ∧ Off S T 7 28 ∧ vC T 6 = mpV W f := by
  have z := hV.z
  have gn : ∀ (T : St) i, vC T 6 = mapP W f (nA W) i → g T 21 2 = nB W := fun T i h => by
    have e : nB (vC T 6) = g T 21 2 := rfl
    rw [← e, h]; exact mp_n.2.2.1
  obtain ⟨T, e, h1, h2, h3⟩ := lp_inv (body := body) (fun i s => (i, s)) id (fun i T => 0 ≤ i ∧ Off S T 7 28 ∧ vC T 6 = mapP W f (nA W) i) (nB W)
    (fun go i T hI hi => hx go i T (gn T i hI.2.2) hi)
    (fun go i T hI hi => by
      obtain ⟨hi0, hO, hv⟩ := hI
      have e6 : g T 23 i.toNat = at_ W 13 i := by
        have q : g T 23 i.toNat = at_ (vC T 6) 13 i := vC_sb (S := T) (s := 6) (k := 1) (by decide) hi0 (by rw [hv, mp_n.2.2.1]; exact hi)
        rw [q, hv, mp_13 hi0, if_neg (by omega)]
      rcases hs go i T hi0 hi (gn T i hv) e6 with q | q
      · refine ⟨_, q, by omega, hO.tu (by omega) (by omega), ?_⟩
        have v := hV.2.2.2.1 i hi0 hi
        have fb := hf (at_ W 13 i) (by omega) (by omega)
        have vv : vC (u T 23 i.toNat (f (at_ W 13 i))) 6 = up (mapP W f (nA W) i) 13 i.toNat (f (at_ W 13 i)) := K_vB (k := 13) (by decide) hv (by rw [mp_n.2.2.1]; exact ⟨hi0, hi⟩) ⟨by omega, by omega⟩
        rw [vv, mp_s13 hi0]
      · exact ⟨T, q.2, by omega, hO, by rw [mp_e13 hi0 q.1]; exact hv⟩) (nB W).toNat FU 0 S ⟨Int.le_refl _, Off.refl, h0⟩ (by omega) (by omega) (FU_lt (by omega))
  exact ⟨T, e, h2, h3⟩
theorem mpV_PL {S' : St} (h : PL S 5 W) (hv : vC S' 6 = mpV W f) (hV' : Val (mpV W f)) (ho : Off S S' 7 28) : PL S' 5 (mpV W f) := by
  have ep : pgs (mpV W f) = pgs W := mp_pgs
  have e5 : pe (mpV W f) = pe W := mp_n.2.2.2.2.1
  refine ⟨⟨h.q, hv, hV'⟩, ⟨?_, ?_⟩, fun q h1 h2 => ?_⟩
  · rw [ho.rd (by omega), ep]; exact h.gp
  · rw [ho.rd (by omega)]; unfold frm; rw [show sg (mpV W f) = sg W from mp_n.2.2.2.1]; exact h.gf
  · rw [ep] at h2
    unfold fOf
    rw [e5, ho.rd (by omega), ho.rd (by omega)]
    exact ⟨h.fo h1 h2, h.sO h1 h2⟩
theorem CR.mapped {S1 S2 : St} {n' : Int} {hs' : Int → Vw} (h : CR S S1 W n' hs') (hv : vC S2 6 = mpV W f) (hG : Val (mpV W f) ∧ Wf (mpV W f)) (ho : Off S1 S2 7 28) : ∃ S3, fn_Plan_recount 5 S2 = some S3 ∧ CR S S3 (mpV W f) n' hs' := by
  obtain ⟨S3, e3, o3, p3⟩ := P_recount (mpV_PL h.2.1.pl hv hG.1 ho) hG.2
  exact ⟨S3, e3, (h.1.trans (ho.oc (by omega))).trans (o3.oc (by omega)), p3, (h.2.2.off ho (by omega)).off o3 (by omega)⟩
end Maps

