/-! EVICTION: sets as masks over a list -/
def fltN (q : Nat → Bool) : Nat → List Nat
  | 0 => []
  | n + 1 => fltN q n ++ (if q n = true then [n] else [])
theorem fltN_mem {q : Nat → Bool} : ∀ {n k : Nat}, k ∈ fltN q n ↔ k < n ∧ q k = true
  | 0, k => by
    constructor
    · intro h; cases h
    · intro h; omega
  | n + 1, k => by
    show k ∈ fltN q n ++ _ ↔ _
    rw [List.mem_append, fltN_mem]
    by_cases c : q n = true
    · rw [if_pos c, List.mem_singleton]
      constructor
      · rintro (h | rfl)
        · exact ⟨by omega, h.2⟩
        · exact ⟨by omega, c⟩
      · rintro ⟨h1, h2⟩
        by_cases e : k = n
        · exact .inr e
        · exact .inl ⟨by omega, h2⟩
    · rw [if_neg c]
      constructor
      · rintro (h | h)
        · exact ⟨by omega, h.2⟩
        · cases h
      · rintro ⟨h1, h2⟩
        refine .inl ⟨?_, h2⟩
        by_cases e : k = n
        · subst e; exact absurd h2 c
        · omega
theorem fltN_nd {q : Nat → Bool} : ∀ {n : Nat}, (fltN q n).Nodup
  | 0 => List.nodup_nil
  | n + 1 => by
    show (fltN q n ++ _).Nodup
    by_cases c : q n = true
    · rw [if_pos c]
      exact nd_snoc fltN_nd (fun h => by have := (fltN_mem.mp h).1; omega)
    · rw [if_neg c, List.append_nil]
      exact fltN_nd
theorem getD_app {xs : List Nat} {y j : Nat} : (xs ++ [y]).getD j 0 = if j < xs.length then xs.getD j 0 else if j = xs.length then y else 0 := by
  rw [List.getD_eq_getElem?_getD, List.getD_eq_getElem?_getD]
  by_cases c : j < xs.length
  · rw [if_pos c, List.getElem?_append_left c]
  · rw [if_neg c, List.getElem?_append_right (by omega)]
    by_cases d : j = xs.length
    · rw [if_pos d, d, Nat.sub_self]; rfl
    · rw [if_neg d, List.getElem?_eq_none (by show 1 ≤ _; omega)]; rfl
theorem flt_sum {q : Nat → Bool} {F : Int → Int} : ∀ n : Nat, sumR (fun j => F ((fltN q n).getD j.toNat 0 : Nat)) 0 (fltN q n).length = sumR (fun x => if q x.toNat = true then F x else 0) 0 n
  | 0 => rfl
  | n + 1 => by
    have ih := flt_sum (q := q) (F := F) n
    rw [sumR_snoc, Int.zero_add, Int.toNat_natCast, ← ih]
    show sumR (fun j => F ((fltN q n ++ (if q n = true then [n] else [])).getD j.toNat 0 : Nat)) 0 (fltN q n ++ (if q n = true then [n] else [])).length = _
    by_cases c : q n = true
    · rw [if_pos c, if_pos c, List.length_append]
      show sumR _ 0 ((fltN q n).length + 1) = _
      rw [sumR_snoc, Int.zero_add, Int.toNat_natCast, getD_app, if_neg (Nat.lt_irrefl _), if_pos rfl]
      congr 1
      refine sumR_congr (fun j h1 h2 => ?_)
      show F ((fltN q n ++ [n]).getD j.toNat 0 : Nat) = _
      rw [getD_app, if_pos (by omega)]
    · rw [if_neg c, if_neg c, List.append_nil, Int.add_zero]
theorem bt_cat : ∀ lo : Nat, lo < 16 → ∀ hi : Nat, hi < 16 → ∀ j : Nat, j < 8 → bt ((lo + 16 * hi : Nat) : Int) (j : Int) = if j < 4 then bt (lo : Int) (j : Int) else bt (hi : Int) ((j - 4 : Nat) : Int) := by decide +kernel
theorem sh8 : ∀ k : Nat, k < 9 → i_shl 1 (k : Int) = ((2 ^ k : Nat) : Int) := by decide +kernel
theorem sh8_b {k : Nat} (h : k < 9) : 1 ≤ i_shl 1 (k : Int) ∧ i_shl 1 (k : Int) ≤ 256 := by
  have q : ∀ k : Nat, k < 9 → 1 ≤ i_shl 1 (k : Int) ∧ i_shl 1 (k : Int) ≤ 256 := by decide +kernel
  exact q k h
theorem mk_mask8 {k : Nat} (hk : k < 9) (b : Int → Bool) : ∃ m, 0 ≤ m ∧ m < i_shl 1 (k : Int) ∧ ∀ j, 0 ≤ j → j < (k : Int) → (bt m j = 1 ↔ b j = true) := by
  by_cases c : k ≤ 4
  · exact mk_mask (k := (k : Int)) (by omega) b
  · obtain ⟨lo, l0, l1, l2⟩ := mk_mask (k := 4) (by omega) b
    obtain ⟨hi, h0, h1, h2⟩ := mk_mask (k := (k : Int) - 4) (by omega) (fun j => b (j + 4))
    have e4 : i_shl 1 4 = 16 := by decide
    have hc : ∀ k : Nat, 4 < k → k < 9 → i_shl 1 (k : Int) = 16 * i_shl 1 ((k : Int) - 4) ∧ i_shl 1 ((k : Int) - 4) ≤ 16 := by
      intro k k1 k2
      have e : k = 5 ∨ k = 6 ∨ k = 7 ∨ k = 8 := by omega
      rcases e with rfl | rfl | rfl | rfl <;> decide
    have hc' := hc k (by omega) hk
    rw [e4] at l1
    have em : lo + 16 * hi = ((lo.toNat + 16 * hi.toNat : Nat) : Int) := by omega
    refine ⟨lo + 16 * hi, by omega, by rw [hc'.1]; omega, fun j j0 j1 => ?_⟩
    have q := bt_cat lo.toNat (by omega) hi.toNat (by omega) j.toNat (by omega)
    rw [← em, Int.toNat_of_nonneg j0, Int.toNat_of_nonneg l0, Int.toNat_of_nonneg h0] at q
    rw [q]
    by_cases d : j < 4
    · rw [if_pos (by omega)]
      exact l2 j j0 d
    · rw [if_neg (by omega), show ((j.toNat - 4 : Nat) : Int) = j - 4 by omega]
      have z := h2 (j - 4) (by omega) (by omega)
      rw [show j - 4 + 4 = j by omega] at z
      exact z
def pE (ixs : List Nat) (z j x : Int) : Bool := decide (((ixs.getD j.toNat 0 : Nat) : Int) = x) && decide (bt z j = 1)
def selE (ixs : List Nat) (z : Int) (lo : Int) (n : Nat) (x : Int) : Bool := anyR (fun j => pE ixs z j x) lo n
section Sel
variable {ixs : List Nat} {z : Int}
theorem ix_get {j k : Nat} (h : ixs[j]? = some k) : ixs.getD j 0 = k := by rw [List.getD_eq_getElem?_getD, h]; rfl
theorem selE_iff {lo : Int} {n : Nat} {x : Int} : selE ixs z lo n x = true ↔ ∃ j, lo ≤ j ∧ j < lo + n ∧ ((ixs.getD j.toNat 0 : Nat) : Int) = x ∧ bt z j = 1 := by
  unfold selE
  rw [anyR_iff]
  constructor
  · rintro ⟨j, h1, h2, h3⟩
    unfold pE at h3
    rw [Bool.and_eq_true, decide_eq_true_eq, decide_eq_true_eq] at h3
    exact ⟨j, h1, h2, h3⟩
  · rintro ⟨j, h1, h2, h3⟩
    exact ⟨j, h1, h2, by unfold pE; rw [Bool.and_eq_true, decide_eq_true_eq, decide_eq_true_eq]; exact h3⟩
theorem ix_inj (hn : ixs.Nodup) {i j k : Nat} (hi : i < ixs.length) (hj : ixs[j]? = some k) (e : ixs.getD i 0 = k) : i = j := by
  have hi' : ixs[i]? = some (ixs.getD i 0) := by
    rw [List.getD_eq_getElem?_getD, List.getElem?_eq_getElem hi]; rfl
  rw [e] at hi'
  exact nd_inj hn hi' hj
theorem selE_at (hn : ixs.Nodup) {lo : Nat} {n j k : Nat} (hb : lo + n ≤ ixs.length) (hj : ixs[j]? = some k) : selE ixs z (lo : Int) n k = true ↔ (lo ≤ j ∧ j < lo + n) ∧ bt z j = 1 := by
  rw [selE_iff]
  constructor
  · rintro ⟨i, h1, h2, h3, h4⟩
    have e := ix_inj hn (i := i.toNat) (by omega) hj (by omega)
    rw [show i = (j : Int) by omega] at h4
    exact ⟨by omega, h4⟩
  · rintro ⟨h1, h2⟩
    exact ⟨j, by omega, by omega, by rw [Int.toNat_natCast, ix_get hj], h2⟩
theorem selE_mem {lo : Int} {n : Nat} {x : Int} (h0 : 0 ≤ lo) (hb : lo + n ≤ ixs.length) (h : selE ixs z lo n x = true) : 0 ≤ x ∧ x.toNat ∈ ixs := by
  obtain ⟨j, h1, h2, h3, -⟩ := selE_iff.mp h
  have hj : j.toNat < ixs.length := by omega
  have e : ixs[j.toNat]? = some (ixs.getD j.toNat 0) := by rw [List.getD_eq_getElem?_getD, List.getElem?_eq_getElem hj]; rfl
  refine ⟨by omega, ?_⟩
  rw [← h3, Int.toNat_natCast]
  exact List.mem_of_getElem? e
/-- the sum over a mask is the sum over what it names -/
theorem mask_sum {q : Nat → Bool} {n : Nat} (he : ixs = fltN q n) (w : Int → Int) : sumR (fun j => if bt z j = 1 then w (ixs.getD j.toNat 0 : Nat) else 0) 0 ixs.length = sumR (fun x => if selE ixs z 0 ixs.length x = true then w x else 0) 0 n := by
  have hn : ixs.Nodup := by rw [he]; exact fltN_nd
  have q1 := flt_sum (q := q) (F := fun x => if selE ixs z 0 ixs.length x = true then w x else 0) n
  rw [← he] at q1
  have q2 : sumR (fun j => if bt z j = 1 then w (ixs.getD j.toNat 0 : Nat) else 0) 0 ixs.length = sumR (fun j => (fun x => if selE ixs z 0 ixs.length x = true then w x else 0) (ixs.getD j.toNat 0 : Nat)) 0 ixs.length := by
    refine sumR_congr (fun j h1 h2 => ?_)
    have hj : j.toNat < ixs.length := by omega
    have e : ixs[j.toNat]? = some (ixs.getD j.toNat 0) := by rw [List.getD_eq_getElem?_getD, List.getElem?_eq_getElem hj]; rfl
    have s := selE_at (z := z) hn (lo := 0) (n := ixs.length) (by omega) e
    rw [Int.toNat_of_nonneg h1] at s
    replace s : selE ixs z 0 ixs.length (ixs.getD j.toNat 0 : Nat) = true ↔ (0 ≤ j.toNat ∧ j.toNat < 0 + ixs.length) ∧ bt z j = 1 := s
    show (if bt z j = 1 then w (ixs.getD j.toNat 0 : Nat) else 0) = (if selE ixs z 0 ixs.length (ixs.getD j.toNat 0 : Nat) = true then w (ixs.getD j.toNat 0 : Nat) else 0)
    by_cases c : bt z j = 1
    · rw [if_pos c, if_pos (s.mpr ⟨by omega, c⟩)]
    · rw [if_neg c, if_neg (fun y => c (s.mp y).2)]
  rw [q2, q1]
  refine sumR_congr (fun x h1 h2 => ?_)
  show (if q x.toNat = true then (if selE ixs z 0 ixs.length x = true then w x else 0) else 0) = _
  by_cases c : q x.toNat = true
  · rw [if_pos c]
  · rw [if_neg c, if_neg (fun y => c ?_)]
    have m := (selE_mem (ixs := ixs) (Int.le_refl _) (by omega) y).2
    rw [he] at m
    exact (fltN_mem.mp m).2
end Sel
section Near2
variable {W : Vw} {a p : Int}
def nrQ (W : Vw) (a p : Int) (x : Nat) : Bool := nrE W a p x
def nrL (W : Vw) (a p : Int) : List Nat := fltN (nrQ W a p) (nA W).toNat
theorem fltN_len {q : Nat → Bool} : ∀ {n : Nat}, ((fltN q n).length : Int) = sumR (fun i => if q i.toNat = true then 1 else 0) 0 n
  | 0 => rfl
  | n + 1 => by
    show (((fltN q n ++ _).length : Nat) : Int) = _
    have e := fltN_len (q := q) (n := n)
    rw [List.length_append, sumR_snoc, Int.zero_add, Int.toNat_natCast]
    by_cases c : q n = true
    · rw [if_pos c, if_pos c]
      show ((_ + 1 : Nat) : Int) = _
      omega
    · rw [if_neg c, if_neg c]
      show ((_ + 0 : Nat) : Int) = _
      omega
theorem on_pg (hV : Val W) (hW : Wf W) {x : Int} : sumR (fun i => if at_ W 6 i = x ∧ 0 < at_ W 6 i then (1 : Int) else 0) 0 (nA W).toNat ≤ 4 := by
  have b := hV.z
  by_cases c : 1 ≤ x ∧ x ≤ pgs W
  · have q := idx4 hV hW c
    have e := idxs_len (w := at_ W 6) (p := x) (n := (nA W).toNat)
    have m := sumR_mono (w := fun i => if at_ W 6 i = x ∧ 0 < at_ W 6 i then (1 : Int) else 0) (w' := fun i => if at_ W 6 i = x then (1 : Int) else 0) (n := (nA W).toNat) (i := 0) (fun j _ _ => by
      show (if at_ W 6 j = x ∧ 0 < at_ W 6 j then (1 : Int) else 0) ≤ (if at_ W 6 j = x then (1 : Int) else 0)
      by_cases d : at_ W 6 j = x
      · rw [if_pos d]; split <;> omega
      · rw [if_neg d, if_neg (fun z => d z.1)]; omega)
    omega
  · have e := sumR_0 (w := fun i => if at_ W 6 i = x ∧ 0 < at_ W 6 i then (1 : Int) else 0) (n := (nA W).toNat) (i := 0) (fun j h1 h2 => by
      have v := hV.2.1 j h1 (by omega)
      show (if at_ W 6 j = x ∧ 0 < at_ W 6 j then (1 : Int) else 0) = 0
      rw [if_neg (fun z => by omega)])
    rw [e]; decide
theorem nrL_8 (hV : Val W) (hW : Wf W) : (nrL W a p).length ≤ 8 := by
  have e := fltN_len (q := nrQ W a p) (n := (nA W).toNat)
  have m := sumR_mono (w := fun i : Int => if nrQ W a p i.toNat = true then (1 : Int) else 0) (w' := fun i => (if at_ W 6 i = 2 * (p / 2) ∧ 0 < at_ W 6 i then (1 : Int) else 0) + (if at_ W 6 i = 2 * (p / 2) + 1 ∧ 0 < at_ W 6 i then (1 : Int) else 0)) (n := (nA W).toNat) (i := 0) (fun j h1 h2 => by
    show (if nrE W a p ((j.toNat : Nat) : Int) = true then (1 : Int) else 0) ≤ (if at_ W 6 j = 2 * (p / 2) ∧ 0 < at_ W 6 j then (1 : Int) else 0) + (if at_ W 6 j = 2 * (p / 2) + 1 ∧ 0 < at_ W 6 j then (1 : Int) else 0)
    rw [Int.toNat_of_nonneg h1]
    by_cases c : nrE W a p j = true
    · have c' := c
      unfold nrE at c'
      rw [Bool.and_eq_true, decide_eq_true_eq] at c'
      rw [if_pos c]
      by_cases d : at_ W 6 j = 2 * (p / 2)
      · rw [if_pos ⟨d, c'.1.2.1⟩]; split <;> omega
      · rw [if_neg (fun z => d z.1), if_pos ⟨by omega, c'.1.2.1⟩]; omega
    · rw [if_neg c]
      split <;> split <;> omega)
  rw [sumR_add] at m
  have q1 := on_pg hV hW (x := 2 * (p / 2))
  have q2 := on_pg hV hW (x := 2 * (p / 2) + 1)
  show (fltN (nrQ W a p) (nA W).toNat).length ≤ 8
  omega
theorem nrL_mem {x : Nat} : x ∈ nrL W a p ↔ x < (nA W).toNat ∧ nrE W a p x = true := fltN_mem
/-- which lifts agree -/
theorem reas_agree (hV : Val W) {q q' : Int → Bool} (h : ∀ x, 0 ≤ x → x < nA W → q x = q' x) (hp : 1 ≤ p ∧ p ≤ pgs W) : reas (lfV W q) a p = 0 ↔ reas (lfV W q') a p = 0 := by
  have e1 : lefO (lfV W q) p a (-1) = lefO (lfV W q') p a (-1) := by
    unfold lefO
    rw [lfV_stOn, lfV_stOn, room_raw (lfV_Val hV), room_raw (lfV_Val hV), lfV_raw hp.1, lfV_raw hp.1]
    have e : sumA W (fun x => if (inP W a p x && q x) = true then at_ W 0 x else 0) = sumA W (fun x => if (inP W a p x && q' x) = true then at_ W 0 x else 0) := sumR_congr (fun x x0 x1 => by
      show (if (inP W a p x && q x) = true then at_ W 0 x else 0) = (if (inP W a p x && q' x) = true then at_ W 0 x else 0)
      rw [h x x0 (by omega)])
    rw [e]
  have e2 : rivl (lfV W q) a (p / 2) = rivl (lfV W q') a (p / 2) := by
    unfold rivl anyA
    rw [lfV_nA, lfV_nA, lfV_at (k := 1) (by decide), lfV_at (k := 1) (by decide)]
    congr 1
    refine anyR_congr (fun x x0 x1 => ?_)
    show decide (x ≠ a ∧ 0 < at_ (lfV W q) 6 x ∧ at_ (lfV W q) 6 x / 2 = p / 2 ∧ at_ (lfV W q) 1 x = at_ W 1 a) = decide (x ≠ a ∧ 0 < at_ (lfV W q') 6 x ∧ at_ (lfV W q') 6 x / 2 = p / 2 ∧ at_ (lfV W q') 1 x = at_ W 1 a)
    rw [lfV_6 x0, lfV_6 x0, lfV_at (k := 1) (by decide), lfV_at (k := 1) (by decide), h x x0 (by omega)]
  rw [lfV_reas hp, lfV_reas hp, e1, e2]
def okM (W : Vw) (a p : Int) (z : Int) : Bool := decide (reas (lfV W (selE (nrL W a p) z 0 (nrL W a p).length)) a p = 0)
def prM (W : Vw) (a p : Int) (z : Int) : Int := sumR (fun j => if bt z j = 1 then at_ W 4 ((nrL W a p).getD j.toNat 0 : Nat) else 0) 0 (nrL W a p).length
theorem prM_eq {z : Int} : prM W a p z = prS W (selE (nrL W a p) z 0 (nrL W a p).length) := mask_sum (q := nrQ W a p) (n := (nA W).toNat) rfl (at_ W 4)
theorem Nr_sel {z : Int} : Nr_ W a p (selE (nrL W a p) z 0 (nrL W a p).length) := fun x x0 x1 h => by
  have m := (selE_mem (ixs := nrL W a p) (Int.le_refl _) (by omega) h).2
  have q := (nrL_mem.mp m).2
  rw [Int.toNat_of_nonneg x0] at q
  exact q
theorem sel_of (hV : Val W) (hW : Wf W) {q : Int → Bool} (hq : Nr_ W a p q) : ∃ z, 0 ≤ z ∧ z < i_shl 1 ((nrL W a p).length : Int) ∧ ∀ x, 0 ≤ x → x < nA W → selE (nrL W a p) z 0 (nrL W a p).length x = q x := by
  have l8 := nrL_8 hV hW (a := a) (p := p)
  obtain ⟨z, z0, z1, z2⟩ := mk_mask8 (k := (nrL W a p).length) (by omega) (fun j => q ((nrL W a p).getD j.toNat 0 : Nat))
  refine ⟨z, z0, z1, fun x x0 x1 => ?_⟩
  rw [Bool.eq_iff_iff]
  constructor
  · intro h
    obtain ⟨j, h1, h2, h3, h4⟩ := selE_iff.mp h
    have y := (z2 j h1 (by omega)).mp h4
    rw [h3] at y
    exact y
  · intro h
    have m : x.toNat ∈ nrL W a p := nrL_mem.mpr ⟨by omega, by rw [Int.toNat_of_nonneg x0]; exact hq x x0 x1 h⟩
    obtain ⟨j, hj⟩ := List.mem_iff_getElem?.mp m
    have hl := (List.getElem?_eq_some_iff.mp hj).1
    refine selE_iff.mpr ⟨j, by omega, by omega, by rw [Int.toNat_natCast, ix_get hj]; omega, (z2 j (by omega) (by omega)).mpr ?_⟩
    rw [Int.toNat_natCast, ix_get hj, Int.toNat_of_nonneg x0]
    exact h
theorem prM_bd (hV : Val W) (hW : Wf W) {z : Int} : 0 ≤ prM W a p z ∧ prM W a p z ≤ 8000 := by
  have l8 := nrL_8 hV hW (a := a) (p := p)
  have q := sumR_bd (w := fun j => if bt z j = 1 then at_ W 4 ((nrL W a p).getD j.toNat 0 : Nat) else 0) (l := 0) (h := 999) (n := (nrL W a p).length) (i := 0) (fun j h1 h2 => by
    have hj : j.toNat < (nrL W a p).length := by omega
    have e : (nrL W a p)[j.toNat]? = some ((nrL W a p).getD j.toNat 0) := by rw [List.getD_eq_getElem?_getD, List.getElem?_eq_getElem hj]; rfl
    have m := nrL_mem.mp (List.mem_of_getElem? e)
    have v := hV.2.1 (((nrL W a p).getD j.toNat 0 : Nat) : Int) (by omega) (by omega)
    show 0 ≤ (if bt z j = 1 then at_ W 4 ((nrL W a p).getD j.toNat 0 : Nat) else 0) ∧ (if bt z j = 1 then at_ W 4 ((nrL W a p).getD j.toNat 0 : Nat) else 0) ≤ 999
    split <;> omega)
  unfold prM
  have e : (nrL W a p).length = 0 ∨ (nrL W a p).length = 1 ∨ (nrL W a p).length = 2 ∨ (nrL W a p).length = 3 ∨ (nrL W a p).length = 4 ∨ (nrL W a p).length = 5 ∨ (nrL W a p).length = 6 ∨ (nrL W a p).length = 7 ∨ (nrL W a p).length = 8 := by omega
  rcases e with e | e | e | e | e | e | e | e | e <;> rw [e] at q ⊢ <;> omega
theorem ev_masks (hG : Good W) (ha : 0 ≤ a ∧ a < nA W) (hp : 1 ≤ p ∧ p ≤ pgs W) : EvV W a p (itR (mnF (okM W a p) (prM W a p) (-1)) 0 (i_shl 1 ((nrL W a p).length : Int)).toNat (-1)) := by
  have l8 := nrL_8 hG.1 hG.2.1 (a := a) (p := p)
  have sb := sh8_b (k := (nrL W a p).length) (by omega)
  refine ev_law hG ha hp ?_
  rcases mnF_spec (p := okM W a p) (k := prM W a p) (c := -1) (l := 0) (N := (i_shl 1 ((nrL W a p).length : Int)).toNat) (fun x _ _ _ => (prM_bd hG.1 hG.2.1).1) (i_shl 1 ((nrL W a p).length : Int)).toNat (Nat.le_refl _) with ⟨e, f⟩ | ⟨x, x1, x2, x3, x4, x5, x6⟩
  · refine .inl ⟨e, fun q hq hr => ?_⟩
    obtain ⟨z, z0, z1, z2⟩ := sel_of hG.1 hG.2.1 hq
    have := f z z0 (by omega) (decide_eq_true ((reas_agree hG.1 z2 hp).mpr hr))
    have := (prM_bd hG.1 hG.2.1 (a := a) (p := p) (z := z)).1
    omega
  · refine .inr ⟨_, Nr_sel (z := x), of_decide_eq_true x3, by rw [← x4, prM_eq], fun q hq hr => ?_⟩
    obtain ⟨z, z0, z1, z2⟩ := sel_of hG.1 hG.2.1 hq
    have e2 : prS W q = prM W a p z := by
      rw [prM_eq]
      exact sumR_congr (fun y y0 y1 => by
        show (if q y = true then at_ W 4 y else 0) = (if selE (nrL W a p) z 0 (nrL W a p).length y = true then at_ W 4 y else 0)
        rw [z2 y y0 (by omega)])
    have pz := (prM_bd hG.1 hG.2.1 (a := a) (p := p) (z := z)).1
    rw [← x4, e2]
    rcases x6 z z0 (by omega) (decide_eq_true ((reas_agree hG.1 z2 hp).mpr hr)) with y | y
    · omega
    · exact y
end Near2
