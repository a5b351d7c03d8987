/-! matching: partners change along the way back -/
section Match2
variable {W : Vw} {M : Int → Bool} {k a0 : Int} {T0 : St}
def MCq (W : Vw) (S : St) (M : Int → Bool) (q : Int) : Prop := (∀ a, 0 ≤ a → a < 40 → if M a = true then (1 ≤ g S 509 a.toNat ∧ g S 509 a.toNat ≤ pgs W) ∧ a < nA W ∧ adjW W a (g S 509 a.toNat) = true ∧ g S 508 (g S 509 a.toNat).toNat = a ∧ g S 509 a.toNat ≠ q else g S 509 a.toNat = 0) ∧ ∀ p, 1 ≤ p → p ≤ pgs W → p ≠ q → g S 508 p.toNat = -1 ∨ ((0 ≤ g S 508 p.toNat ∧ g S 508 p.toNat < nA W) ∧ M (g S 508 p.toNat) = true ∧ g S 509 (g S 508 p.toNat).toNat = p)
def TrW (W : Vw) (T0 : St) (M : Int → Bool) (a0 k : Int) : Prop := (1 ≤ k ∧ k ≤ 40) ∧ g T0 511 0 = a0 ∧ (∀ j, 0 ≤ j → j < k → 0 ≤ g T0 511 j.toNat ∧ g T0 511 j.toNat < nA W) ∧ (∀ i j, 0 ≤ i → i < j → j < k → g T0 511 i.toNat ≠ g T0 511 j.toNat) ∧ ∀ j, 1 ≤ j → j < k → M (g T0 511 j.toNat) = true ∧ ∃ i, 0 ≤ i ∧ i < j ∧ g T0 510 (g T0 509 (g T0 511 j.toNat).toNat).toNat = g T0 511 i.toNat ∧ adjW W (g T0 511 i.toNat) (g T0 509 (g T0 511 j.toNat).toNat) = true
theorem cp_walk (hV : Val W) (hT : TrW W T0 M a0 k) (hM0 : M a0 = false) : ∀ (m : Nat) (j c q : Int) (T : St) (n : Nat), 0 ≤ j → j < k → j < m → c + j ≤ 60 → 0 ≤ c → m + 2 ≤ n → (1 ≤ q ∧ q ≤ pgs W) → (∀ p : Int, 0 ≤ p → p < 65 → g T 510 p.toNat = g T0 510 p.toNat) → (∀ l, 0 ≤ l → l ≤ j → g T 509 (g T0 511 l.toNat).toNat = g T0 509 (g T0 511 l.toNat).toNat) → MCq W T M q → adjW W (g T0 511 j.toNat) q = true → g T 510 q.toNat = g T0 511 j.toNat →
    ∃ T', lp (fun go p0 => lb_Searches_changePartners_4 505 go p0.1 p0.2.1 p0.2.2) n (q, c, T) = some (.inr T') ∧ Off T T' 508 510 ∧ MC W T' (fun x => M x || decide (x = a0))
  | 0, j, c, q, T, n, h0, _, h2, _, _, _, _, _, _, _, _, _ => by omega
  | m + 1, j, c, q, T, n + 1, h0, h1, h2, h3, h4, h5, hq, hr, hw, hC, ha, hb => by
    have b := hV.pg
    have bA := hV.1.1
    have wj := hT.2.2.1 j h0 h1
    obtain ⟨x, hx⟩ : ∃ x, x = g T0 511 j.toNat := ⟨_, rfl⟩
    rw [← hx] at wj ha hb
    obtain ⟨T1, hT1⟩ : ∃ T1, T1 = u (u T 509 x.toNat q) 508 q.toNat x := ⟨_, rfl⟩
    have o1 : Off T T1 508 510 := by rw [hT1]; exact (Off.wt (by omega) (by omega)).tu (by omega) (by omega)
    have s9 : ∀ y : Int, 0 ≤ y → g T1 509 y.toNat = if y = x then q else g T 509 y.toNat := fun y y0 => by
      rw [hT1, g_ne (by omega)]
      by_cases e : y = x
      · rw [e, g_eq, if_pos rfl, wr_s (by omega) (by omega)]
      · rw [g_ne (by omega), if_neg e]
    have s8 : ∀ y : Int, 0 ≤ y → g T1 508 y.toNat = if y = q then x else g T 508 y.toNat := fun y y0 => by
      rw [hT1]
      by_cases e : y = q
      · rw [e, g_eq, if_pos rfl, wr_s (by omega) (by omega)]
      · rw [g_ne (by omega), g_ne (by omega), if_neg e]
    have s10 : ∀ p : Int, g T1 510 p.toNat = g T 510 p.toNat := fun p => by rw [hT1, g_ne (by omega), g_ne (by omega)]
    have body : ∀ go : Int × Int × St → Option (St ⊕ St), lb_Searches_changePartners_4 505 go q c T = go (g T 509 x.toNat, c + 1, T1) := fun go => by
      unfold lb_Searches_changePartners_4
      rw [if_neg (by omega : ¬ 64 ≤ c), if_neg (by omega : ¬ q = 0), if_pos (by omega : 0 ≤ q ∧ q < 65), tg_505_6, hb, if_neg (by omega : ¬ x = -1), if_pos (by omega : 0 ≤ x ∧ x < 40), tg_505_5, tg_505_4, nm_x, nm_x, nm_x, wr_s (z := c + 1) (by omega) (by omega), ← hT1]
    rw [lp_succ]
    have body' : lb_Searches_changePartners_4 505 (lp (fun go p0 => lb_Searches_changePartners_4 505 go p0.1 p0.2.1 p0.2.2) n) (q, c, T).1 (q, c, T).2.1 (q, c, T).2.2 = _ := body _
    rw [body']
    by_cases cj : j = 0
    · -- the ad that joins
      have xa : x = a0 := by rw [hx, cj]; exact hT.2.1
      have z0 : g T 509 x.toNat = 0 := by
        have q0 := hC.1 x wj.1 (by omega)
        rw [xa, hM0, if_neg Bool.false_ne_true] at q0
        rw [xa]; exact q0
      obtain ⟨n', rfl⟩ : ∃ n', n = n' + 1 := ⟨n - 1, by omega⟩
      refine ⟨T1, ?_, o1, fun a a1 a2 => ?_, fun p p1 p2 => ?_⟩
      · rw [z0, lp_succ]
        show lb_Searches_changePartners_4 505 _ 0 (c + 1) T1 = _
        unfold lb_Searches_changePartners_4
        rw [if_neg (by omega : ¬ 64 ≤ c + 1), if_pos rfl]
      · have q0 := hC.1 a a1 a2
        show if (M a || decide (a = a0)) = true then _ else _
        by_cases e : a = x
        · have ea : a = a0 := e.trans xa
          rw [decide_eq_true ea, Bool.or_true, if_pos rfl, s9 a a1, if_pos e, s8 q (by omega), if_pos rfl, e]
          exact ⟨hq, wj.2, ha, rfl⟩
        · rw [decide_eq_false (fun z => e (z.trans xa.symm)), Bool.or_false, s9 a a1, if_neg e]
          by_cases em : M a = true
          · rw [if_pos em] at q0 ⊢
            rw [s8 _ (by omega), if_neg q0.2.2.2.2]
            exact ⟨q0.1, q0.2.1, q0.2.2.1, q0.2.2.2.1⟩
          · rw [if_neg em] at q0 ⊢
            exact q0
      · rw [s8 p (by omega)]
        by_cases e : p = q
        · rw [if_pos e, s9 x wj.1, if_pos rfl]
          exact .inr ⟨wj, by show (M x || decide (x = a0)) = true; rw [decide_eq_true xa, Bool.or_true], e.symm⟩
        · rw [if_neg e]
          rcases hC.2 p p1 p2 e with r | ⟨r1, r2, r3⟩
          · exact .inl r
          · refine .inr ⟨r1, by show (M (g T 508 p.toNat) || decide (g T 508 p.toNat = a0)) = true; rw [r2]; rfl, ?_⟩
            rw [s9 _ r1.1, if_neg (fun z => ?_)]
            · exact r3
            · rw [z, xa, hM0] at r2; exact Bool.false_ne_true r2
    · obtain ⟨mx, i, i0, i1, i2, i3⟩ := hT.2.2.2.2 j (by omega) h1
      rw [← hx] at mx i2 i3
      have qx := hC.1 x wj.1 (by omega)
      rw [if_pos mx] at qx
      have ex : g T 509 x.toNat = g T0 509 x.toNat := by have := hw j h0 (Int.le_refl _); rw [← hx] at this; exact this
      obtain ⟨q', hq'⟩ : ∃ q', q' = g T 509 x.toNat := ⟨_, rfl⟩
      rw [← hq'] at qx ⊢
      rw [← ex, ← hq'] at i2 i3
      have wne : ∀ l, 0 ≤ l → l ≤ i → g T0 511 l.toNat ≠ x := fun l l0 l1 => by rw [hx]; exact hT.2.2.2.1 l j l0 (by omega) h1
      obtain ⟨T', e, o, r⟩ := cp_walk hV hT hM0 m i (c + 1) q' T1 n i0 (by omega) (by omega) (by omega) (by omega) (by omega) qx.1
        (fun p p0 p1 => by rw [s10]; exact hr p p0 p1)
        (fun l l0 l1 => by
          have := hT.2.2.1 l l0 (by omega)
          rw [s9 _ this.1, if_neg (wne l l0 l1)]
          exact hw l l0 (by omega))
        ⟨fun a a1 a2 => by
          have q0 := hC.1 a a1 a2
          by_cases e : a = x
          · rw [e, if_pos mx, s9 x wj.1, if_pos rfl, s8 q (by omega), if_pos rfl]
            exact ⟨hq, wj.2, ha, rfl, fun z => qx.2.2.2.2 z.symm⟩
          · rw [s9 a a1, if_neg e]
            by_cases em : M a = true
            · rw [if_pos em] at q0 ⊢
              rw [s8 _ (by omega), if_neg q0.2.2.2.2]
              exact ⟨q0.1, q0.2.1, q0.2.2.1, q0.2.2.2.1, fun z => e (by rw [← q0.2.2.2.1, z]; exact qx.2.2.2.1)⟩
            · rw [if_neg em] at q0 ⊢
              exact q0,
        fun p p1 p2 p3 => by
          rw [s8 p (by omega)]
          by_cases e : p = q
          · rw [if_pos e, s9 x wj.1, if_pos rfl]
            exact .inr ⟨wj, mx, e.symm⟩
          · rw [if_neg e]
            rcases hC.2 p p1 p2 e with r | ⟨r1, r2, r3⟩
            · exact .inl r
            · refine .inr ⟨r1, r2, ?_⟩
              rw [s9 _ r1.1, if_neg (fun z => p3 (by rw [← r3, z]; exact hq'.symm))]
              exact r3⟩ i3 (by rw [s10, hr q' (by omega) (by omega)]; exact i2)
      exact ⟨T', e, o1.trans o, r⟩
end Match2

