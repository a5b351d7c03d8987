/-! load: the reference's scan -/
section Token2
variable {B : Int → Int} {L p s n : Int} {S S' T T' : St} {q : Int → Bool}
def TxM (B : Int → Int) (L : Int) (T : St) : Prop := Txt B L ∧ g T 514 14 = L ∧ ∀ j : Int, 0 ≤ j → j < L → i_and (g T 523 j.toNat) 255 = B j
def RaM (T T' : St) : Prop := Off T T' 514 515 ∧ ∀ f, f ≠ 15 → f ≠ 18 → f ≠ 19 → g T' 514 f = g T 514 f
theorem RaM.refl : RaM T T := ⟨Off.refl, fun _ _ _ _ => rfl⟩
theorem RaM.trans {T'' : St} (h : RaM T T') (h' : RaM T' T'') : RaM T T'' := ⟨h.1.trans h'.1, fun f a b c => (h'.2 f a b c).trans (h.2 f a b c)⟩
theorem RaM.wt {f : Nat} {z : Int} (hf : f = 15 ∨ f = 18 ∨ f = 19) : RaM T (u T 514 f z) := ⟨Off.wt (by omega) (by omega), fun f' a b c => g_ne (by omega)⟩
theorem RaM.wl {z : Int} : RaM T (ul T 514 21 z) := ⟨Off.wtl (by omega) (by omega), fun _ _ _ _ => rfl⟩
theorem TxM.ra (h : TxM B L T) (r : RaM T T') : TxM B L T' := ⟨h.1, by rw [r.2 14 (by decide) (by decide) (by decide)]; exact h.2.1, fun j j1 j2 => by rw [r.1.rd (by omega)]; exact h.2.2 j j1 j2⟩
def vlN (base off : Int) (B : Int → Int) (s : Int) : Nat → Int
  | 0 => 0
  | n + 1 => vlN base off B s n * base + B (s + n) - off
def pw32 : Nat → Int
  | 0 => 1
  | n + 1 => pw32 n * 32
def pw10 : Nat → Int
  | 0 => 1
  | n + 1 => pw10 n * 10
theorem vl32 : ∀ {n : Nat}, (∀ j, s ≤ j → j < s + n → ltr B j = true) → 0 ≤ vlN 32 96 B s n ∧ vlN 32 96 B s n + 1 ≤ pw32 n
  | 0, _ => by
    show 0 ≤ (0 : Int) ∧ (0 : Int) + 1 ≤ 1
    omega
  | n + 1, h => by
    have q := vl32 (n := n) (fun j j1 j2 => h j j1 (by omega))
    have d := of_decide_eq_true (h (s + n) (by omega) (by omega))
    show 0 ≤ vlN 32 96 B s n * 32 + B (s + n) - 96 ∧ vlN 32 96 B s n * 32 + B (s + n) - 96 + 1 ≤ pw32 n * 32
    omega
theorem vl10 : ∀ {n : Nat}, (∀ j, s ≤ j → j < s + n → dgt B j = true) → 0 ≤ vlN 10 48 B s n ∧ vlN 10 48 B s n + 1 ≤ pw10 n
  | 0, _ => by
    show 0 ≤ (0 : Int) ∧ (0 : Int) + 1 ≤ 1
    omega
  | n + 1, h => by
    have q := vl10 (n := n) (fun j j1 j2 => h j j1 (by omega))
    have d := of_decide_eq_true (h (s + n) (by omega) (by omega))
    show 0 ≤ vlN 10 48 B s n * 10 + B (s + n) - 48 ∧ vlN 10 48 B s n * 10 + B (s + n) - 48 + 1 ≤ pw10 n * 10
    omega
theorem pw32_8 : ∀ n : Nat, n < 9 → pw32 n ≤ 1099511627776 := by decide
theorem pw10_4 : ∀ n : Nat, n < 5 → pw10 n ≤ 10000 := by decide
def TkM (B : Int → Int) (L : Int) (T : St) (s : Int) : Prop := g T 514 19 = s ∧ g T 514 15 = tkE B L s ∧ g T 514 18 = tkK B L s ∧ (tkK B L s = 1 → gl T 514 21 = vlN 32 96 B s (tkE B L s - s).toNat) ∧ (tkK B L s = 2 → gl T 514 21 = vlN 10 48 B s (tkE B L s - s).toNat)
end Token2

