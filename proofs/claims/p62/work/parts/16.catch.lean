
section VCatch
variable {E : EV} {Y Y' : MI} {mc ms mc' ms' pc k n i nA : Nat} {ls : List (Nat × Value)} {st As rest : List Value} {S S' : St} {K K' : RK → PS → Prop} {X : XT}
theorem wx_f {X : XT} (hfl : X.2.2.2 = false) (S : St) (b : Bool) : ((WX X S).1, (WX X S).2 && b) = WX X S := by
  unfold WX
  rw [hfl]; rfl
theorem wx_g {X : XT} (hfl : X.2.2.2 = false) (S : St) : ((WX X S).1, false) = WX X S := by
  unfold WX
  rw [hfl]
theorem kxI (hfl : X.2.2.2 = false) {r : Int} (h : inR r → Go E Y mc ms (pc + 3) ls (V r :: rest) (WX X S') k n K) : ∀ rk w, KI X r S' rk w → KX E Y mc ms pc ls rest false k n K rk w := by
  rintro _ _ ⟨rfl, h1, rfl⟩
  show Go E Y mc ms (pc + 3) ls (V r :: rest) ((WX X S').1, (WX X S').2 && false) k n K
  rw [wx_f hfl]
  exact h h1
theorem kxB (hfl : X.2.2.2 = false) {b : Bool} (h : Go E Y mc ms (pc + 3) ls (V (bi b) :: rest) (WX X S') k n K) : ∀ rk w, KB X b S' rk w → KX E Y mc ms pc ls rest false k n K rk w := by
  rintro _ _ ⟨rfl, rfl⟩
  show Go E Y mc ms (pc + 3) ls (V (bi b) :: rest) ((WX X S').1, (WX X S').2 && false) k n K
  rw [wx_f hfl]
  exact h
theorem kxD (hfl : X.2.2.2 = false) {r : UInt64} (h : Go E Y mc ms (pc + 3) ls (.double r :: rest) (WX X S') k n K) : ∀ rk w, KD X r S' rk w → KX E Y mc ms pc ls rest false k n K rk w := by
  rintro _ _ ⟨rfl, rfl⟩
  show Go E Y mc ms (pc + 3) ls (.double r :: rest) ((WX X S').1, (WX X S').2 && false) k n K
  rw [wx_f hfl]
  exact h
theorem kxT (hfl : X.2.2.2 = false) {e : Nat} (h0 : e = 0 → ∀ rk w, K' rk w → KX E Y mc ms pc ls rest false k n K rk w) (h1 : ¬ e = 0 → ∃ v : Int32, CT Y pc (exN e) v ∧ K (.inl (some (.int v))) (WX X S')) : ∀ rk w, KT X e S' K' rk w → KX E Y mc ms pc ls rest false k n K rk w := by
  intro rk w hq
  unfold KT at hq
  by_cases he : e = 0
  · rw [if_pos he] at hq; exact h0 he rk w hq
  · rw [if_neg he] at hq
    obtain ⟨rfl, rfl⟩ := hq
    obtain ⟨v, h2, h3⟩ := h1 he
    refine ⟨v, h2, ?_⟩
    rw [wx_g hfl]
    exact h3
theorem vg_cVX (hfl : X.2.2.2 = false) {b ci : Nat} (hd : decode (mBy Y) pc = .ok (.invokevirtual i, 3)) (hw : LV (mNm Y).cls i (RC ci) Y' nA) (hf : Fits Y Y') (hci : ci < 18) (hc : HC X ci b) (hA : As.length = nA) (hr8 : (rest.map fun v => v.category).sum ≤ 8) (hk : k + mc' ≤ mc) (hn : n + ms' ≤ ms)
    (hE : Ev E Y' (.ref b :: As) (WX X S) mc' ms' K') (hK : ∀ rk w, K' rk w → KX E Y mc ms pc ls rest false (k + mc') (n + ms') K rk w) : Go E Y mc ms pc ls (As.reverse ++ .ref b :: rest) (WX X S) k n K := by
  refine g_callVX hd hw hf hci hc.lt (hc.at S) hA hr8 hk hn (hE.mono ?_)
  have e : (WX X S).2 = false := hfl
  rw [e]
  exact hK
theorem EvH.mono {args : List Value} {w : PS} {mc ms : Nat} (hk : ∀ r S, K r S → K' r S) (h : EvH E Y args w mc ms K) : EvH E Y args w mc ms K' := by
  intro p e ha hc hkk s m args below hf happ hP hK
  obtain ⟨n, o, h1, h2, h3, h4⟩ := h p e ha hc hkk s m args below hf happ hP hK
  refine ⟨n, o, h1, h2, h3, ?_⟩
  rcases h4 with ⟨⟨⟨v, S', q1, q2, q3⟩, q4⟩, q5⟩ | ⟨q, q1, E1, ce, L, ⟨⟨S', q2, q3⟩, q4⟩, q5⟩
  · exact Or.inl ⟨⟨⟨v, S', q1, hk _ _ q2, q3⟩, q4⟩, q5⟩
  · exact Or.inr ⟨q, q1, E1, ce, L, ⟨⟨S', hk _ _ q2, q3⟩, q4⟩, q5⟩
/-- a contract that never throws, in the plain form -/
theorem vg_cSX (hd : decode (mBy Y) pc = .ok (.invokestatic i, 3)) (hw : LH (mNm Y).cls i Y' nA) (hf : Fits Y Y') (hA : As.length = nA) (hr8 : (rest.map fun v => v.category).sum ≤ 8) (hk : k + mc' ≤ mc) (hn : n + ms' ≤ ms)
    (hE : EvH E Y' As (WX X S) mc' ms' K') (hK : ∀ rk w, K' rk w → KC E Y mc ms (pc + 3) ls rest X.2.2.2 (k + mc') (n + ms') K rk w) : Go E Y mc ms pc ls (As.reverse ++ rest) (WX X S) k n K :=
  g_callSX hd hw hf hA hr8 hk hn (hE.mono hK)
end VCatch

theorem CT_Law_thrownByPage_3_1 : CT M_Law_thrownByPage 3 (exN 1) (Int32.ofInt 1) := ⟨[], [], (0, 7, 10, 32), "java/lang/IndexOutOfBoundsException", 2, 11, 1, rfl, (fun _ h => absurd h List.not_mem_nil), by decide, by decide, q_1164, List.mem_of_getElem? (i := 3) rfl, ltK rfl, .inr ⟨2, rfl, (dK D_Law_thrownByPage 6 rfl), rfl⟩, (dK D_Law_thrownByPage 7 rfl), rfl, (dK D_Law_thrownByPage 8 rfl), rfl⟩
theorem CT_Law_thrownByPrice_1_3 : CT M_Law_thrownByPrice 1 (exN 3) (Int32.ofInt 3) := ⟨[], [], (0, 5, 8, 38), "java/lang/ArithmeticException", 1, 9, 3, rfl, (fun _ h => absurd h List.not_mem_nil), by decide, by decide, q_1201, List.mem_of_getElem? (i := 5) rfl, ltK rfl, .inr ⟨1, rfl, (dK D_Law_thrownByPrice 4 rfl), rfl⟩, (dK D_Law_thrownByPrice 5 rfl), rfl, (dK D_Law_thrownByPrice 6 rfl), rfl⟩
