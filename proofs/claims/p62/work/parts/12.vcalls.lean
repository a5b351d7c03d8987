
section VCalls
variable {E : EV} {Y Y' : MI} {X : XT} {mc ms mc' ms' pc k n i nA : Nat} {ls : List (Nat × Value)} {st As rest : List Value} {S S' : St} {K K' : RK → PS → Prop}
theorem ltK {a b : Nat} (h : Nat.ble (a + 1) b = true) : a < b := Nat.le_of_ble_eq_true h
theorem leK {a b : Nat} (h : Nat.ble a b = true) : a ≤ b := Nat.le_of_ble_eq_true h
theorem gsk {st' : List Value} {w : PS} (e : st' = st) (h : Go E Y mc ms pc ls st' w k n K) : Go E Y mc ms pc ls st w k n K := e ▸ h
theorem Vn {x e : Int} (h : x = wr e) : V x = V e := by rw [h, V_wr]
theorem Vn_in {x e : Int} (h : x = wr e) : inR x := h ▸ wr_in e
theorem Jn {x e : Int} (h : x = wl e) : J x = J e := by rw [h, J_wl]
theorem Jn_in {x e : Int} (h : x = wl e) : inL x := h ▸ wl_in e
theorem inR_nat {N : Nat} (h : Nat.ble N 99999 = true) : inR (N : Int) := by have := Nat.le_of_ble_eq_true h; unfold inR; omega
theorem gtop {x e : Int} (h0 : x = wr e) (h : Go E Y mc ms pc ls (V x :: st) (WX X S) k n K) : Go E Y mc ms pc ls (V e :: st) (WX X S) k n K := gsk (by rw [Vn h0]) h
theorem gtopJ {x e : Int} (h0 : x = wl e) (h : Go E Y mc ms pc ls (J x :: st) (WX X S) k n K) : Go E Y mc ms pc ls (J e :: st) (WX X S) k n K := gsk (by rw [Jn h0]) h
theorem vg_iinc {j : Nat} {z a x : Int} {ls2 : List (Nat × Value)} {w : PS} (hd : decode (mBy Y) pc = .ok (.iinc i z, 3)) (hl0 : ls[j]? = some (i, V a)) (e : x = wr (a + z)) (hn : i < mLo Y) (he : stI i (V x) ls = ls2) (h : Go E Y mc ms (pc + 3) ls2 st w k n K) : Go E Y mc ms pc ls st w k n K :=
  g_iinc hd hl0 (v := Int32.ofInt x) (by rw [e]; unfold wr; rw [Int32.ofInt_toInt, Int32.ofInt_add]) hn he h
theorem vg_ldc {v : Int32} {y : Int} {w : PS} (hd : decode (mBy Y) pc = .ok (.ldc i, 2)) (hc : Cond.constant (mNm Y).cls i v ∈ gtbl) (hy : v = Int32.ofInt y) (h : Go E Y mc ms (pc + 2) ls (V y :: st) w k n K) : Go E Y mc ms pc ls st w k n K := g_ldc hd hc (hy ▸ h)
theorem vg_ldcw {v : Int32} {y : Int} {w : PS} (hd : decode (mBy Y) pc = .ok (.ldc_w i, 3)) (hc : Cond.constant (mNm Y).cls i v ∈ gtbl) (hy : v = Int32.ofInt y) (h : Go E Y mc ms (pc + 3) ls (V y :: st) w k n K) : Go E Y mc ms pc ls st w k n K := g_ldcw hd hc (hy ▸ h)
theorem vg_ldc2 {v : Int64} {y : Int} {w : PS} (hd : decode (mBy Y) pc = .ok (.ldc2_w i, 3)) (hc : Cond.constantLong (mNm Y).cls i v ∈ gtbl) (hy : v = Int64.ofInt y) (h : Go E Y mc ms (pc + 3) ls (J y :: st) w k n K) : Go E Y mc ms pc ls st w k n K := g_ldc2 hd hc (hy ▸ h)
theorem vg_iretI {r : Int} (hd : decode (mBy Y) pc = .ok (.ireturn, 1)) (hr : mRt Y = some .int) (hk : k ≤ mc) (hn : n ≤ ms) (hf : X.2.2.2 = true → k = mc) (h : K (.inl (some (V r))) (WX X S)) : Go E Y mc ms pc ls (V r :: []) (WX X S) k n K := g_ireturn hd hr rfl hk hn hf h
theorem vg_iretB {b : Bool} (hd : decode (mBy Y) pc = .ok (.ireturn, 1)) (hr : mRt Y = some .boolean) (hk : k ≤ mc) (hn : n ≤ ms) (hf : X.2.2.2 = true → k = mc) (h : K (.inl (some (V (bi b)))) (WX X S)) : Go E Y mc ms pc ls (V (bi b) :: []) (WX X S) k n K := g_ireturn hd hr (narB b) hk hn hf h
theorem sbn {ls : List (Nat × Value)} : ∀ q ∈ ([] : List (Nat × Value)), q ∈ ls := fun _ h => nomatch h
theorem sbc {ls ls' : List (Nat × Value)} {a : Nat × Value} (j : Nat) (h : ls[j]? = some a) (t : ∀ q ∈ ls', q ∈ ls) : ∀ q ∈ a :: ls', q ∈ ls := fun q hq => by
  rcases List.mem_cons.mp hq with rfl | hq
  · exact List.mem_of_getElem? h
  · exact t q hq
/-! after a call -/
theorem kcI {r : Int} (h : inR r → Go E Y mc ms pc ls (V r :: rest) (WX X S') k n K) : ∀ rk w, KI X r S' rk w → KC E Y mc ms pc ls rest X.2.2.2 k n K rk w := by
  rintro _ _ ⟨rfl, h1, rfl⟩
  show Go E Y mc ms pc ls (V r :: rest) ((WX X S').1, X.2.2.2 && X.2.2.2) k n K
  rw [Bool.and_self]; exact h h1
theorem kcB {b : Bool} (h : Go E Y mc ms pc ls (V (bi b) :: rest) (WX X S') k n K) : ∀ rk w, KB X b S' rk w → KC E Y mc ms pc ls rest X.2.2.2 k n K rk w := by
  rintro _ _ ⟨rfl, rfl⟩
  show Go E Y mc ms pc ls (V (bi b) :: rest) ((WX X S').1, X.2.2.2 && X.2.2.2) k n K
  rw [Bool.and_self]; exact h
theorem kcJ {r : Int} (h : inL r → Go E Y mc ms pc ls (J r :: rest) (WX X S') k n K) : ∀ rk w, KJ X r S' rk w → KC E Y mc ms pc ls rest X.2.2.2 k n K rk w := by
  rintro _ _ ⟨rfl, h1, rfl⟩
  show Go E Y mc ms pc ls (J r :: rest) ((WX X S').1, X.2.2.2 && X.2.2.2) k n K
  rw [Bool.and_self]; exact h h1
theorem kcD {r : UInt64} (h : Go E Y mc ms pc ls (.double r :: rest) (WX X S') k n K) : ∀ rk w, KD X r S' rk w → KC E Y mc ms pc ls rest X.2.2.2 k n K rk w := by
  rintro _ _ ⟨rfl, rfl⟩
  show Go E Y mc ms pc ls (.double r :: rest) ((WX X S').1, X.2.2.2 && X.2.2.2) k n K
  rw [Bool.and_self]; exact h
theorem kcU (h : Go E Y mc ms pc ls rest (WX X S') k n K) : ∀ rk w, KU X S' rk w → KC E Y mc ms pc ls rest X.2.2.2 k n K rk w := by
  rintro _ _ ⟨rfl, rfl⟩
  show Go E Y mc ms pc ls rest ((WX X S').1, X.2.2.2 && X.2.2.2) k n K
  rw [Bool.and_self]; exact h
theorem kcT {e : Nat} {fl : Bool} (hfl : X.2.2.2 = false) (h0 : e = 0 → ∀ rk w, K' rk w → KC E Y mc ms pc ls rest fl k n K rk w) (h1 : ¬ e = 0 → mHh Y = [] ∧ K (.inr (exN e)) (WX X S')) : ∀ rk w, KT X e S' K' rk w → KC E Y mc ms pc ls rest fl k n K rk w := by
  intro rk w hq
  unfold KT at hq
  by_cases he : e = 0
  · rw [if_pos he] at hq; exact h0 he rk w hq
  · rw [if_neg he] at hq
    obtain ⟨rfl, rfl⟩ := hq
    have hK := h1 he
    refine ⟨hK.1, ?_⟩
    have e2 : WX X S' = ((WX X S').1, false) := by unfold WX; rw [hfl]
    rw [← e2]
    exact hK.2
theorem kn {fl : Bool} {rk : RK} {w : PS} (h : KC E Y mc ms pc ls rest fl k n K rk w) (hr : ∀ cn, rk ≠ .inr cn) : KN E Y mc ms pc ls rest fl k n K rk w := by
  cases rk with
  | inl v => exact h
  | inr cn => exact absurd rfl (hr cn)
theorem knI {r : Int} {fl : Bool} (h : ∀ rk w, KI X r S' rk w → KC E Y mc ms pc ls rest fl k n K rk w) : ∀ rk w, KI X r S' rk w → KN E Y mc ms pc ls rest fl k n K rk w := fun rk w hq => kn (h rk w hq) (fun cn e => by rw [hq.1] at e; cases e)
theorem knB {b : Bool} {fl : Bool} (h : ∀ rk w, KB X b S' rk w → KC E Y mc ms pc ls rest fl k n K rk w) : ∀ rk w, KB X b S' rk w → KN E Y mc ms pc ls rest fl k n K rk w := fun rk w hq => kn (h rk w hq) (fun cn e => by rw [hq.1] at e; cases e)
theorem knU {fl : Bool} (h : ∀ rk w, KU X S' rk w → KC E Y mc ms pc ls rest fl k n K rk w) : ∀ rk w, KU X S' rk w → KN E Y mc ms pc ls rest fl k n K rk w := fun rk w hq => kn (h rk w hq) (fun cn e => by rw [hq.1] at e; cases e)
theorem vg_cV {b ci : Nat} (hd : decode (mBy Y) pc = .ok (.invokevirtual i, 3)) (hw : LV (mNm Y).cls i (RC ci) Y' nA) (hf : Fits Y Y') (hci : ci < 18) (hc : HC X ci b) (hA : As.length = nA) (hr8 : (rest.map fun v => v.category).sum ≤ 8) (hk : k + mc' ≤ mc) (hn : n + ms' ≤ ms)
    (hE : Ev E Y' (.ref b :: As) (WX X S) mc' ms' K') (hK : ∀ rk w, K' rk w → KC E Y mc ms (pc + 3) ls rest X.2.2.2 (k + mc') (n + ms') K rk w) : Go E Y mc ms pc ls (As.reverse ++ .ref b :: rest) (WX X S) k n K :=
  g_callV hd hw hf hci hc.lt (hc.at S) hA hr8 hk hn (hE.mono hK)
theorem vg_cS (hd : decode (mBy Y) pc = .ok (.invokestatic i, 3)) (hw : LQ (mNm Y).cls i Y' nA) (hf : Fits Y Y') (hA : As.length = nA) (hr8 : (rest.map fun v => v.category).sum ≤ 8) (hk : k + mc' ≤ mc) (hn : n + ms' ≤ ms)
    (hE : Ev E Y' As (WX X S) mc' ms' K') (hK : ∀ rk w, K' rk w → KC E Y mc ms (pc + 3) ls rest X.2.2.2 (k + mc') (n + ms') K rk w) : Go E Y mc ms pc ls (As.reverse ++ rest) (WX X S) k n K :=
  g_callS hd hw hf hA hr8 hk hn (hE.mono hK)
theorem vg_cSN (hd : decode (mBy Y) pc = .ok (.invokestatic i, 3)) (hw : LSN (mNm Y).cls i Y' nA) (hf : Fits Y Y') (hA : As.length = nA) (hr8 : (rest.map fun v => v.category).sum ≤ 8) (hk : k + mc' ≤ mc) (hn : n + ms' ≤ ms)
    (hE : Ev E Y' As (WX X S) mc' ms' K') (hK : ∀ rk w, K' rk w → KN E Y mc ms (pc + 3) ls rest X.2.2.2 (k + mc') (n + ms') K rk w) : Go E Y mc ms pc ls (As.reverse ++ rest) (WX X S) k n K :=
  g_callSN hd hw hf hA hr8 hk hn (hE.mono hK)
theorem slr {α β : Type} {a : α} {b : β} {C : Prop} (e : (Sum.inl a : α ⊕ β) = .inr b) : C := nomatch e
theorem srl {α β : Type} {a : α} {b : β} {C : Prop} (e : (Sum.inr b : α ⊕ β) = .inl a) : C := nomatch e
/-- a row copied into another -/
def i_min (a b : Int) : Int := if b < a then b else a
def i_max (a b : Int) : Int := if a < b then b else a
def i_abs (a : Int) : Int := if 0 ≤ a then a else 0 - a
theorem i_min_in {a b : Int} (ha : inR a) (hb : inR b) : inR (i_min a b) := by unfold i_min; split <;> assumption
theorem i_max_in {a b : Int} (ha : inR a) (hb : inR b) : inR (i_max a b) := by unfold i_max; split <;> assumption
theorem vg_mmin {a b : Int} {w : PS} (hd : decode (mBy Y) pc = .ok (.invokestatic i, 3)) (h1 : Cond.methodLink (mNm Y).cls i Lib.Math.min.name ∈ gtbl) (hF : 1 ≤ mFr Y) (hr8 : (st.map fun v => v.category).sum + 13 ≤ mWd Y) (hk : k ≤ mc) (hn : n ≤ ms) (ha : inR a) (hb : inR b) (h : Go E Y mc ms (pc + 3) ls (V (i_min a b) :: st) w k n K) : Go E Y mc ms pc ls (V b :: V a :: st) w k n K := by
  refine g_mmin hd h1 hF hr8 hk hn ?_
  have e : (if Int32.ofInt b < Int32.ofInt a then Int32.ofInt b else Int32.ofInt a) = Int32.ofInt (i_min a b) := by
    unfold i_min
    simp only [I_lt hb ha]
    split <;> rfl
  rw [e]; exact h
theorem vg_mmax {a b : Int} {w : PS} (hd : decode (mBy Y) pc = .ok (.invokestatic i, 3)) (h1 : Cond.methodLink (mNm Y).cls i Lib.Math.max.name ∈ gtbl) (hF : 1 ≤ mFr Y) (hr8 : (st.map fun v => v.category).sum + 13 ≤ mWd Y) (hk : k ≤ mc) (hn : n ≤ ms) (ha : inR a) (hb : inR b) (h : Go E Y mc ms (pc + 3) ls (V (i_max a b) :: st) w k n K) : Go E Y mc ms pc ls (V b :: V a :: st) w k n K := by
  refine g_mmax hd h1 hF hr8 hk hn ?_
  have e : (if Int32.ofInt a < Int32.ofInt b then Int32.ofInt b else Int32.ofInt a) = Int32.ofInt (i_max a b) := by
    unfold i_max
    simp only [I_lt ha hb]
    split <;> rfl
  rw [e]; exact h
theorem vg_mabs {a : Int} {w : PS} (hd : decode (mBy Y) pc = .ok (.invokestatic i, 3)) (h1 : Cond.methodLink (mNm Y).cls i Lib.Math.abs.name ∈ gtbl) (hF : 1 ≤ mFr Y) (hr8 : (st.map fun v => v.category).sum + 13 ≤ mWd Y) (hk : k ≤ mc) (hn : n ≤ ms) (ha : inR a) (h : Go E Y mc ms (pc + 3) ls (V (i_abs a) :: st) w k n K) : Go E Y mc ms pc ls (V a :: st) w k n K := by
  refine g_mabs hd h1 hF hr8 hk hn ?_
  have e : (if 0 ≤ Int32.ofInt a then Int32.ofInt a else 0 - Int32.ofInt a) = Int32.ofInt (i_abs a) := by
    unfold i_abs
    rw [I_0]
    simp only [I_le inR0 ha]
    split
    · rfl
    · rw [← Int32.ofInt_sub]
  rw [e]; exact h
def cpI (S : St) (a b n : Nat) : St := (fun x f => if x = b ∧ f < n then S.1 a f else S.1 x f, S.2)
theorem ifP {β : Type} {c : Prop} [Decidable c] {a b x : β} (h : (if c then a else b) = x) (hc : c) : a = x := by rw [if_pos hc] at h; exact h
theorem ifN {β : Type} {c : Prop} [Decidable c] {a b x : β} (h : (if c then a else b) = x) (hc : ¬ c) : b = x := by rw [if_neg hc] at h; exact h
theorem x0f {a b : Nat} (h : X0.2.2.2 = true) : a = b := nomatch (show false = true from h)
theorem KT_thr {e : Nat} (he : ¬ e = 0) : KT X e S K (.inr (exN e)) (WX X S) := by unfold KT; rw [if_neg he]; exact ⟨rfl, rfl⟩
theorem KT_ok {rk : RK} {w : PS} (h : K rk w) : KT X 0 S K rk w := by unfold KT; rw [if_pos rfl]; exact h
theorem vg_tabK {dflt lo hi : Int} {offs : Array Int} {len t : Nat} {a kk off : Int} (hd : decode (mBy Y) pc = .ok (.tableswitch dflt lo hi offs, len)) (ha : a = kk) (hr : kR kk = true) (h1 : (decide (lo ≤ kk) && decide (kk ≤ hi)) = true) (ho : offs[(kk - lo).toNat]? = some off) (ht : (pc : Int) + off = (t : Int)) (h : Go E Y mc ms t ls st (WX X S) k n K) : Go E Y mc ms pc ls (V a :: st) (WX X S) k n K := by
  subst ha
  rw [Bool.and_eq_true, decide_eq_true_eq, decide_eq_true_eq] at h1
  have e := I_toInt (inRk hr)
  exact g_tableIn hd (by rw [e]; omega) (by rw [e]; omega) (by rw [e]; exact ho) ht h
theorem vg_tabD {dflt lo hi : Int} {offs : Array Int} {len t : Nat} {a : Int} (hd : decode (mBy Y) pc = .ok (.tableswitch dflt lo hi offs, len)) (ha : inR a) (h0 : a < lo ∨ hi < a) (ht : (pc : Int) + dflt = (t : Int)) (h : Go E Y mc ms t ls st (WX X S) k n K) : Go E Y mc ms pc ls (V a :: st) (WX X S) k n K :=
  g_tableOut hd (by rw [I_toInt ha]; exact h0) ht h
theorem kptAll : ∀ a, a < nCell → (!(Nat.beq (kd a) 105) || (List.range (ln a)).all (fun f => Nat.ble (tgt a f + 1) nCell && Nat.beq (kd (tgt a f)) 8)) = true := by decide +kernel
theorem hw_kept {N a j : Nat} (h : HA X 5 N a) (hj : j < N) : HC X 8 (tgt a j) := by
  have q := h.1.2 a j h.2.1 h.2.2.1 (.inr ⟨h.2.2.2.1, by rw [h.2.2.2.2]; exact hj⟩)
  have h1 := kptAll a h.is.1
  rw [h.2.2.2.1] at h1
  have h2 : (List.range (ln a)).all (fun f => Nat.ble (tgt a f + 1) nCell && Nat.beq (kd (tgt a f)) 8) = true := h1
  have h3 := List.all_eq_true.mp h2 j (List.mem_range.mpr (by rw [h.2.2.2.2]; exact hj))
  rw [Bool.and_eq_true] at h3
  exact ⟨h.1, q.1, q.2, Nat.eq_of_beq_eq_true h3.2⟩
theorem ix_lt {N : Nat} {i : Int} (h : 0 ≤ i ∧ i < (N : Int)) : i.toNat < N := by omega
end VCalls
