section VThrow
variable {E : EV} {Y Y' : MI} {mc ms mc' ms' pc k n i nA : Nat} {ls : List (Nat × Value)} {st As rest : List Value} {S S' : St} {K K' : RK → PS → Prop}
theorem lkp_none {d a : Int} : ∀ {l : List (Int × Int)}, (∀ q ∈ l, q.1 ≠ a) → Op.lookupswitch.offset l d a = d
  | [], _ => rfl
  | (b, o) :: r, h => by
    show (if b = a then o else Op.lookupswitch.offset r d a) = d
    rw [if_neg (h (b, o) List.mem_cons_self)]
    exact lkp_none (fun q hq => h q (List.mem_cons_of_mem _ hq))
theorem vg_lkpK {X : XT} {dflt : Int} {ps : Array (Int × Int)} {len t : Nat} {a kk off : Int} (hd : decode (mBy Y) pc = .ok (.lookupswitch dflt ps, len)) (hp : (ps.toList.zip (ps.toList.drop 1)).all (fun (a, next) => a.1 < next.1) = true) (ha : a = kk) (hr : kR kk = true) (ho : Op.lookupswitch.offset ps.toList dflt kk = off) (ht : (pc : Int) + off = (t : Int)) (h : Go E Y mc ms t ls st (WX X S) k n K) : Go E Y mc ms pc ls (V a :: st) (WX X S) k n K := by
  subst ha
  exact g_lookup hd hp (by rw [I_toInt (inRk hr)]; exact ho) ht h
theorem vg_lkpD {X : XT} {dflt : Int} {ps : Array (Int × Int)} {len t : Nat} {a : Int} (hd : decode (mBy Y) pc = .ok (.lookupswitch dflt ps, len)) (hp : (ps.toList.zip (ps.toList.drop 1)).all (fun (a, next) => a.1 < next.1) = true) (ha : inR a) (hno : ∀ q ∈ ps.toList, q.1 ≠ a) (ht : (pc : Int) + dflt = (t : Int)) (h : Go E Y mc ms t ls st (WX X S) k n K) : Go E Y mc ms pc ls (V a :: st) (WX X S) k n K :=
  g_lookup hd hp (by rw [I_toInt ha]; exact lkp_none hno) ht h
theorem xf {X : XT} (hfl : X.2.2.2 = false) {a b : Nat} (h : X.2.2.2 = true) : a = b := by rw [hfl] at h; cases h
theorem vg_throw {X : XT} (hfl : X.2.2.2 = false) {is ic : Nat} {cls text : String} (hT : TH (mNm Y).cls i is ic cls text)
    (d0 : decode (mBy Y) pc = .ok (.new i, 3)) (d3 : decode (mBy Y) (pc + 3) = .ok (.dup, 1)) (d4 : decode (mBy Y) (pc + 4) = .ok (.ldc is, 2)) (d6 : decode (mBy Y) (pc + 6) = .ok (.invokespecial ic, 3)) (d9 : decode (mBy Y) (pc + 9) = .ok (.athrow, 1))
    (hh : mHh Y = []) (hF : 7 ≤ mFr Y) (hW : 110 ≤ mWd Y) (hr8 : (rest.map fun v => v.category).sum ≤ 8) (hk : k + 1 ≤ mc) (hn : n + 6 ≤ ms) (h : K (.inr cls) (WX X S)) : Go E Y mc ms pc ls rest (WX X S) k n K :=
  g_throw hT d0 d3 d4 d6 d9 hh hF hW hr8 hk hn (by rw [wx_g hfl]; exact h)
theorem vg_throwW {X : XT} (hfl : X.2.2.2 = false) {is ic : Nat} {cls text : String} (hT : TH (mNm Y).cls i is ic cls text)
    (d0 : decode (mBy Y) pc = .ok (.new i, 3)) (d3 : decode (mBy Y) (pc + 3) = .ok (.dup, 1)) (d4 : decode (mBy Y) (pc + 4) = .ok (.ldc_w is, 3)) (d6 : decode (mBy Y) (pc + 7) = .ok (.invokespecial ic, 3)) (d9 : decode (mBy Y) (pc + 10) = .ok (.athrow, 1))
    (hh : mHh Y = []) (hF : 7 ≤ mFr Y) (hW : 110 ≤ mWd Y) (hr8 : (rest.map fun v => v.category).sum ≤ 8) (hk : k + 1 ≤ mc) (hn : n + 6 ≤ ms) (h : K (.inr cls) (WX X S)) : Go E Y mc ms pc ls rest (WX X S) k n K :=
  g_throwW hT d0 d3 d4 d6 d9 hh hF hW hr8 hk hn (by rw [wx_g hfl]; exact h)
end VThrow
