section VThrow
variable {E : EV} {Y Y' : MI} {mc ms mc' ms' pc k n i nA : Nat} {ls : List (Nat × Value)} {st As rest : List Value} {S S' : St} {K K' : RK → PS → Prop}
theorem vg_throw {X : XT} (hfl : X.2.2.2 = false) {is ic : Nat} {cls text : String} (hT : TH (mNm Y).cls i is ic cls text)
    (d0 : decode (mBy Y) pc = .ok (.new i, 3)) (d3 : decode (mBy Y) (pc + 3) = .ok (.dup, 1)) (d4 : decode (mBy Y) (pc + 4) = .ok (.ldc is, 2)) (d6 : decode (mBy Y) (pc + 6) = .ok (.invokespecial ic, 3)) (d9 : decode (mBy Y) (pc + 9) = .ok (.athrow, 1))
    (hh : mHh Y = []) (hF : 7 ≤ mFr Y) (hW : 110 ≤ mWd Y) (hr8 : (rest.map fun v => v.category).sum ≤ 8) (hk : k + 1 ≤ mc) (hn : n + 6 ≤ ms) (h : K (.inr cls) (WX X S)) : Go E Y mc ms pc ls rest (WX X S) k n K :=
  g_throw hT d0 d3 d4 d6 d9 hh hF hW hr8 hk hn (by rw [wx_g hfl]; exact h)
theorem vg_throwW {X : XT} (hfl : X.2.2.2 = false) {is ic : Nat} {cls text : String} (hT : TH (mNm Y).cls i is ic cls text)
    (d0 : decode (mBy Y) pc = .ok (.new i, 3)) (d3 : decode (mBy Y) (pc + 3) = .ok (.dup, 1)) (d4 : decode (mBy Y) (pc + 4) = .ok (.ldc_w is, 3)) (d6 : decode (mBy Y) (pc + 7) = .ok (.invokespecial ic, 3)) (d9 : decode (mBy Y) (pc + 10) = .ok (.athrow, 1))
    (hh : mHh Y = []) (hF : 7 ≤ mFr Y) (hW : 110 ≤ mWd Y) (hr8 : (rest.map fun v => v.category).sum ≤ 8) (hk : k + 1 ≤ mc) (hn : n + 6 ≤ ms) (h : K (.inr cls) (WX X S)) : Go E Y mc ms pc ls rest (WX X S) k n K :=
  g_throwW hT d0 d3 d4 d6 d9 hh hF hW hr8 hk hn (by rw [wx_g hfl]; exact h)
end VThrow
