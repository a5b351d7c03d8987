/-! WHAT IS ASKED FOR, over a view -/
def frm (W : Vw) : Int := 2 * sg W
def fOf (W : Vw) (p : Int) : Int := 2 * ((p - 1) / pe W) + (if (p - 1) % pe W % 4 = 0 ∨ (p - 1) % pe W % 4 = 3 then 0 else 1)
def prP (W : Vw) (p : Int) : Bool := decide (at_ W 15 (fOf W p) = 1)
def coP (W : Vw) (p : Int) : Bool := decide (at_ W 14 (fOf W p) = 1)
def cov (W : Vw) (s p : Int) : Bool := decide (0 < at_ W 11 s ∧ at_ W 11 s ≤ p ∧ p < at_ W 11 s + at_ W 7 s)
def stOn (W : Vw) (p but : Int) : Int := fstR (fun s => decide (s ≠ but) && cov W s p) 0 (nS W).toNat
def sumA (W : Vw) (w : Int → Int) : Int := sumR w 0 (nA W).toNat
def sumB (W : Vw) (w : Int → Int) : Int := sumR w 0 (nB W).toNat
def sumS (W : Vw) (w : Int → Int) : Int := sumR w 0 (nS W).toNat
def sumP (W : Vw) (w : Int → Int) : Int := sumR w 1 (pgs W).toNat
def anyA (W : Vw) (w : Int → Bool) : Bool := anyR w 0 (nA W).toNat
def anyS (W : Vw) (w : Int → Bool) : Bool := anyR w 0 (nS W).toNat
def anyP (W : Vw) (w : Int → Bool) : Bool := anyR w 1 (pgs W).toNat
def szA (W : Vw) (p but a : Int) : Int := if a ≠ but ∧ at_ W 6 a = p then at_ W 0 a else 0
def szB (W : Vw) (p but b : Int) : Int := if b ≠ but ∧ at_ W 13 b = p then at_ W 12 b else 0
def room (W : Vw) (p bA bB : Int) : Int := wr (4 + sumA W (fun a => -szA W p bA a) + sumB W (fun b => -szB W p bB b))
def lefO (W : Vw) (p bA bB : Int) : Int := if stOn W p (-1) = -1 then room W p bA bB else 0
def onSd (p side : Int) : Bool := decide (side = 0 ∨ p % 2 = if side = 2 then 1 else 0)
def rivl (W : Vw) (a sp : Int) : Bool := anyA W (fun o => decide (o ≠ a ∧ 0 < at_ W 6 o ∧ at_ W 6 o / 2 = sp ∧ at_ W 1 o = at_ W 1 a)) && decide (at_ W 1 a ≠ 0)
def isP (W : Vw) (p : Int) : Bool := decide (1 ≤ p ∧ p ≤ pgs W)
def reas (W : Vw) (a p : Int) : Int :=
  if isP W p = true then (if prP W p = true then 2 else if lefO W p a (-1) < at_ W 0 a then 3 else if at_ W 2 a = 1 ∧ coP W p = false then 4 else if onSd p (at_ W 3 a) = true then (if rivl W a (p / 2) = true then 6 else 0) else 5) else 1
section RefBasics
variable {S : St} {W : Vw}
/-! pages and forms -/
theorem fOf_b (hV : Val W) {p : Int} (h1 : 1 ≤ p) (h2 : p ≤ pgs W) : 0 ≤ fOf W p ∧ fOf W p < frm W := by
  obtain ⟨-, -, -, h3, h4, -⟩ := hV.1
  have e : pgs W = sg W * pe W := rfl
  have e2 : frm W = 2 * sg W := rfl
  have hp : 0 < pe W := by omega
  have q1 : 0 ≤ (p - 1) / pe W := Int.ediv_nonneg (by omega) (by omega)
  have q2 : (p - 1) / pe W < sg W := Int.ediv_lt_of_lt_mul hp (by omega)
  unfold fOf
  split <;> omega
end RefBasics

