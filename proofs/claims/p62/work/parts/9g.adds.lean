/-! load: statements that add an item -/
section Adds
variable {B : Int → Int} {L p s n v z lo hi : Int} {S S' S0 T T' T0 : St} {V V' W : Vw} {a : Int}
theorem bnO_as {x : Option (Bool × St)} {f k : Bool × St → Option (Bool × St)} : bnO (bnO x f) k = bnO x (fun q => bnO (f q) k) := by cases x <;> rfl
def rSz (S : St) : Option (Bool × St) := bnO (fn_Reader_readNumber 61 0 1 4 S) fun p1 => if p1.1 = true then (bnO (fn_FP_isSize (g p1.2 (tgt 61 2) 0) p1.2) fun p3 => if p3 = true then (some (true, p1.2)) else (bnO (fn_Reader_fail 61 2 p1.2) fun p5 => if p5.1 = true then (some (true, p5.2)) else (some (false, p5.2)))) else (some (false, p1.2))
theorem rSz_eq {K : Bool × St → Option (Bool × St)} (k0 : ∀ S', K (false, S') = some (false, S')) : (bnO (fn_Reader_readNumber 61 0 1 4 S) fun p1 => if p1.1 = true then (bnO (fn_Reader_firstIsSize 61 p1.2) K) else (some (false, p1.2))) = bnO (rSz S) K := by
  unfold rSz
  rw [bnO_as]
  refine congrArg (bnO _) (funext (fun p1 => ?_))
  by_cases c : p1.1 = true
  · rw [if_pos c, if_pos c]; rfl
  · rw [if_neg c, if_neg c, bnO_s, k0]
end Adds

