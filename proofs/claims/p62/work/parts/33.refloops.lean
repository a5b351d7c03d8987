section RefLoops
variable {S : St} {W : Vw}
def laA (W : Vw) (a : Int) : Bool := decide (tm W < at_ W 5 a)
def laS (W : Vw) (s : Int) : Bool := decide (tm W < at_ W 10 s)
def onF (W : Vw) (a f : Int) : Bool := decide (0 < at_ W 6 a ∧ fOf W (at_ W 6 a) = f)
def hasPg (W : Vw) (s f : Int) : Bool := anyP W (fun p => cov W s p && decide (fOf W p = f))
def stPr (W : Vw) (s : Int) : Bool := anyP W (fun p => cov W s p && prP W p)
def stOp (W : Vw) (s : Int) : Bool := anyP W (fun p => cov W s p && !prP W p)
def lf (W : Vw) (p : Int) : Int := lefO W p (-1) (-1)
def lefF (W : Vw) (f : Int) : Int := wr (sumP W (fun p => if fOf W p = f then lf W p else 0))
def adsF (W : Vw) (f : Int) : Int := wr (sumA W (fun a => if onF W a f = true then 1 else 0))
def latF (W : Vw) (f : Int) : Int := wr (sumA W (fun a => if onF W a f = true then (if laA W a = true then 1 else 0) else 0) + sumS W (fun s => if laS W s = true then (if hasPg W s f = true then 1 else 0) else 0))
def hasC (W : Vw) (f : Int) : Bool := anyA W (fun a => onF W a f && decide (at_ W 2 a = 1)) || anyS W (fun s => decide (at_ W 8 s = 1) && hasPg W s f)
def adsO (W : Vw) (p : Int) : Int := wr (sumA W (fun a => if at_ W 6 a = p then 1 else 0))
def stbO (W : Vw) (p : Int) : Int := wr (sumB W (fun b => if at_ W 13 b = p then 1 else 0))
def grp (W : Vw) (g s : Int) : Int := wr (sumA W (fun a => if at_ W 1 a = g then (if at_ W 6 a ≤ 0 then 0 else if at_ W 6 a / 2 = s then 1 else 0) else 0))
def revB (W : Vw) (g : Int) : Int := wr (sumA W (fun a => if at_ W 6 a ≤ 0 then 0 else if g = -1 then at_ W 4 a else if at_ W 1 a = g then at_ W 4 a else 0))
end RefLoops

