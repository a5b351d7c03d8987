/-! MOVING WORLDS: the simple instructions over whole numbers -/
section WX2
variable {sc : SC} {Y : MI} {mc ms pc k n i : Nat} {ls : List (Nat × Value)} {st : List Value} {ww : List PC} {K : Option Value → List PC → Prop}
theorem wsk {st' : List Value} (e : st' = st) (h : GX sc Y mc ms pc ls st' ww k n K) : GX sc Y mc ms pc ls st ww k n K := e ▸ h
theorem wtop {x e : Int} (h0 : x = wr e) (h : GX sc Y mc ms pc ls (V x :: st) ww k n K) : GX sc Y mc ms pc ls (V e :: st) ww k n K := wsk (by rw [Vn h0]) h
theorem wx_iadd {a b : Int} (hd : decode (mBy Y) pc = .ok (.iadd, 1)) (h : GX sc Y mc ms (pc + 1) ls (V (a + b) :: st) ww k n K) : GX sc Y mc ms (pc) ls (V b :: V a :: st) ww k n K := by
  refine x_iadd hd ?_
  rw [← Int32.ofInt_add]
  exact h
theorem wx_isub {a b : Int} (hd : decode (mBy Y) pc = .ok (.isub, 1)) (h : GX sc Y mc ms (pc + 1) ls (V (a - b) :: st) ww k n K) : GX sc Y mc ms (pc) ls (V b :: V a :: st) ww k n K := by
  refine x_isub hd ?_
  rw [← Int32.ofInt_sub]
  exact h
theorem wx_imul {a b : Int} (hd : decode (mBy Y) pc = .ok (.imul, 1)) (h : GX sc Y mc ms (pc + 1) ls (V (a * b) :: st) ww k n K) : GX sc Y mc ms (pc) ls (V b :: V a :: st) ww k n K := by
  refine x_imul hd ?_
  rw [← Int32.ofInt_mul]
  exact h
theorem wx_iand {a b : Int} (hd : decode (mBy Y) pc = .ok (.iand, 1)) (h : GX sc Y mc ms (pc + 1) ls (V (i_and a b) :: st) ww k n K) : GX sc Y mc ms (pc) ls (V b :: V a :: st) ww k n K := by
  refine x_iand hd ?_
  unfold i_and at h; rw [Vt] at h
  exact h
theorem wx_ior {a b : Int} (hd : decode (mBy Y) pc = .ok (.ior, 1)) (h : GX sc Y mc ms (pc + 1) ls (V (i_or a b) :: st) ww k n K) : GX sc Y mc ms (pc) ls (V b :: V a :: st) ww k n K := by
  refine x_ior hd ?_
  unfold i_or at h; rw [Vt] at h
  exact h
theorem wx_ishl {a b : Int} (hd : decode (mBy Y) pc = .ok (.ishl, 1)) (h : GX sc Y mc ms (pc + 1) ls (V (i_shl a b) :: st) ww k n K) : GX sc Y mc ms (pc) ls (V b :: V a :: st) ww k n K := by
  refine x_ishl hd ?_
  unfold i_shl at h; rw [Vt] at h
  exact h
theorem wx_ishr {a b : Int} (hd : decode (mBy Y) pc = .ok (.ishr, 1)) (h : GX sc Y mc ms (pc + 1) ls (V (i_shr a b) :: st) ww k n K) : GX sc Y mc ms (pc) ls (V b :: V a :: st) ww k n K := by
  refine x_ishr hd ?_
  unfold i_shr at h; rw [Vt] at h
  exact h
theorem wx_iushr {a b : Int} (hd : decode (mBy Y) pc = .ok (.iushr, 1)) (h : GX sc Y mc ms (pc + 1) ls (V (i_ushr a b) :: st) ww k n K) : GX sc Y mc ms (pc) ls (V b :: V a :: st) ww k n K := by
  refine x_iushr hd rfl ?_
  unfold i_ushr at h
  rw [Vt] at h
  exact h
theorem wx_ineg {a : Int} (hd : decode (mBy Y) pc = .ok (.ineg, 1)) (h : GX sc Y mc ms (pc + 1) ls (V (-a) :: st) ww k n K) : GX sc Y mc ms (pc) ls (V a :: st) ww k n K := by
  refine x_ineg hd ?_
  rw [← Int32.ofInt_neg]
  exact h
theorem wx_idiv {a b : Int} (hd : decode (mBy Y) pc = .ok (.idiv, 1)) (ha : inR a) (hb : inR b) (h0 : 0 < b) (h : GX sc Y mc ms (pc + 1) ls (V (a.tdiv b) :: st) ww k n K) : GX sc Y mc ms (pc) ls (V b :: V a :: st) ww k n K := by
  refine x_idiv hd (I_ne0 hb h0) ?_
  rw [I_div ha hb h0]
  exact h
theorem wx_irem {a b : Int} (hd : decode (mBy Y) pc = .ok (.irem, 1)) (ha : inR a) (hb : inR b) (h0 : 0 < b) (h : GX sc Y mc ms (pc + 1) ls (V (a.tmod b) :: st) ww k n K) : GX sc Y mc ms (pc) ls (V b :: V a :: st) ww k n K := by
  refine x_irem hd (I_ne0 hb h0) ?_
  rw [I_rem ha hb h0]
  exact h
theorem wx_i2b {a : Int} (hd : decode (mBy Y) pc = .ok (.i2b, 1)) (h : GX sc Y mc ms (pc + 1) ls (V (i_b a) :: st) ww k n K) : GX sc Y mc ms (pc) ls (V a :: st) ww k n K := by
  refine x_i2b hd rfl ?_
  unfold i_b at h
  rw [Vt] at h
  exact h
theorem wx_i2d {a : Int} (hd : decode (mBy Y) pc = .ok (.i2d, 1)) (h : GX sc Y mc ms (pc + 1) ls (.double (i_d a) :: st) ww k n K) : GX sc Y mc ms (pc) ls (V a :: st) ww k n K := x_i2d hd h
theorem wx_bipush {z : Int} (hd : decode (mBy Y) pc = .ok (.bipush z, 2)) (hz : (Int8.ofInt z).toInt32 = Int32.ofInt z) (h : GX sc Y mc ms (pc + 2) ls (V z :: st) ww k n K) : GX sc Y mc ms (pc) ls (st) ww k n K := x_bipush hd hz h
theorem wx_sipush {z : Int} (hd : decode (mBy Y) pc = .ok (.sipush z, 3)) (hz : (Int16.ofInt z).toInt32 = Int32.ofInt z) (h : GX sc Y mc ms (pc + 3) ls (V z :: st) ww k n K) : GX sc Y mc ms (pc) ls (st) ww k n K := x_sipush hd hz h
theorem wx_iconst {z : Int} (hd : decode (mBy Y) pc = .ok (.iconst z, 1)) (h : GX sc Y mc ms (pc + 1) ls (V z :: st) ww k n K) : GX sc Y mc ms (pc) ls (st) ww k n K := x_iconst hd rfl h
theorem wx_icmp_eq {a b : Int} {off : Int} {t : Nat} (hd : decode (mBy Y) pc = .ok (.if_icmp .eq off, 3)) (ht : (pc : Int) + off = (t : Int)) (ha : inR a) (hb : inR b) (h1 : a = b → GX sc Y mc ms (t) ls (st) ww k n K) (h2 : ¬ (a = b) → GX sc Y mc ms (pc + 3) ls (st) ww k n K) : GX sc Y mc ms (pc) ls (V b :: V a :: st) ww k n K := x_icmp_eq hd ht (fun hc => h1 ((I_eq ha hb).mp hc)) (fun hc => h2 (fun q => hc ((I_eq ha hb).mpr q)))
theorem wx_if_eq {a : Int} {off : Int} {t : Nat} (hd : decode (mBy Y) pc = .ok (.ifCond .eq off, 3)) (ht : (pc : Int) + off = (t : Int)) (ha : inR a) (h1 : a = 0 → GX sc Y mc ms (t) ls (st) ww k n K) (h2 : ¬ (a = 0) → GX sc Y mc ms (pc + 3) ls (st) ww k n K) : GX sc Y mc ms (pc) ls (V a :: st) ww k n K := have hb := inR0; x_if_eq hd ht (fun hc => h1 ((I_eq ha hb).mp hc)) (fun hc => h2 (fun q => hc ((I_eq ha hb).mpr q)))
theorem wx_icmp_ne {a b : Int} {off : Int} {t : Nat} (hd : decode (mBy Y) pc = .ok (.if_icmp .ne off, 3)) (ht : (pc : Int) + off = (t : Int)) (ha : inR a) (hb : inR b) (h1 : ¬ a = b → GX sc Y mc ms (t) ls (st) ww k n K) (h2 : a = b → GX sc Y mc ms (pc + 3) ls (st) ww k n K) : GX sc Y mc ms (pc) ls (V b :: V a :: st) ww k n K := x_icmp_ne hd ht (fun hc => h1 ((not_congr (I_eq ha hb)).mp hc)) (fun hc => h2 ((I_eq ha hb).mp hc))
theorem wx_if_ne {a : Int} {off : Int} {t : Nat} (hd : decode (mBy Y) pc = .ok (.ifCond .ne off, 3)) (ht : (pc : Int) + off = (t : Int)) (ha : inR a) (h1 : ¬ a = 0 → GX sc Y mc ms (t) ls (st) ww k n K) (h2 : a = 0 → GX sc Y mc ms (pc + 3) ls (st) ww k n K) : GX sc Y mc ms (pc) ls (V a :: st) ww k n K := have hb := inR0; x_if_ne hd ht (fun hc => h1 ((not_congr (I_eq ha hb)).mp hc)) (fun hc => h2 ((I_eq ha hb).mp hc))
theorem wx_icmp_lt {a b : Int} {off : Int} {t : Nat} (hd : decode (mBy Y) pc = .ok (.if_icmp .lt off, 3)) (ht : (pc : Int) + off = (t : Int)) (ha : inR a) (hb : inR b) (h1 : a < b → GX sc Y mc ms (t) ls (st) ww k n K) (h2 : ¬ (a < b) → GX sc Y mc ms (pc + 3) ls (st) ww k n K) : GX sc Y mc ms (pc) ls (V b :: V a :: st) ww k n K := x_icmp_lt hd ht (fun hc => h1 ((I_lt ha hb).mp hc)) (fun hc => h2 (fun q => hc ((I_lt ha hb).mpr q)))
theorem wx_if_lt {a : Int} {off : Int} {t : Nat} (hd : decode (mBy Y) pc = .ok (.ifCond .lt off, 3)) (ht : (pc : Int) + off = (t : Int)) (ha : inR a) (h1 : a < 0 → GX sc Y mc ms (t) ls (st) ww k n K) (h2 : ¬ (a < 0) → GX sc Y mc ms (pc + 3) ls (st) ww k n K) : GX sc Y mc ms (pc) ls (V a :: st) ww k n K := have hb := inR0; x_if_lt hd ht (fun hc => h1 ((I_lt ha hb).mp hc)) (fun hc => h2 (fun q => hc ((I_lt ha hb).mpr q)))
theorem wx_icmp_ge {a b : Int} {off : Int} {t : Nat} (hd : decode (mBy Y) pc = .ok (.if_icmp .ge off, 3)) (ht : (pc : Int) + off = (t : Int)) (ha : inR a) (hb : inR b) (h1 : b ≤ a → GX sc Y mc ms (t) ls (st) ww k n K) (h2 : ¬ (b ≤ a) → GX sc Y mc ms (pc + 3) ls (st) ww k n K) : GX sc Y mc ms (pc) ls (V b :: V a :: st) ww k n K := x_icmp_ge hd ht (fun hc => h1 ((I_le hb ha).mp hc)) (fun hc => h2 (fun q => hc ((I_le hb ha).mpr q)))
theorem wx_if_ge {a : Int} {off : Int} {t : Nat} (hd : decode (mBy Y) pc = .ok (.ifCond .ge off, 3)) (ht : (pc : Int) + off = (t : Int)) (ha : inR a) (h1 : 0 ≤ a → GX sc Y mc ms (t) ls (st) ww k n K) (h2 : ¬ (0 ≤ a) → GX sc Y mc ms (pc + 3) ls (st) ww k n K) : GX sc Y mc ms (pc) ls (V a :: st) ww k n K := have hb := inR0; x_if_ge hd ht (fun hc => h1 ((I_le hb ha).mp hc)) (fun hc => h2 (fun q => hc ((I_le hb ha).mpr q)))
theorem wx_icmp_gt {a b : Int} {off : Int} {t : Nat} (hd : decode (mBy Y) pc = .ok (.if_icmp .gt off, 3)) (ht : (pc : Int) + off = (t : Int)) (ha : inR a) (hb : inR b) (h1 : b < a → GX sc Y mc ms (t) ls (st) ww k n K) (h2 : ¬ (b < a) → GX sc Y mc ms (pc + 3) ls (st) ww k n K) : GX sc Y mc ms (pc) ls (V b :: V a :: st) ww k n K := x_icmp_gt hd ht (fun hc => h1 ((I_lt hb ha).mp hc)) (fun hc => h2 (fun q => hc ((I_lt hb ha).mpr q)))
theorem wx_if_gt {a : Int} {off : Int} {t : Nat} (hd : decode (mBy Y) pc = .ok (.ifCond .gt off, 3)) (ht : (pc : Int) + off = (t : Int)) (ha : inR a) (h1 : 0 < a → GX sc Y mc ms (t) ls (st) ww k n K) (h2 : ¬ (0 < a) → GX sc Y mc ms (pc + 3) ls (st) ww k n K) : GX sc Y mc ms (pc) ls (V a :: st) ww k n K := have hb := inR0; x_if_gt hd ht (fun hc => h1 ((I_lt hb ha).mp hc)) (fun hc => h2 (fun q => hc ((I_lt hb ha).mpr q)))
theorem wx_icmp_le {a b : Int} {off : Int} {t : Nat} (hd : decode (mBy Y) pc = .ok (.if_icmp .le off, 3)) (ht : (pc : Int) + off = (t : Int)) (ha : inR a) (hb : inR b) (h1 : a ≤ b → GX sc Y mc ms (t) ls (st) ww k n K) (h2 : ¬ (a ≤ b) → GX sc Y mc ms (pc + 3) ls (st) ww k n K) : GX sc Y mc ms (pc) ls (V b :: V a :: st) ww k n K := x_icmp_le hd ht (fun hc => h1 ((I_le ha hb).mp hc)) (fun hc => h2 (fun q => hc ((I_le ha hb).mpr q)))
theorem wx_if_le {a : Int} {off : Int} {t : Nat} (hd : decode (mBy Y) pc = .ok (.ifCond .le off, 3)) (ht : (pc : Int) + off = (t : Int)) (ha : inR a) (h1 : a ≤ 0 → GX sc Y mc ms (t) ls (st) ww k n K) (h2 : ¬ (a ≤ 0) → GX sc Y mc ms (pc + 3) ls (st) ww k n K) : GX sc Y mc ms (pc) ls (V a :: st) ww k n K := have hb := inR0; x_if_le hd ht (fun hc => h1 ((I_le ha hb).mp hc)) (fun hc => h2 (fun q => hc ((I_le ha hb).mpr q)))
theorem wx_ifB_eq {b : Bool} {off : Int} {t : Nat} (hd : decode (mBy Y) pc = .ok (.ifCond .eq off, 3)) (ht : (pc : Int) + off = (t : Int)) (h1 : b = true → GX sc Y mc ms (pc + 3) ls (st) ww k n K) (h2 : ¬ b = true → GX sc Y mc ms (t) ls (st) ww k n K) : GX sc Y mc ms (pc) ls (V (bi b) :: st) ww k n K := wx_if_eq hd ht (bi_in b) (fun hc => h2 (by cases b; exact Bool.false_ne_true; cases hc)) (fun hc => h1 (by cases b; exact absurd rfl hc; rfl))
theorem wx_ifB_ne {b : Bool} {off : Int} {t : Nat} (hd : decode (mBy Y) pc = .ok (.ifCond .ne off, 3)) (ht : (pc : Int) + off = (t : Int)) (h1 : b = true → GX sc Y mc ms (t) ls (st) ww k n K) (h2 : ¬ b = true → GX sc Y mc ms (pc + 3) ls (st) ww k n K) : GX sc Y mc ms (pc) ls (V (bi b) :: st) ww k n K := wx_if_ne hd ht (bi_in b) (fun hc => h1 (by cases b; exact absurd rfl hc; rfl)) (fun hc => h2 (by cases b; exact Bool.false_ne_true; cases hc))
theorem wx_iinc {j : Nat} {z a x : Int} {ls2 : List (Nat × Value)} (hd : decode (mBy Y) pc = .ok (.iinc i z, 3)) (hl0 : ls[j]? = some (i, V a)) (e : x = wr (a + z)) (hn : i < mLo Y) (he : stI i (V x) ls = ls2) (h : GX sc Y mc ms (pc + 3) ls2 st ww k n K) : GX sc Y mc ms pc ls st ww k n K :=
  x_iinc hd hl0 (v := Int32.ofInt x) (by rw [e]; unfold wr; rw [Int32.ofInt_toInt, Int32.ofInt_add]) hn he h
theorem wx_ldc {v : Int32} {y : Int} (hd : decode (mBy Y) pc = .ok (.ldc i, 2)) (hc : Cond.constant (mNm Y).cls i v ∈ gtbl) (hy : v = Int32.ofInt y) (h : GX sc Y mc ms (pc + 2) ls (V y :: st) ww k n K) : GX sc Y mc ms pc ls st ww k n K := x_ldc hd hc (hy ▸ h)
theorem wx_ldcw {v : Int32} {y : Int} (hd : decode (mBy Y) pc = .ok (.ldc_w i, 3)) (hc : Cond.constant (mNm Y).cls i v ∈ gtbl) (hy : v = Int32.ofInt y) (h : GX sc Y mc ms (pc + 3) ls (V y :: st) ww k n K) : GX sc Y mc ms pc ls st ww k n K := x_ldcw hd hc (hy ▸ h)
end WX2
