
section LawRules
variable {E : EV} {Y : MI} {X : XT} {mc ms pc k n : Nat} {ls : List (Nat × Value)} {st : List Value} {S : St} {K : RK → PS → Prop} {sx : Nat → Int} {sn : Nat}
def ScrE (E : EV) (sx : Nat → Int) (sn : Nat) : Prop := sn = eSl E ∧ Nat.ble sn 99999 = true ∧ ∀ j, sx j = (eSx E j).toInt
theorem ScrE.in (h : ScrE E sx sn) : inR (sn : Int) := inR_nat h.2.1
theorem ScrE.at (h : ScrE E sx sn) (j : Nat) : inR (sx j) := by rw [h.2.2 j]; exact toInt_in _
theorem vg_slen (hd : decode (mBy Y) pc = .ok (.arraylength, 1)) (hs : ScrE E sx sn) (h : Go E Y mc ms (pc + 1) ls (V (sn : Int) :: st) (WX X S) k n K) : Go E Y mc ms pc ls (.ref (XB + 200) :: st) (WX X S) k n K := by
  refine g_slen hd ?_
  have e : (nI (eSl E) : Int32) = Int32.ofInt (sn : Int) := by rw [hs.1]; exact (Int32.ofInt_eq_ofNat).symm
  rw [e]; exact h
theorem vg_sld {i : Int} (hd : decode (mBy Y) pc = .ok (.iaload, 1)) (hs : ScrE E sx sn) (hi : 0 ≤ i ∧ i < (sn : Int)) (h : Go E Y mc ms (pc + 1) ls (V (sx i.toNat) :: st) (WX X S) k n K) : Go E Y mc ms pc ls (V i :: .ref (XB + 200) :: st) (WX X S) k n K := by
  have hN := Nat.le_of_ble_eq_true hs.2.1
  have e := ix_in hi (by omega)
  refine g_sld hd (by rw [e]; exact hi.1) (by rw [e, ← hs.1]; omega) ?_
  rw [e, ← Vt, ← hs.2.2]
  exact h
def i_dc (x y : UInt64) : Int := (Op.cmpValue (FP.dcmp x y) .l).toInt
theorem vg_dcmpl {x y : UInt64} (hd : decode (mBy Y) pc = .ok (.dcmp .l, 1)) (h : Go E Y mc ms (pc + 1) ls (V (i_dc x y) :: st) (WX X S) k n K) : Go E Y mc ms pc ls (.double y :: .double x :: st) (WX X S) k n K := by
  refine g_dcmp hd ?_
  unfold i_dc at h
  rw [Vt] at h
  exact h
theorem lp_indN {α β : Type} {body : (α → Option β) → α → Option β} {q : β} {P : Nat → α → Prop} (hs : ∀ n, ∀ rec : α → Option β, (∀ a, rec a = some q → P n a) → ∀ a, body rec a = some q → P (n + 1) a) : ∀ n a, lp body n a = some q → P n a
  | 0, _, h => nomatch h
  | n + 1, a, h => hs n (lp body n) (fun a h => lp_indN hs n a h) a h
end LawRules
def jf_Law_law_3073 (sx : Nat → Int) (sn : Nat) (c1 : Nat) (c2 : Nat) (c3 : Nat) (c4 : Nat) (go : Int × St → Option ((Bool × St) ⊕ (St))) (a5 : Int) (S : St) : Option ((Bool × St) ⊕ (St)) := nm (wr (a5 + 6)) fun v11 => go (v11, S)
theorem tj_Law_law_3073 {E : EV} {X : XT} (hfl : X.2.2.2 = false) {sx : Nat → Int} {sn : Nat} (hsn : ScrE E sx sn) {c1 : Nat} (hc1 : HC X 10 c1) {c2 : Nat} (hc2 : HC X 11 c2) {c3 : Nat} (hc3 : HA X 3 1 c3) {c4 : Nat} (hc4 : HA X 4 1 c4) {mc ms : Nat} {K : RK → PS → Prop} {q : (Bool × St) ⊕ (St)} (hx : ∀ p, q = .inr p → ∀ kk nn, kk ≤ mc → nn ≤ ms → Go E M_Law_law mc ms 3079 [] [] (WX X p) kk nn K) (hr : ∀ p, q = .inl p → K (.inl (some (V (bi p.1)))) (WX X p.2)) {fu : Nat} {go : Int × St → Option ((Bool × St) ⊕ (St))} (ih : ∀ a, go a = some q → inR a.1 → ∀ kk nn, kk + 2 * fu ≤ mc → nn + 12 * fu ≤ ms → Go E M_Law_law mc ms 28 [(0, .ref (XB + 200)), (1, .ref c1), (2, .ref c2), (3, .ref c3), (4, .ref c4), (5, V a.1)] [] (WX X a.2) kk nn K) {a5 : Int} (ha5 : inR a5) {S : St} {kk nn : Nat} (hkk : kk + 0 + 2 * fu ≤ mc) (hnn : nn + 0 + 12 * fu ≤ ms) (h : jf_Law_law_3073 sx sn c1 c2 c3 c4 go a5 S = some q) : Go E M_Law_law mc ms 3073 [(0, .ref (XB + 200)), (1, .ref c1), (2, .ref c2), (3, .ref c3), (4, .ref c4), (5, V a5)] [] (WX X S) kk nn K := by
  unfold jf_Law_law_3073 at h
  refine nmE h (fun v11 e_v11 h => ?_)
  refine vg_iinc (pc := 3073) (j := 5) (a := a5) (z := 6) (ls2 := [(5, V v11), (0, .ref (XB + 200)), (1, .ref c1), (2, .ref c2), (3, .ref c3), (4, .ref c4)]) (dK D_Law_law_36 4 rfl) rfl e_v11 (ltK rfl) rfl ?_
  refine g_goto (pc := 3076) (tgt := 28) (dK D_Law_law_36 5 rfl) rfl ?_
  refine gL_weak (ls' := [(0, .ref (XB + 200)), (1, .ref c1), (2, .ref c2), (3, .ref c3), (4, .ref c4), (5, V v11)]) (sbc 1 rfl (sbc 2 rfl (sbc 3 rfl (sbc 4 rfl (sbc 5 rfl (sbc 0 rfl sbn)))))) ?_
  exact ih _ h (Vn_in e_v11) _ _ (by omega) (by omega)
def jf_Law_law_296 (sx : Nat → Int) (sn : Nat) (c1 : Nat) (c2 : Nat) (c3 : Nat) (c4 : Nat) (go : Int × St → Option ((Bool × St) ⊕ (St))) (a5 : Int) (S : St) : Option ((Bool × St) ⊕ (St)) := if 0 ≤ (a5 + 1) ∧ (a5 + 1) < (sn : Int) then (if 0 ≤ (a5 + 2) ∧ (a5 + 2) < (sn : Int) then (if 0 ≤ (a5 + 3) ∧ (a5 + 3) < (sn : Int) then (if 0 ≤ (a5 + 4) ∧ (a5 + 4) < (sn : Int) then (if 0 ≤ (a5 + 5) ∧ (a5 + 5) < (sn : Int) then (bnO (fn_FP_appendInput c1 (sx (((a5 + 1)).toNat)) (sx (((a5 + 2)).toNat)) (sx (((a5 + 3)).toNat)) (sx (((a5 + 4)).toNat)) (sx (((a5 + 5)).toNat)) S) fun p9 => bnO (fn_Mo_appendInput c2 (sx (((a5 + 1)).toNat)) (sx (((a5 + 2)).toNat)) (sx (((a5 + 3)).toNat)) (sx (((a5 + 4)).toNat)) (sx (((a5 + 5)).toNat)) p9.2) fun p10 => if p9.1 = p10.1 then (jf_Law_law_3073 sx sn c1 c2 c3 c4 go a5 p10.2) else (some (.inl (false, p10.2)))) else none) else none) else none) else none) else none
theorem tj_Law_law_296 {E : EV} {X : XT} (hfl : X.2.2.2 = false) {sx : Nat → Int} {sn : Nat} (hsn : ScrE E sx sn) {c1 : Nat} (hc1 : HC X 10 c1) {c2 : Nat} (hc2 : HC X 11 c2) {c3 : Nat} (hc3 : HA X 3 1 c3) {c4 : Nat} (hc4 : HA X 4 1 c4) {mc ms : Nat} {K : RK → PS → Prop} {q : (Bool × St) ⊕ (St)} (hx : ∀ p, q = .inr p → ∀ kk nn, kk ≤ mc → nn ≤ ms → Go E M_Law_law mc ms 3079 [] [] (WX X p) kk nn K) (hr : ∀ p, q = .inl p → K (.inl (some (V (bi p.1)))) (WX X p.2)) {fu : Nat} {go : Int × St → Option ((Bool × St) ⊕ (St))} (ih : ∀ a, go a = some q → inR a.1 → ∀ kk nn, kk + 2 * fu ≤ mc → nn + 12 * fu ≤ ms → Go E M_Law_law mc ms 28 [(0, .ref (XB + 200)), (1, .ref c1), (2, .ref c2), (3, .ref c3), (4, .ref c4), (5, V a.1)] [] (WX X a.2) kk nn K) {a5 : Int} (ha5 : inR a5) {S : St} {kk nn : Nat} (hkk : kk + 0 + 2 * fu ≤ mc) (hnn : nn + 0 + 12 * fu ≤ ms) (h : jf_Law_law_296 sx sn c1 c2 c3 c4 go a5 S = some q) : Go E M_Law_law mc ms 296 [(0, .ref (XB + 200)), (1, .ref c1), (2, .ref c2), (3, .ref c3), (4, .ref c4), (5, V a5)] [] (WX X S) kk nn K := by
  unfold jf_Law_law_296 at h
  refine g_aloadn (pc := 296) (i0 := 1) (j := 1) (dK D_Law_law_0 28 rfl) rfl rfl ?_
  refine g_aloadn (pc := 297) (i0 := 0) (j := 0) (dK D_Law_law_0 29 rfl) rfl rfl ?_
  refine g_iload (pc := 298) (j := 5) (dK D_Law_law_0 30 rfl) rfl ?_
  refine vg_iconst (pc := 300) (dK D_Law_law_0 31 rfl) ?_
  refine vg_iadd (pc := 301) (dK D_Law_law_0 32 rfl) ?_
  refine gdE h (fun hi4 h => ?_)
  refine vg_sld (pc := 302) (dK D_Law_law_0 33 rfl) hsn hi4 ?_
  refine g_aloadn (pc := 303) (i0 := 0) (j := 0) (dK D_Law_law_0 34 rfl) rfl rfl ?_
  refine g_iload (pc := 304) (j := 5) (dK D_Law_law_0 35 rfl) rfl ?_
  refine vg_iconst (pc := 306) (dK D_Law_law_0 36 rfl) ?_
  refine vg_iadd (pc := 307) (dK D_Law_law_0 37 rfl) ?_
  refine gdE h (fun hi5 h => ?_)
  refine vg_sld (pc := 308) (dK D_Law_law_0 38 rfl) hsn hi5 ?_
  refine g_aloadn (pc := 309) (i0 := 0) (j := 0) (dK D_Law_law_0 39 rfl) rfl rfl ?_
  refine g_iload (pc := 310) (j := 5) (dK D_Law_law_0 40 rfl) rfl ?_
  refine vg_iconst (pc := 312) (dK D_Law_law_0 41 rfl) ?_
  refine vg_iadd (pc := 313) (dK D_Law_law_0 42 rfl) ?_
  refine gdE h (fun hi6 h => ?_)
  refine vg_sld (pc := 314) (dK D_Law_law_0 43 rfl) hsn hi6 ?_
  refine g_aloadn (pc := 315) (i0 := 0) (j := 0) (dK D_Law_law_0 44 rfl) rfl rfl ?_
  refine g_iload (pc := 316) (j := 5) (dK D_Law_law_0 45 rfl) rfl ?_
  refine vg_iconst (pc := 318) (dK D_Law_law_0 46 rfl) ?_
  refine vg_iadd (pc := 319) (dK D_Law_law_0 47 rfl) ?_
  refine gdE h (fun hi7 h => ?_)
  refine vg_sld (pc := 320) (dK D_Law_law_0 48 rfl) hsn hi7 ?_
  refine g_aloadn (pc := 321) (i0 := 0) (j := 0) (dK D_Law_law_0 49 rfl) rfl rfl ?_
  refine g_iload (pc := 322) (j := 5) (dK D_Law_law_1 0 rfl) rfl ?_
  refine vg_iconst (pc := 324) (dK D_Law_law_1 1 rfl) ?_
  refine vg_iadd (pc := 325) (dK D_Law_law_1 2 rfl) ?_
  refine gdE h (fun hi8 h => ?_)
  refine vg_sld (pc := 326) (dK D_Law_law_1 3 rfl) hsn hi8 ?_
  refine bnE h (fun p9 e_p9 h => ?_)
  refine vg_cV (pc := 327) (As := [V (sx (((a5 + 1)).toNat)), V (sx (((a5 + 2)).toNat)), V (sx (((a5 + 3)).toNat)), V (sx (((a5 + 4)).toNat)), V (sx (((a5 + 5)).toNat))]) (rest := []) (mc' := 0) (ms' := 0) (dK D_Law_law_1 4 rfl) K_Law_131 (fitK rfl) (ltK rfl) hc1 rfl (leK rfl) (by omega) (by omega) (tf_FP_appendInput hc1 (hsn.at _) (hsn.at _) (hsn.at _) (hsn.at _) (hsn.at _) e_p9) (kcI (fun h_p9 => ?_))
  refine g_aloadn (pc := 330) (i0 := 2) (j := 2) (dK D_Law_law_1 5 rfl) rfl rfl ?_
  refine g_aloadn (pc := 331) (i0 := 0) (j := 0) (dK D_Law_law_1 6 rfl) rfl rfl ?_
  refine g_iload (pc := 332) (j := 5) (dK D_Law_law_1 7 rfl) rfl ?_
  refine vg_iconst (pc := 334) (dK D_Law_law_1 8 rfl) ?_
  refine vg_iadd (pc := 335) (dK D_Law_law_1 9 rfl) ?_
  refine vg_sld (pc := 336) (dK D_Law_law_1 10 rfl) hsn hi4 ?_
  refine g_aloadn (pc := 337) (i0 := 0) (j := 0) (dK D_Law_law_1 11 rfl) rfl rfl ?_
  refine g_iload (pc := 338) (j := 5) (dK D_Law_law_1 12 rfl) rfl ?_
  refine vg_iconst (pc := 340) (dK D_Law_law_1 13 rfl) ?_
  refine vg_iadd (pc := 341) (dK D_Law_law_1 14 rfl) ?_
  refine vg_sld (pc := 342) (dK D_Law_law_1 15 rfl) hsn hi5 ?_
  refine g_aloadn (pc := 343) (i0 := 0) (j := 0) (dK D_Law_law_1 16 rfl) rfl rfl ?_
  refine g_iload (pc := 344) (j := 5) (dK D_Law_law_1 17 rfl) rfl ?_
  refine vg_iconst (pc := 346) (dK D_Law_law_1 18 rfl) ?_
  refine vg_iadd (pc := 347) (dK D_Law_law_1 19 rfl) ?_
  refine vg_sld (pc := 348) (dK D_Law_law_1 20 rfl) hsn hi6 ?_
  refine g_aloadn (pc := 349) (i0 := 0) (j := 0) (dK D_Law_law_1 21 rfl) rfl rfl ?_
  refine g_iload (pc := 350) (j := 5) (dK D_Law_law_1 22 rfl) rfl ?_
  refine vg_iconst (pc := 352) (dK D_Law_law_1 23 rfl) ?_
  refine vg_iadd (pc := 353) (dK D_Law_law_1 24 rfl) ?_
  refine vg_sld (pc := 354) (dK D_Law_law_1 25 rfl) hsn hi7 ?_
  refine g_aloadn (pc := 355) (i0 := 0) (j := 0) (dK D_Law_law_1 26 rfl) rfl rfl ?_
  refine g_iload (pc := 356) (j := 5) (dK D_Law_law_1 27 rfl) rfl ?_
  refine vg_iconst (pc := 358) (dK D_Law_law_1 28 rfl) ?_
  refine vg_iadd (pc := 359) (dK D_Law_law_1 29 rfl) ?_
  refine vg_sld (pc := 360) (dK D_Law_law_1 30 rfl) hsn hi8 ?_
  refine bnE h (fun p10 e_p10 h => ?_)
  refine vg_cV (pc := 361) (As := [V (sx (((a5 + 1)).toNat)), V (sx (((a5 + 2)).toNat)), V (sx (((a5 + 3)).toNat)), V (sx (((a5 + 4)).toNat)), V (sx (((a5 + 5)).toNat))]) (rest := [V p9.1]) (mc' := 0) (ms' := 0) (dK D_Law_law_1 31 rfl) K_Law_135 (fitK rfl) (ltK rfl) hc2 rfl (leK rfl) (by omega) (by omega) (tf_Mo_appendInput hc2 (hsn.at _) (hsn.at _) (hsn.at _) (hsn.at _) (hsn.at _) e_p10) (kcI (fun h_p10 => ?_))
  refine vg_icmp_eq (pc := 364) (t := 3073) (dK D_Law_law_1 32 rfl) rfl h_p9 h_p10 (fun hc12 => ?_) (fun hc12 => ?_)
  · replace h := ifP h hc12
    exact tj_Law_law_3073 hfl hsn hc1 hc2 hc3 hc4 hx hr ih ha5 (by omega) (by omega) h
  · replace h := ifN h hc12
    refine vg_iconst (pc := 367) (dK D_Law_law_1 33 rfl) ?_
    exact vg_iretB (pc := 368) (b := false) (dK D_Law_law_1 34 rfl) rfl (by omega) (by omega) (xf hfl) (hr _ (Option.some.inj h).symm)
def jf_Law_law_369 (sx : Nat → Int) (sn : Nat) (c1 : Nat) (c2 : Nat) (c3 : Nat) (c4 : Nat) (go : Int × St → Option ((Bool × St) ⊕ (St))) (a5 : Int) (S : St) : Option ((Bool × St) ⊕ (St)) := if 0 ≤ (a5 + 1) ∧ (a5 + 1) < (sn : Int) then (bnO (fn_FP_truncateInput c1 (sx (((a5 + 1)).toNat)) S) fun p15 => bnO (fn_Mo_truncateInput c2 (sx (((a5 + 1)).toNat)) p15.2) fun p16 => if p15.1 = p16.1 then (jf_Law_law_3073 sx sn c1 c2 c3 c4 go a5 p16.2) else (some (.inl (false, p16.2)))) else none
theorem tj_Law_law_369 {E : EV} {X : XT} (hfl : X.2.2.2 = false) {sx : Nat → Int} {sn : Nat} (hsn : ScrE E sx sn) {c1 : Nat} (hc1 : HC X 10 c1) {c2 : Nat} (hc2 : HC X 11 c2) {c3 : Nat} (hc3 : HA X 3 1 c3) {c4 : Nat} (hc4 : HA X 4 1 c4) {mc ms : Nat} {K : RK → PS → Prop} {q : (Bool × St) ⊕ (St)} (hx : ∀ p, q = .inr p → ∀ kk nn, kk ≤ mc → nn ≤ ms → Go E M_Law_law mc ms 3079 [] [] (WX X p) kk nn K) (hr : ∀ p, q = .inl p → K (.inl (some (V (bi p.1)))) (WX X p.2)) {fu : Nat} {go : Int × St → Option ((Bool × St) ⊕ (St))} (ih : ∀ a, go a = some q → inR a.1 → ∀ kk nn, kk + 2 * fu ≤ mc → nn + 12 * fu ≤ ms → Go E M_Law_law mc ms 28 [(0, .ref (XB + 200)), (1, .ref c1), (2, .ref c2), (3, .ref c3), (4, .ref c4), (5, V a.1)] [] (WX X a.2) kk nn K) {a5 : Int} (ha5 : inR a5) {S : St} {kk nn : Nat} (hkk : kk + 0 + 2 * fu ≤ mc) (hnn : nn + 0 + 12 * fu ≤ ms) (h : jf_Law_law_369 sx sn c1 c2 c3 c4 go a5 S = some q) : Go E M_Law_law mc ms 369 [(0, .ref (XB + 200)), (1, .ref c1), (2, .ref c2), (3, .ref c3), (4, .ref c4), (5, V a5)] [] (WX X S) kk nn K := by
  unfold jf_Law_law_369 at h
  refine g_aloadn (pc := 369) (i0 := 1) (j := 1) (dK D_Law_law_1 35 rfl) rfl rfl ?_
  refine g_aloadn (pc := 370) (i0 := 0) (j := 0) (dK D_Law_law_1 36 rfl) rfl rfl ?_
  refine g_iload (pc := 371) (j := 5) (dK D_Law_law_1 37 rfl) rfl ?_
  refine vg_iconst (pc := 373) (dK D_Law_law_1 38 rfl) ?_
  refine vg_iadd (pc := 374) (dK D_Law_law_1 39 rfl) ?_
  refine gdE h (fun hi14 h => ?_)
  refine vg_sld (pc := 375) (dK D_Law_law_1 40 rfl) hsn hi14 ?_
  refine bnE h (fun p15 e_p15 h => ?_)
  refine vg_cV (pc := 376) (As := [V (sx (((a5 + 1)).toNat))]) (rest := []) (mc' := 0) (ms' := 0) (dK D_Law_law_1 41 rfl) K_Law_136 (fitK rfl) (ltK rfl) hc1 rfl (leK rfl) (by omega) (by omega) (tf_FP_truncateInput hc1 (hsn.at _) e_p15) (kcI (fun h_p15 => ?_))
  refine g_aloadn (pc := 379) (i0 := 2) (j := 2) (dK D_Law_law_1 42 rfl) rfl rfl ?_
  refine g_aloadn (pc := 380) (i0 := 0) (j := 0) (dK D_Law_law_1 43 rfl) rfl rfl ?_
  refine g_iload (pc := 381) (j := 5) (dK D_Law_law_1 44 rfl) rfl ?_
  refine vg_iconst (pc := 383) (dK D_Law_law_1 45 rfl) ?_
  refine vg_iadd (pc := 384) (dK D_Law_law_1 46 rfl) ?_
  refine vg_sld (pc := 385) (dK D_Law_law_1 47 rfl) hsn hi14 ?_
  refine bnE h (fun p16 e_p16 h => ?_)
  refine vg_cV (pc := 386) (As := [V (sx (((a5 + 1)).toNat))]) (rest := [V p15.1]) (mc' := 0) (ms' := 0) (dK D_Law_law_1 48 rfl) K_Law_139 (fitK rfl) (ltK rfl) hc2 rfl (leK rfl) (by omega) (by omega) (tf_Mo_truncateInput hc2 (hsn.at _) e_p16) (kcI (fun h_p16 => ?_))
  refine vg_icmp_eq (pc := 389) (t := 3073) (dK D_Law_law_1 49 rfl) rfl h_p15 h_p16 (fun hc17 => ?_) (fun hc17 => ?_)
  · replace h := ifP h hc17
    exact tj_Law_law_3073 hfl hsn hc1 hc2 hc3 hc4 hx hr ih ha5 (by omega) (by omega) h
  · replace h := ifN h hc17
    refine vg_iconst (pc := 392) (dK D_Law_law_2 0 rfl) ?_
    exact vg_iretB (pc := 393) (b := false) (dK D_Law_law_2 1 rfl) rfl (by omega) (by omega) (xf hfl) (hr _ (Option.some.inj h).symm)
def jf_Law_law_394 (sx : Nat → Int) (sn : Nat) (c1 : Nat) (c2 : Nat) (c3 : Nat) (c4 : Nat) (go : Int × St → Option ((Bool × St) ⊕ (St))) (a5 : Int) (S : St) : Option ((Bool × St) ⊕ (St)) := bnO (fn_FP_load c1 S) fun p19 => bnO (fn_Mo_load c2 p19.2) fun p20 => if p19.1 = p20.1 then (jf_Law_law_3073 sx sn c1 c2 c3 c4 go a5 p20.2) else (some (.inl (false, p20.2)))
theorem tj_Law_law_394 {E : EV} {X : XT} (hfl : X.2.2.2 = false) {sx : Nat → Int} {sn : Nat} (hsn : ScrE E sx sn) {c1 : Nat} (hc1 : HC X 10 c1) {c2 : Nat} (hc2 : HC X 11 c2) {c3 : Nat} (hc3 : HA X 3 1 c3) {c4 : Nat} (hc4 : HA X 4 1 c4) {mc ms : Nat} {K : RK → PS → Prop} {q : (Bool × St) ⊕ (St)} (hx : ∀ p, q = .inr p → ∀ kk nn, kk ≤ mc → nn ≤ ms → Go E M_Law_law mc ms 3079 [] [] (WX X p) kk nn K) (hr : ∀ p, q = .inl p → K (.inl (some (V (bi p.1)))) (WX X p.2)) {fu : Nat} {go : Int × St → Option ((Bool × St) ⊕ (St))} (ih : ∀ a, go a = some q → inR a.1 → ∀ kk nn, kk + 2 * fu ≤ mc → nn + 12 * fu ≤ ms → Go E M_Law_law mc ms 28 [(0, .ref (XB + 200)), (1, .ref c1), (2, .ref c2), (3, .ref c3), (4, .ref c4), (5, V a.1)] [] (WX X a.2) kk nn K) {a5 : Int} (ha5 : inR a5) {S : St} {kk nn : Nat} (hkk : kk + 0 + 2 * fu ≤ mc) (hnn : nn + 0 + 12 * fu ≤ ms) (h : jf_Law_law_394 sx sn c1 c2 c3 c4 go a5 S = some q) : Go E M_Law_law mc ms 394 [(0, .ref (XB + 200)), (1, .ref c1), (2, .ref c2), (3, .ref c3), (4, .ref c4), (5, V a5)] [] (WX X S) kk nn K := by
  unfold jf_Law_law_394 at h
  refine g_aloadn (pc := 394) (i0 := 1) (j := 1) (dK D_Law_law_2 2 rfl) rfl rfl ?_
  refine bnE h (fun p19 e_p19 h => ?_)
  refine vg_cV (pc := 395) (As := []) (rest := []) (mc' := 0) (ms' := 0) (dK D_Law_law_2 3 rfl) K_Law_140 (fitK rfl) (ltK rfl) hc1 rfl (leK rfl) (by omega) (by omega) (tf_FP_load hc1 e_p19) (kcI (fun h_p19 => ?_))
  refine g_aloadn (pc := 398) (i0 := 2) (j := 2) (dK D_Law_law_2 4 rfl) rfl rfl ?_
  refine bnE h (fun p20 e_p20 h => ?_)
  refine vg_cV (pc := 399) (As := []) (rest := [V p19.1]) (mc' := 0) (ms' := 0) (dK D_Law_law_2 5 rfl) K_Law_144 (fitK rfl) (ltK rfl) hc2 rfl (leK rfl) (by omega) (by omega) (tf_Mo_load hc2 e_p20) (kcI (fun h_p20 => ?_))
  refine vg_icmp_eq (pc := 402) (t := 3073) (dK D_Law_law_2 6 rfl) rfl h_p19 h_p20 (fun hc21 => ?_) (fun hc21 => ?_)
  · replace h := ifP h hc21
    exact tj_Law_law_3073 hfl hsn hc1 hc2 hc3 hc4 hx hr ih ha5 (by omega) (by omega) h
  · replace h := ifN h hc21
    refine vg_iconst (pc := 405) (dK D_Law_law_2 7 rfl) ?_
    exact vg_iretB (pc := 406) (b := false) (dK D_Law_law_2 8 rfl) rfl (by omega) (by omega) (xf hfl) (hr _ (Option.some.inj h).symm)
def jf_Law_law_407 (sx : Nat → Int) (sn : Nat) (c1 : Nat) (c2 : Nat) (c3 : Nat) (c4 : Nat) (go : Int × St → Option ((Bool × St) ⊕ (St))) (a5 : Int) (S : St) : Option ((Bool × St) ⊕ (St)) := bnO (fn_FP_errorCode c1 S) fun p23 => bnO (fn_Mo_errorCode c2 S) fun p24 => if p23 = p24.1 then (jf_Law_law_3073 sx sn c1 c2 c3 c4 go a5 p24.2) else (some (.inl (false, p24.2)))
theorem tj_Law_law_407 {E : EV} {X : XT} (hfl : X.2.2.2 = false) {sx : Nat → Int} {sn : Nat} (hsn : ScrE E sx sn) {c1 : Nat} (hc1 : HC X 10 c1) {c2 : Nat} (hc2 : HC X 11 c2) {c3 : Nat} (hc3 : HA X 3 1 c3) {c4 : Nat} (hc4 : HA X 4 1 c4) {mc ms : Nat} {K : RK → PS → Prop} {q : (Bool × St) ⊕ (St)} (hx : ∀ p, q = .inr p → ∀ kk nn, kk ≤ mc → nn ≤ ms → Go E M_Law_law mc ms 3079 [] [] (WX X p) kk nn K) (hr : ∀ p, q = .inl p → K (.inl (some (V (bi p.1)))) (WX X p.2)) {fu : Nat} {go : Int × St → Option ((Bool × St) ⊕ (St))} (ih : ∀ a, go a = some q → inR a.1 → ∀ kk nn, kk + 2 * fu ≤ mc → nn + 12 * fu ≤ ms → Go E M_Law_law mc ms 28 [(0, .ref (XB + 200)), (1, .ref c1), (2, .ref c2), (3, .ref c3), (4, .ref c4), (5, V a.1)] [] (WX X a.2) kk nn K) {a5 : Int} (ha5 : inR a5) {S : St} {kk nn : Nat} (hkk : kk + 0 + 2 * fu ≤ mc) (hnn : nn + 0 + 12 * fu ≤ ms) (h : jf_Law_law_407 sx sn c1 c2 c3 c4 go a5 S = some q) : Go E M_Law_law mc ms 407 [(0, .ref (XB + 200)), (1, .ref c1), (2, .ref c2), (3, .ref c3), (4, .ref c4), (5, V a5)] [] (WX X S) kk nn K := by
  unfold jf_Law_law_407 at h
  refine g_aloadn (pc := 407) (i0 := 1) (j := 1) (dK D_Law_law_2 9 rfl) rfl rfl ?_
  refine bnE h (fun p23 e_p23 h => ?_)
  refine vg_cV (pc := 408) (As := []) (rest := []) (mc' := 0) (ms' := 0) (dK D_Law_law_2 10 rfl) K_Law_145 (fitK rfl) (ltK rfl) hc1 rfl (leK rfl) (by omega) (by omega) (tf_FP_errorCode hc1 e_p23) (kcI (fun h_p23 => ?_))
  refine g_aloadn (pc := 411) (i0 := 2) (j := 2) (dK D_Law_law_2 11 rfl) rfl rfl ?_
  refine bnE h (fun p24 e_p24 h => ?_)
  refine vg_cV (pc := 412) (As := []) (rest := [V p23]) (mc' := 0) (ms' := 0) (dK D_Law_law_2 12 rfl) K_Law_148 (fitK rfl) (ltK rfl) hc2 rfl (leK rfl) (by omega) (by omega) (tf_Mo_errorCode hc2 e_p24) (kcI (fun h_p24 => ?_))
  refine vg_icmp_eq (pc := 415) (t := 3073) (dK D_Law_law_2 13 rfl) rfl h_p23 h_p24 (fun hc25 => ?_) (fun hc25 => ?_)
  · replace h := ifP h hc25
    exact tj_Law_law_3073 hfl hsn hc1 hc2 hc3 hc4 hx hr ih ha5 (by omega) (by omega) h
  · replace h := ifN h hc25
    refine vg_iconst (pc := 418) (dK D_Law_law_2 14 rfl) ?_
    exact vg_iretB (pc := 419) (b := false) (dK D_Law_law_2 15 rfl) rfl (by omega) (by omega) (xf hfl) (hr _ (Option.some.inj h).symm)
def jf_Law_law_420 (sx : Nat → Int) (sn : Nat) (c1 : Nat) (c2 : Nat) (c3 : Nat) (c4 : Nat) (go : Int × St → Option ((Bool × St) ⊕ (St))) (a5 : Int) (S : St) : Option ((Bool × St) ⊕ (St)) := bnO (fn_FP_errorPosition c1 S) fun p27 => bnO (fn_Mo_errorPosition c2 S) fun p28 => if p27 = p28.1 then (jf_Law_law_3073 sx sn c1 c2 c3 c4 go a5 p28.2) else (some (.inl (false, p28.2)))
theorem tj_Law_law_420 {E : EV} {X : XT} (hfl : X.2.2.2 = false) {sx : Nat → Int} {sn : Nat} (hsn : ScrE E sx sn) {c1 : Nat} (hc1 : HC X 10 c1) {c2 : Nat} (hc2 : HC X 11 c2) {c3 : Nat} (hc3 : HA X 3 1 c3) {c4 : Nat} (hc4 : HA X 4 1 c4) {mc ms : Nat} {K : RK → PS → Prop} {q : (Bool × St) ⊕ (St)} (hx : ∀ p, q = .inr p → ∀ kk nn, kk ≤ mc → nn ≤ ms → Go E M_Law_law mc ms 3079 [] [] (WX X p) kk nn K) (hr : ∀ p, q = .inl p → K (.inl (some (V (bi p.1)))) (WX X p.2)) {fu : Nat} {go : Int × St → Option ((Bool × St) ⊕ (St))} (ih : ∀ a, go a = some q → inR a.1 → ∀ kk nn, kk + 2 * fu ≤ mc → nn + 12 * fu ≤ ms → Go E M_Law_law mc ms 28 [(0, .ref (XB + 200)), (1, .ref c1), (2, .ref c2), (3, .ref c3), (4, .ref c4), (5, V a.1)] [] (WX X a.2) kk nn K) {a5 : Int} (ha5 : inR a5) {S : St} {kk nn : Nat} (hkk : kk + 0 + 2 * fu ≤ mc) (hnn : nn + 0 + 12 * fu ≤ ms) (h : jf_Law_law_420 sx sn c1 c2 c3 c4 go a5 S = some q) : Go E M_Law_law mc ms 420 [(0, .ref (XB + 200)), (1, .ref c1), (2, .ref c2), (3, .ref c3), (4, .ref c4), (5, V a5)] [] (WX X S) kk nn K := by
  unfold jf_Law_law_420 at h
  refine g_aloadn (pc := 420) (i0 := 1) (j := 1) (dK D_Law_law_2 16 rfl) rfl rfl ?_
  refine bnE h (fun p27 e_p27 h => ?_)
  refine vg_cV (pc := 421) (As := []) (rest := []) (mc' := 0) (ms' := 0) (dK D_Law_law_2 17 rfl) K_Law_149 (fitK rfl) (ltK rfl) hc1 rfl (leK rfl) (by omega) (by omega) (tf_FP_errorPosition hc1 e_p27) (kcI (fun h_p27 => ?_))
  refine g_aloadn (pc := 424) (i0 := 2) (j := 2) (dK D_Law_law_2 18 rfl) rfl rfl ?_
  refine bnE h (fun p28 e_p28 h => ?_)
  refine vg_cV (pc := 425) (As := []) (rest := [V p27]) (mc' := 0) (ms' := 0) (dK D_Law_law_2 19 rfl) K_Law_152 (fitK rfl) (ltK rfl) hc2 rfl (leK rfl) (by omega) (by omega) (tf_Mo_errorPosition hc2 e_p28) (kcI (fun h_p28 => ?_))
  refine vg_icmp_eq (pc := 428) (t := 3073) (dK D_Law_law_2 20 rfl) rfl h_p27 h_p28 (fun hc29 => ?_) (fun hc29 => ?_)
  · replace h := ifP h hc29
    exact tj_Law_law_3073 hfl hsn hc1 hc2 hc3 hc4 hx hr ih ha5 (by omega) (by omega) h
  · replace h := ifN h hc29
    refine vg_iconst (pc := 431) (dK D_Law_law_2 21 rfl) ?_
    exact vg_iretB (pc := 432) (b := false) (dK D_Law_law_2 22 rfl) rfl (by omega) (by omega) (xf hfl) (hr _ (Option.some.inj h).symm)
def jf_Law_law_433 (sx : Nat → Int) (sn : Nat) (c1 : Nat) (c2 : Nat) (c3 : Nat) (c4 : Nat) (go : Int × St → Option ((Bool × St) ⊕ (St))) (a5 : Int) (S : St) : Option ((Bool × St) ⊕ (St)) := if 0 ≤ (a5 + 1) ∧ (a5 + 1) < (sn : Int) then (bnO (fn_FP_count c1 (sx (((a5 + 1)).toNat)) S) fun p32 => bnO (fn_Mo_count c2 (sx (((a5 + 1)).toNat)) S) fun p33 => if p32 = p33.1 then (jf_Law_law_3073 sx sn c1 c2 c3 c4 go a5 p33.2) else (some (.inl (false, p33.2)))) else none
theorem tj_Law_law_433 {E : EV} {X : XT} (hfl : X.2.2.2 = false) {sx : Nat → Int} {sn : Nat} (hsn : ScrE E sx sn) {c1 : Nat} (hc1 : HC X 10 c1) {c2 : Nat} (hc2 : HC X 11 c2) {c3 : Nat} (hc3 : HA X 3 1 c3) {c4 : Nat} (hc4 : HA X 4 1 c4) {mc ms : Nat} {K : RK → PS → Prop} {q : (Bool × St) ⊕ (St)} (hx : ∀ p, q = .inr p → ∀ kk nn, kk ≤ mc → nn ≤ ms → Go E M_Law_law mc ms 3079 [] [] (WX X p) kk nn K) (hr : ∀ p, q = .inl p → K (.inl (some (V (bi p.1)))) (WX X p.2)) {fu : Nat} {go : Int × St → Option ((Bool × St) ⊕ (St))} (ih : ∀ a, go a = some q → inR a.1 → ∀ kk nn, kk + 2 * fu ≤ mc → nn + 12 * fu ≤ ms → Go E M_Law_law mc ms 28 [(0, .ref (XB + 200)), (1, .ref c1), (2, .ref c2), (3, .ref c3), (4, .ref c4), (5, V a.1)] [] (WX X a.2) kk nn K) {a5 : Int} (ha5 : inR a5) {S : St} {kk nn : Nat} (hkk : kk + 0 + 2 * fu ≤ mc) (hnn : nn + 0 + 12 * fu ≤ ms) (h : jf_Law_law_433 sx sn c1 c2 c3 c4 go a5 S = some q) : Go E M_Law_law mc ms 433 [(0, .ref (XB + 200)), (1, .ref c1), (2, .ref c2), (3, .ref c3), (4, .ref c4), (5, V a5)] [] (WX X S) kk nn K := by
  unfold jf_Law_law_433 at h
  refine g_aloadn (pc := 433) (i0 := 1) (j := 1) (dK D_Law_law_2 23 rfl) rfl rfl ?_
  refine g_aloadn (pc := 434) (i0 := 0) (j := 0) (dK D_Law_law_2 24 rfl) rfl rfl ?_
  refine g_iload (pc := 435) (j := 5) (dK D_Law_law_2 25 rfl) rfl ?_
  refine vg_iconst (pc := 437) (dK D_Law_law_2 26 rfl) ?_
  refine vg_iadd (pc := 438) (dK D_Law_law_2 27 rfl) ?_
  refine gdE h (fun hi31 h => ?_)
  refine vg_sld (pc := 439) (dK D_Law_law_2 28 rfl) hsn hi31 ?_
  refine bnE h (fun p32 e_p32 h => ?_)
  refine vg_cV (pc := 440) (As := [V (sx (((a5 + 1)).toNat))]) (rest := []) (mc' := 0) (ms' := 0) (dK D_Law_law_2 29 rfl) K_Law_153 (fitK rfl) (ltK rfl) hc1 rfl (leK rfl) (by omega) (by omega) (tf_FP_count hc1 (hsn.at _) e_p32) (kcI (fun h_p32 => ?_))
  refine g_aloadn (pc := 443) (i0 := 2) (j := 2) (dK D_Law_law_2 30 rfl) rfl rfl ?_
  refine g_aloadn (pc := 444) (i0 := 0) (j := 0) (dK D_Law_law_2 31 rfl) rfl rfl ?_
  refine g_iload (pc := 445) (j := 5) (dK D_Law_law_2 32 rfl) rfl ?_
  refine vg_iconst (pc := 447) (dK D_Law_law_2 33 rfl) ?_
  refine vg_iadd (pc := 448) (dK D_Law_law_2 34 rfl) ?_
  refine vg_sld (pc := 449) (dK D_Law_law_2 35 rfl) hsn hi31 ?_
  refine bnE h (fun p33 e_p33 h => ?_)
  refine vg_cV (pc := 450) (As := [V (sx (((a5 + 1)).toNat))]) (rest := [V p32]) (mc' := 0) (ms' := 0) (dK D_Law_law_2 36 rfl) K_Law_156 (fitK rfl) (ltK rfl) hc2 rfl (leK rfl) (by omega) (by omega) (tf_Mo_count hc2 (hsn.at _) e_p33) (kcI (fun h_p33 => ?_))
  refine vg_icmp_eq (pc := 453) (t := 3073) (dK D_Law_law_2 37 rfl) rfl h_p32 h_p33 (fun hc34 => ?_) (fun hc34 => ?_)
  · replace h := ifP h hc34
    exact tj_Law_law_3073 hfl hsn hc1 hc2 hc3 hc4 hx hr ih ha5 (by omega) (by omega) h
  · replace h := ifN h hc34
    refine vg_iconst (pc := 456) (dK D_Law_law_2 38 rfl) ?_
    exact vg_iretB (pc := 457) (b := false) (dK D_Law_law_2 39 rfl) rfl (by omega) (by omega) (xf hfl) (hr _ (Option.some.inj h).symm)
def jf_Law_law_458 (sx : Nat → Int) (sn : Nat) (c1 : Nat) (c2 : Nat) (c3 : Nat) (c4 : Nat) (go : Int × St → Option ((Bool × St) ⊕ (St))) (a5 : Int) (S : St) : Option ((Bool × St) ⊕ (St)) := if 0 ≤ (a5 + 1) ∧ (a5 + 1) < (sn : Int) then (if 0 ≤ (a5 + 2) ∧ (a5 + 2) < (sn : Int) then (if 0 ≤ (a5 + 3) ∧ (a5 + 3) < (sn : Int) then (if 0 ≤ (a5 + 4) ∧ (a5 + 4) < (sn : Int) then (bnO (fn_Law_addAd c1 (sx (((a5 + 1)).toNat)) (sx (((a5 + 2)).toNat)) (sx (((a5 + 3)).toNat)) (sx (((a5 + 4)).toNat)) c3 S) fun p40 => bnO (fn_Mo_addAd c2 (sx (((a5 + 1)).toNat)) (sx (((a5 + 2)).toNat)) (sx (((a5 + 3)).toNat)) (sx (((a5 + 4)).toNat)) p40.2) fun p41 => bnO (fn_Mo_thrown c2 p41.2) fun p42 => if p42 = p40.1 then (if p40.1 = 0 then (if (gl p41.2 c3 0) = p41.1 then (jf_Law_law_3073 sx sn c1 c2 c3 c4 go a5 p41.2) else (some (.inl (false, p41.2)))) else (jf_Law_law_3073 sx sn c1 c2 c3 c4 go a5 p41.2)) else (some (.inl (false, p41.2)))) else none) else none) else none) else none
theorem tj_Law_law_458 {E : EV} {X : XT} (hfl : X.2.2.2 = false) {sx : Nat → Int} {sn : Nat} (hsn : ScrE E sx sn) {c1 : Nat} (hc1 : HC X 10 c1) {c2 : Nat} (hc2 : HC X 11 c2) {c3 : Nat} (hc3 : HA X 3 1 c3) {c4 : Nat} (hc4 : HA X 4 1 c4) {mc ms : Nat} {K : RK → PS → Prop} {q : (Bool × St) ⊕ (St)} (hx : ∀ p, q = .inr p → ∀ kk nn, kk ≤ mc → nn ≤ ms → Go E M_Law_law mc ms 3079 [] [] (WX X p) kk nn K) (hr : ∀ p, q = .inl p → K (.inl (some (V (bi p.1)))) (WX X p.2)) {fu : Nat} {go : Int × St → Option ((Bool × St) ⊕ (St))} (ih : ∀ a, go a = some q → inR a.1 → ∀ kk nn, kk + 2 * fu ≤ mc → nn + 12 * fu ≤ ms → Go E M_Law_law mc ms 28 [(0, .ref (XB + 200)), (1, .ref c1), (2, .ref c2), (3, .ref c3), (4, .ref c4), (5, V a.1)] [] (WX X a.2) kk nn K) {a5 : Int} (ha5 : inR a5) {S : St} {kk nn : Nat} (hkk : kk + 1 + 2 * fu ≤ mc) (hnn : nn + 6 + 12 * fu ≤ ms) (h : jf_Law_law_458 sx sn c1 c2 c3 c4 go a5 S = some q) : Go E M_Law_law mc ms 458 [(0, .ref (XB + 200)), (1, .ref c1), (2, .ref c2), (3, .ref c3), (4, .ref c4), (5, V a5)] [] (WX X S) kk nn K := by
  unfold jf_Law_law_458 at h
  refine g_aloadn (pc := 458) (i0 := 1) (j := 1) (dK D_Law_law_2 40 rfl) rfl rfl ?_
  refine g_aloadn (pc := 459) (i0 := 0) (j := 0) (dK D_Law_law_2 41 rfl) rfl rfl ?_
  refine g_iload (pc := 460) (j := 5) (dK D_Law_law_2 42 rfl) rfl ?_
  refine vg_iconst (pc := 462) (dK D_Law_law_2 43 rfl) ?_
  refine vg_iadd (pc := 463) (dK D_Law_law_2 44 rfl) ?_
  refine gdE h (fun hi36 h => ?_)
  refine vg_sld (pc := 464) (dK D_Law_law_2 45 rfl) hsn hi36 ?_
  refine g_aloadn (pc := 465) (i0 := 0) (j := 0) (dK D_Law_law_2 46 rfl) rfl rfl ?_
  refine g_iload (pc := 466) (j := 5) (dK D_Law_law_2 47 rfl) rfl ?_
  refine vg_iconst (pc := 468) (dK D_Law_law_2 48 rfl) ?_
  refine vg_iadd (pc := 469) (dK D_Law_law_2 49 rfl) ?_
  refine gdE h (fun hi37 h => ?_)
  refine vg_sld (pc := 470) (dK D_Law_law_3 0 rfl) hsn hi37 ?_
  refine g_aloadn (pc := 471) (i0 := 0) (j := 0) (dK D_Law_law_3 1 rfl) rfl rfl ?_
  refine g_iload (pc := 472) (j := 5) (dK D_Law_law_3 2 rfl) rfl ?_
  refine vg_iconst (pc := 474) (dK D_Law_law_3 3 rfl) ?_
  refine vg_iadd (pc := 475) (dK D_Law_law_3 4 rfl) ?_
  refine gdE h (fun hi38 h => ?_)
  refine vg_sld (pc := 476) (dK D_Law_law_3 5 rfl) hsn hi38 ?_
  refine g_aloadn (pc := 477) (i0 := 0) (j := 0) (dK D_Law_law_3 6 rfl) rfl rfl ?_
  refine g_iload (pc := 478) (j := 5) (dK D_Law_law_3 7 rfl) rfl ?_
  refine vg_iconst (pc := 480) (dK D_Law_law_3 8 rfl) ?_
  refine vg_iadd (pc := 481) (dK D_Law_law_3 9 rfl) ?_
  refine gdE h (fun hi39 h => ?_)
  refine vg_sld (pc := 482) (dK D_Law_law_3 10 rfl) hsn hi39 ?_
  refine g_aloadn (pc := 483) (i0 := 3) (j := 3) (dK D_Law_law_3 11 rfl) rfl rfl ?_
  refine bnE h (fun p40 e_p40 h => ?_)
  refine vg_cSX (pc := 484) (As := [.ref c1, V (sx (((a5 + 1)).toNat)), V (sx (((a5 + 2)).toNat)), V (sx (((a5 + 3)).toNat)), V (sx (((a5 + 4)).toNat)), .ref c3]) (rest := []) (mc' := 1) (ms' := 6) (dK D_Law_law_3 12 rfl) K_Law_157 (fitK rfl) rfl (leK rfl) (by omega) (by omega) (tf_Law_addAd hfl hc1 (hsn.at _) (hsn.at _) (hsn.at _) (hsn.at _) hc3 e_p40) (kcI (fun h_p40 => ?_))
  refine g_istore (pc := 487) (ls2 := [(6, V p40.1), (0, .ref (XB + 200)), (1, .ref c1), (2, .ref c2), (3, .ref c3), (4, .ref c4), (5, V a5)]) (dK D_Law_law_3 13 rfl) (ltK rfl) rfl ?_
  refine g_aloadn (pc := 489) (i0 := 2) (j := 3) (dK D_Law_law_3 14 rfl) rfl rfl ?_
  refine g_aloadn (pc := 490) (i0 := 0) (j := 1) (dK D_Law_law_3 15 rfl) rfl rfl ?_
  refine g_iload (pc := 491) (j := 6) (dK D_Law_law_3 16 rfl) rfl ?_
  refine vg_iconst (pc := 493) (dK D_Law_law_3 17 rfl) ?_
  refine vg_iadd (pc := 494) (dK D_Law_law_3 18 rfl) ?_
  refine vg_sld (pc := 495) (dK D_Law_law_3 19 rfl) hsn hi36 ?_
  refine g_aloadn (pc := 496) (i0 := 0) (j := 1) (dK D_Law_law_3 20 rfl) rfl rfl ?_
  refine g_iload (pc := 497) (j := 6) (dK D_Law_law_3 21 rfl) rfl ?_
  refine vg_iconst (pc := 499) (dK D_Law_law_3 22 rfl) ?_
  refine vg_iadd (pc := 500) (dK D_Law_law_3 23 rfl) ?_
  refine vg_sld (pc := 501) (dK D_Law_law_3 24 rfl) hsn hi37 ?_
  refine g_aloadn (pc := 502) (i0 := 0) (j := 1) (dK D_Law_law_3 25 rfl) rfl rfl ?_
  refine g_iload (pc := 503) (j := 6) (dK D_Law_law_3 26 rfl) rfl ?_
  refine vg_iconst (pc := 505) (dK D_Law_law_3 27 rfl) ?_
  refine vg_iadd (pc := 506) (dK D_Law_law_3 28 rfl) ?_
  refine vg_sld (pc := 507) (dK D_Law_law_3 29 rfl) hsn hi38 ?_
  refine g_aloadn (pc := 508) (i0 := 0) (j := 1) (dK D_Law_law_3 30 rfl) rfl rfl ?_
  refine g_iload (pc := 509) (j := 6) (dK D_Law_law_3 31 rfl) rfl ?_
  refine vg_iconst (pc := 511) (dK D_Law_law_3 32 rfl) ?_
  refine vg_iadd (pc := 512) (dK D_Law_law_3 33 rfl) ?_
  refine vg_sld (pc := 513) (dK D_Law_law_3 34 rfl) hsn hi39 ?_
  refine bnE h (fun p41 e_p41 h => ?_)
  refine vg_cV (pc := 514) (As := [V (sx (((a5 + 1)).toNat)), V (sx (((a5 + 2)).toNat)), V (sx (((a5 + 3)).toNat)), V (sx (((a5 + 4)).toNat))]) (rest := []) (mc' := 0) (ms' := 0) (dK D_Law_law_3 35 rfl) K_Law_162 (fitK rfl) (ltK rfl) hc2 rfl (leK rfl) (by omega) (by omega) (tf_Mo_addAd hc2 (hsn.at _) (hsn.at _) (hsn.at _) (hsn.at _) e_p41) (kcI (fun h_p41 => ?_))
  refine g_istore (pc := 517) (ls2 := [(7, V p41.1), (6, V p40.1), (0, .ref (XB + 200)), (1, .ref c1), (2, .ref c2), (3, .ref c3), (4, .ref c4), (5, V a5)]) (dK D_Law_law_3 36 rfl) (ltK rfl) rfl ?_
  refine g_aloadn (pc := 519) (i0 := 2) (j := 4) (dK D_Law_law_3 37 rfl) rfl rfl ?_
  refine bnE h (fun p42 e_p42 h => ?_)
  refine vg_cV (pc := 520) (As := []) (rest := []) (mc' := 0) (ms' := 0) (dK D_Law_law_3 38 rfl) K_Law_163 (fitK rfl) (ltK rfl) hc2 rfl (leK rfl) (by omega) (by omega) (tf_Mo_thrown hc2 e_p42) (kcI (fun h_p42 => ?_))
  refine g_iload (pc := 523) (j := 1) (dK D_Law_law_3 39 rfl) rfl ?_
  refine vg_icmp_eq (pc := 525) (t := 530) (dK D_Law_law_3 40 rfl) rfl h_p42 h_p40 (fun hc45 => ?_) (fun hc45 => ?_)
  · replace h := ifP h hc45
    refine g_iload (pc := 530) (j := 1) (dK D_Law_law_3 43 rfl) rfl ?_
    refine vg_if_ne (pc := 532) (t := 547) (dK D_Law_law_3 44 rfl) rfl h_p40 (fun hc44 => ?_) (fun hc44 => ?_)
    · replace h := ifN h hc44
      refine g_goto (pc := 547) (tgt := 3073) (dK D_Law_law_4 4 rfl) rfl ?_
      refine gL_weak (ls' := [(0, .ref (XB + 200)), (1, .ref c1), (2, .ref c2), (3, .ref c3), (4, .ref c4), (5, V a5)]) (sbc 2 rfl (sbc 3 rfl (sbc 4 rfl (sbc 5 rfl (sbc 6 rfl (sbc 7 rfl sbn)))))) ?_
      exact tj_Law_law_3073 hfl hsn hc1 hc2 hc3 hc4 hx hr ih ha5 (by omega) (by omega) h
    · replace h := ifP h hc44
      refine g_aloadn (pc := 535) (i0 := 3) (j := 5) (dK D_Law_law_3 45 rfl) rfl rfl ?_
      refine vg_iconst (pc := 536) (dK D_Law_law_3 46 rfl) ?_
      refine vg_laload (pc := 537) (j := 0) (dK D_Law_law_3 47 rfl) hc3 rfl ⟨by decide, by decide⟩ rfl ?_
      refine g_iload (pc := 538) (j := 0) (dK D_Law_law_3 48 rfl) rfl ?_
      refine vg_i2l (pc := 540) (dK D_Law_law_3 49 rfl) h_p41 ?_
      refine vg_lcmp_eq (pc := 541) (t := 547) (dK D_Law_law_4 0 rfl) (dK D_Law_law_4 1 rfl) rfl (gl_in _ _ _) (inR_L h_p41) (fun hc43 => ?_) (fun hc43 => ?_)
      · replace h := ifP h hc43
        refine g_goto (pc := 547) (tgt := 3073) (dK D_Law_law_4 4 rfl) rfl ?_
        refine gL_weak (ls' := [(0, .ref (XB + 200)), (1, .ref c1), (2, .ref c2), (3, .ref c3), (4, .ref c4), (5, V a5)]) (sbc 2 rfl (sbc 3 rfl (sbc 4 rfl (sbc 5 rfl (sbc 6 rfl (sbc 7 rfl sbn)))))) ?_
        exact tj_Law_law_3073 hfl hsn hc1 hc2 hc3 hc4 hx hr ih ha5 (by omega) (by omega) h
      · replace h := ifN h hc43
        refine vg_iconst (pc := 545) (dK D_Law_law_4 2 rfl) ?_
        exact vg_iretB (pc := 546) (b := false) (dK D_Law_law_4 3 rfl) rfl (by omega) (by omega) (xf hfl) (hr _ (Option.some.inj h).symm)
  · replace h := ifN h hc45
    refine vg_iconst (pc := 528) (dK D_Law_law_3 41 rfl) ?_
    exact vg_iretB (pc := 529) (b := false) (dK D_Law_law_3 42 rfl) rfl (by omega) (by omega) (xf hfl) (hr _ (Option.some.inj h).symm)
def jf_Law_law_571 (sx : Nat → Int) (sn : Nat) (c1 : Nat) (c2 : Nat) (c3 : Nat) (c4 : Nat) (go : Int × St → Option ((Bool × St) ⊕ (St))) (a5 : Int) (t0 : Int) (t1 : Int) (d2 : Nat) (S : St) : Option ((Bool × St) ⊕ (St)) := if 0 ≤ (a5 + 3) ∧ (a5 + 3) < (sn : Int) then (bnO (fn_Law_setAd d2 t1 t0 (sx (((a5 + 3)).toNat)) c3 S) fun p50 => if 0 ≤ (a5 + 1) ∧ (a5 + 1) < (sn : Int) then (if 0 ≤ (a5 + 2) ∧ (a5 + 2) < (sn : Int) then (if (sx (((a5 + 2)).toNat)) = 0 then (bnO (fn_Mo_setAd c2 (sx (((a5 + 1)).toNat)) 0 (sx (((a5 + 3)).toNat)) p50.2) fun p53 => bnO (fn_Mo_thrown c2 p53.2) fun p54 => if p54 = p50.1 then (if p50.1 = 0 then (if (bi p53.1) = 0 then (if (gl p53.2 c3 0) = 0 then (jf_Law_law_3073 sx sn c1 c2 c3 c4 go a5 p53.2) else (some (.inl (false, p53.2)))) else (if (gl p53.2 c3 0) = 1 then (jf_Law_law_3073 sx sn c1 c2 c3 c4 go a5 p53.2) else (some (.inl (false, p53.2))))) else (jf_Law_law_3073 sx sn c1 c2 c3 c4 go a5 p53.2)) else (some (.inl (false, p53.2)))) else (bnO (fn_Mo_setAd c2 (sx (((a5 + 1)).toNat)) 1 (sx (((a5 + 3)).toNat)) p50.2) fun p60 => bnO (fn_Mo_thrown c2 p60.2) fun p61 => if p61 = p50.1 then (if p50.1 = 0 then (if (bi p60.1) = 0 then (if (gl p60.2 c3 0) = 0 then (jf_Law_law_3073 sx sn c1 c2 c3 c4 go a5 p60.2) else (some (.inl (false, p60.2)))) else (if (gl p60.2 c3 0) = 1 then (jf_Law_law_3073 sx sn c1 c2 c3 c4 go a5 p60.2) else (some (.inl (false, p60.2))))) else (jf_Law_law_3073 sx sn c1 c2 c3 c4 go a5 p60.2)) else (some (.inl (false, p60.2))))) else none) else none) else none
theorem tj_Law_law_571 {E : EV} {X : XT} (hfl : X.2.2.2 = false) {sx : Nat → Int} {sn : Nat} (hsn : ScrE E sx sn) {c1 : Nat} (hc1 : HC X 10 c1) {c2 : Nat} (hc2 : HC X 11 c2) {c3 : Nat} (hc3 : HA X 3 1 c3) {c4 : Nat} (hc4 : HA X 4 1 c4) {mc ms : Nat} {K : RK → PS → Prop} {q : (Bool × St) ⊕ (St)} (hx : ∀ p, q = .inr p → ∀ kk nn, kk ≤ mc → nn ≤ ms → Go E M_Law_law mc ms 3079 [] [] (WX X p) kk nn K) (hr : ∀ p, q = .inl p → K (.inl (some (V (bi p.1)))) (WX X p.2)) {fu : Nat} {go : Int × St → Option ((Bool × St) ⊕ (St))} (ih : ∀ a, go a = some q → inR a.1 → ∀ kk nn, kk + 2 * fu ≤ mc → nn + 12 * fu ≤ ms → Go E M_Law_law mc ms 28 [(0, .ref (XB + 200)), (1, .ref c1), (2, .ref c2), (3, .ref c3), (4, .ref c4), (5, V a.1)] [] (WX X a.2) kk nn K) {a5 : Int} (ha5 : inR a5) {t0 : Int} (ht0 : inR t0) {t1 : Int} (ht1 : inR t1) {d2 : Nat} (hd2 : HC X 10 d2) {S : St} {kk nn : Nat} (hkk : kk + 2 + 2 * fu ≤ mc) (hnn : nn + 12 + 12 * fu ≤ ms) (h : jf_Law_law_571 sx sn c1 c2 c3 c4 go a5 t0 t1 d2 S = some q) : Go E M_Law_law mc ms 571 [(0, .ref (XB + 200)), (1, .ref c1), (2, .ref c2), (3, .ref c3), (4, .ref c4), (5, V a5)] [V t0, V t1, .ref d2] (WX X S) kk nn K := by
  unfold jf_Law_law_571 at h
  refine g_aloadn (pc := 571) (i0 := 0) (j := 0) (dK D_Law_law_4 20 rfl) rfl rfl ?_
  refine g_iload (pc := 572) (j := 5) (dK D_Law_law_4 21 rfl) rfl ?_
  refine vg_iconst (pc := 574) (dK D_Law_law_4 22 rfl) ?_
  refine vg_iadd (pc := 575) (dK D_Law_law_4 23 rfl) ?_
  refine gdE h (fun hi49 h => ?_)
  refine vg_sld (pc := 576) (dK D_Law_law_4 24 rfl) hsn hi49 ?_
  refine g_aloadn (pc := 577) (i0 := 3) (j := 3) (dK D_Law_law_4 25 rfl) rfl rfl ?_
  refine bnE h (fun p50 e_p50 h => ?_)
  refine vg_cSX (pc := 578) (As := [.ref d2, V t1, V t0, V (sx (((a5 + 3)).toNat)), .ref c3]) (rest := []) (mc' := 2) (ms' := 12) (dK D_Law_law_4 26 rfl) K_Law_166 (fitK rfl) rfl (leK rfl) (by omega) (by omega) (tf_Law_setAd hfl hd2 ht1 ht0 (hsn.at _) hc3 e_p50) (kcI (fun h_p50 => ?_))
  refine g_istore (pc := 581) (ls2 := [(6, V p50.1), (0, .ref (XB + 200)), (1, .ref c1), (2, .ref c2), (3, .ref c3), (4, .ref c4), (5, V a5)]) (dK D_Law_law_4 27 rfl) (ltK rfl) rfl ?_
  refine g_aloadn (pc := 583) (i0 := 2) (j := 3) (dK D_Law_law_4 28 rfl) rfl rfl ?_
  refine g_aloadn (pc := 584) (i0 := 0) (j := 1) (dK D_Law_law_4 29 rfl) rfl rfl ?_
  refine g_iload (pc := 585) (j := 6) (dK D_Law_law_4 30 rfl) rfl ?_
  refine vg_iconst (pc := 587) (dK D_Law_law_4 31 rfl) ?_
  refine vg_iadd (pc := 588) (dK D_Law_law_4 32 rfl) ?_
  refine gdE h (fun hi51 h => ?_)
  refine vg_sld (pc := 589) (dK D_Law_law_4 33 rfl) hsn hi51 ?_
  refine g_aloadn (pc := 590) (i0 := 0) (j := 1) (dK D_Law_law_4 34 rfl) rfl rfl ?_
  refine g_iload (pc := 591) (j := 6) (dK D_Law_law_4 35 rfl) rfl ?_
  refine vg_iconst (pc := 593) (dK D_Law_law_4 36 rfl) ?_
  refine vg_iadd (pc := 594) (dK D_Law_law_4 37 rfl) ?_
  refine gdE h (fun hi52 h => ?_)
  refine vg_sld (pc := 595) (dK D_Law_law_4 38 rfl) hsn hi52 ?_
  refine vg_if_eq (pc := 596) (t := 603) (dK D_Law_law_4 39 rfl) rfl (hsn.at _) (fun hc67 => ?_) (fun hc67 => ?_)
  · replace h := ifP h hc67
    refine vg_iconst (pc := 603) (dK D_Law_law_4 42 rfl) ?_
    refine g_aloadn (pc := 604) (i0 := 0) (j := 1) (dK D_Law_law_4 43 rfl) rfl rfl ?_
    refine g_iload (pc := 605) (j := 6) (dK D_Law_law_4 44 rfl) rfl ?_
    refine vg_iconst (pc := 607) (dK D_Law_law_4 45 rfl) ?_
    refine vg_iadd (pc := 608) (dK D_Law_law_4 46 rfl) ?_
    refine vg_sld (pc := 609) (dK D_Law_law_4 47 rfl) hsn hi49 ?_
    refine bnE h (fun p53 e_p53 h => ?_)
    refine vg_cV (pc := 610) (As := [V (sx (((a5 + 1)).toNat)), V 0, V (sx (((a5 + 3)).toNat))]) (rest := []) (mc' := 0) (ms' := 0) (dK D_Law_law_4 48 rfl) K_Law_169 (fitK rfl) (ltK rfl) hc2 rfl (leK rfl) (by omega) (by omega) (tf_Mo_setAd hc2 (hsn.at _) (inRk rfl) (hsn.at _) e_p53) (kcB ?_)
    refine g_istore (pc := 613) (ls2 := [(7, V (bi p53.1)), (6, V p50.1), (0, .ref (XB + 200)), (1, .ref c1), (2, .ref c2), (3, .ref c3), (4, .ref c4), (5, V a5)]) (dK D_Law_law_4 49 rfl) (ltK rfl) rfl ?_
    refine g_aloadn (pc := 615) (i0 := 2) (j := 4) (dK D_Law_law_5 0 rfl) rfl rfl ?_
    refine bnE h (fun p54 e_p54 h => ?_)
    refine vg_cV (pc := 616) (As := []) (rest := []) (mc' := 0) (ms' := 0) (dK D_Law_law_5 1 rfl) K_Law_163 (fitK rfl) (ltK rfl) hc2 rfl (leK rfl) (by omega) (by omega) (tf_Mo_thrown hc2 e_p54) (kcI (fun h_p54 => ?_))
    refine g_iload (pc := 619) (j := 1) (dK D_Law_law_5 2 rfl) rfl ?_
    refine vg_icmp_eq (pc := 621) (t := 626) (dK D_Law_law_5 3 rfl) rfl h_p54 h_p50 (fun hc59 => ?_) (fun hc59 => ?_)
    · replace h := ifP h hc59
      refine g_iload (pc := 626) (j := 1) (dK D_Law_law_5 6 rfl) rfl ?_
      refine vg_if_ne (pc := 628) (t := 650) (dK D_Law_law_5 7 rfl) rfl h_p50 (fun hc58 => ?_) (fun hc58 => ?_)
      · replace h := ifN h hc58
        refine g_goto (pc := 650) (tgt := 3073) (dK D_Law_law_5 20 rfl) rfl ?_
        refine gL_weak (ls' := [(0, .ref (XB + 200)), (1, .ref c1), (2, .ref c2), (3, .ref c3), (4, .ref c4), (5, V a5)]) (sbc 2 rfl (sbc 3 rfl (sbc 4 rfl (sbc 5 rfl (sbc 6 rfl (sbc 7 rfl sbn)))))) ?_
        exact tj_Law_law_3073 hfl hsn hc1 hc2 hc3 hc4 hx hr ih ha5 (by omega) (by omega) h
      · replace h := ifP h hc58
        refine g_aloadn (pc := 631) (i0 := 3) (j := 5) (dK D_Law_law_5 8 rfl) rfl rfl ?_
        refine vg_iconst (pc := 632) (dK D_Law_law_5 9 rfl) ?_
        refine vg_laload (pc := 633) (j := 0) (dK D_Law_law_5 10 rfl) hc3 rfl ⟨by decide, by decide⟩ rfl ?_
        refine g_iload (pc := 634) (j := 0) (dK D_Law_law_5 11 rfl) rfl ?_
        refine vg_if_eq (pc := 636) (t := 643) (dK D_Law_law_5 12 rfl) rfl (bi_in _) (fun hc57 => ?_) (fun hc57 => ?_)
        · replace h := ifP h hc57
          refine vg_lconst (pc := 643) (y := 0) (dK D_Law_law_5 15 rfl) rfl ?_
          refine vg_lcmp_eq (pc := 644) (t := 650) (dK D_Law_law_5 16 rfl) (dK D_Law_law_5 17 rfl) rfl (gl_in _ _ _) (inLk rfl) (fun hc55 => ?_) (fun hc55 => ?_)
          · replace h := ifP h hc55
            refine g_goto (pc := 650) (tgt := 3073) (dK D_Law_law_5 20 rfl) rfl ?_
            refine gL_weak (ls' := [(0, .ref (XB + 200)), (1, .ref c1), (2, .ref c2), (3, .ref c3), (4, .ref c4), (5, V a5)]) (sbc 2 rfl (sbc 3 rfl (sbc 4 rfl (sbc 5 rfl (sbc 6 rfl (sbc 7 rfl sbn)))))) ?_
            exact tj_Law_law_3073 hfl hsn hc1 hc2 hc3 hc4 hx hr ih ha5 (by omega) (by omega) h
          · replace h := ifN h hc55
            refine vg_iconst (pc := 648) (dK D_Law_law_5 18 rfl) ?_
            exact vg_iretB (pc := 649) (b := false) (dK D_Law_law_5 19 rfl) rfl (by omega) (by omega) (xf hfl) (hr _ (Option.some.inj h).symm)
        · replace h := ifN h hc57
          refine vg_lconst (pc := 639) (y := 1) (dK D_Law_law_5 13 rfl) rfl ?_
          refine g_goto (pc := 640) (tgt := 644) (dK D_Law_law_5 14 rfl) rfl ?_
          refine vg_lcmp_eq (pc := 644) (t := 650) (dK D_Law_law_5 16 rfl) (dK D_Law_law_5 17 rfl) rfl (gl_in _ _ _) (inLk rfl) (fun hc56 => ?_) (fun hc56 => ?_)
          · replace h := ifP h hc56
            refine g_goto (pc := 650) (tgt := 3073) (dK D_Law_law_5 20 rfl) rfl ?_
            refine gL_weak (ls' := [(0, .ref (XB + 200)), (1, .ref c1), (2, .ref c2), (3, .ref c3), (4, .ref c4), (5, V a5)]) (sbc 2 rfl (sbc 3 rfl (sbc 4 rfl (sbc 5 rfl (sbc 6 rfl (sbc 7 rfl sbn)))))) ?_
            exact tj_Law_law_3073 hfl hsn hc1 hc2 hc3 hc4 hx hr ih ha5 (by omega) (by omega) h
          · replace h := ifN h hc56
            refine vg_iconst (pc := 648) (dK D_Law_law_5 18 rfl) ?_
            exact vg_iretB (pc := 649) (b := false) (dK D_Law_law_5 19 rfl) rfl (by omega) (by omega) (xf hfl) (hr _ (Option.some.inj h).symm)
    · replace h := ifN h hc59
      refine vg_iconst (pc := 624) (dK D_Law_law_5 4 rfl) ?_
      exact vg_iretB (pc := 625) (b := false) (dK D_Law_law_5 5 rfl) rfl (by omega) (by omega) (xf hfl) (hr _ (Option.some.inj h).symm)
  · replace h := ifN h hc67
    refine vg_iconst (pc := 599) (dK D_Law_law_4 40 rfl) ?_
    refine g_goto (pc := 600) (tgt := 604) (dK D_Law_law_4 41 rfl) rfl ?_
    refine g_aloadn (pc := 604) (i0 := 0) (j := 1) (dK D_Law_law_4 43 rfl) rfl rfl ?_
    refine g_iload (pc := 605) (j := 6) (dK D_Law_law_4 44 rfl) rfl ?_
    refine vg_iconst (pc := 607) (dK D_Law_law_4 45 rfl) ?_
    refine vg_iadd (pc := 608) (dK D_Law_law_4 46 rfl) ?_
    refine vg_sld (pc := 609) (dK D_Law_law_4 47 rfl) hsn hi49 ?_
    refine bnE h (fun p60 e_p60 h => ?_)
    refine vg_cV (pc := 610) (As := [V (sx (((a5 + 1)).toNat)), V 1, V (sx (((a5 + 3)).toNat))]) (rest := []) (mc' := 0) (ms' := 0) (dK D_Law_law_4 48 rfl) K_Law_169 (fitK rfl) (ltK rfl) hc2 rfl (leK rfl) (by omega) (by omega) (tf_Mo_setAd hc2 (hsn.at _) (inRk rfl) (hsn.at _) e_p60) (kcB ?_)
    refine g_istore (pc := 613) (ls2 := [(7, V (bi p60.1)), (6, V p50.1), (0, .ref (XB + 200)), (1, .ref c1), (2, .ref c2), (3, .ref c3), (4, .ref c4), (5, V a5)]) (dK D_Law_law_4 49 rfl) (ltK rfl) rfl ?_
    refine g_aloadn (pc := 615) (i0 := 2) (j := 4) (dK D_Law_law_5 0 rfl) rfl rfl ?_
    refine bnE h (fun p61 e_p61 h => ?_)
    refine vg_cV (pc := 616) (As := []) (rest := []) (mc' := 0) (ms' := 0) (dK D_Law_law_5 1 rfl) K_Law_163 (fitK rfl) (ltK rfl) hc2 rfl (leK rfl) (by omega) (by omega) (tf_Mo_thrown hc2 e_p61) (kcI (fun h_p61 => ?_))
    refine g_iload (pc := 619) (j := 1) (dK D_Law_law_5 2 rfl) rfl ?_
    refine vg_icmp_eq (pc := 621) (t := 626) (dK D_Law_law_5 3 rfl) rfl h_p61 h_p50 (fun hc66 => ?_) (fun hc66 => ?_)
    · replace h := ifP h hc66
      refine g_iload (pc := 626) (j := 1) (dK D_Law_law_5 6 rfl) rfl ?_
      refine vg_if_ne (pc := 628) (t := 650) (dK D_Law_law_5 7 rfl) rfl h_p50 (fun hc65 => ?_) (fun hc65 => ?_)
      · replace h := ifN h hc65
        refine g_goto (pc := 650) (tgt := 3073) (dK D_Law_law_5 20 rfl) rfl ?_
        refine gL_weak (ls' := [(0, .ref (XB + 200)), (1, .ref c1), (2, .ref c2), (3, .ref c3), (4, .ref c4), (5, V a5)]) (sbc 2 rfl (sbc 3 rfl (sbc 4 rfl (sbc 5 rfl (sbc 6 rfl (sbc 7 rfl sbn)))))) ?_
        exact tj_Law_law_3073 hfl hsn hc1 hc2 hc3 hc4 hx hr ih ha5 (by omega) (by omega) h
      · replace h := ifP h hc65
        refine g_aloadn (pc := 631) (i0 := 3) (j := 5) (dK D_Law_law_5 8 rfl) rfl rfl ?_
        refine vg_iconst (pc := 632) (dK D_Law_law_5 9 rfl) ?_
        refine vg_laload (pc := 633) (j := 0) (dK D_Law_law_5 10 rfl) hc3 rfl ⟨by decide, by decide⟩ rfl ?_
        refine g_iload (pc := 634) (j := 0) (dK D_Law_law_5 11 rfl) rfl ?_
        refine vg_if_eq (pc := 636) (t := 643) (dK D_Law_law_5 12 rfl) rfl (bi_in _) (fun hc64 => ?_) (fun hc64 => ?_)
        · replace h := ifP h hc64
          refine vg_lconst (pc := 643) (y := 0) (dK D_Law_law_5 15 rfl) rfl ?_
          refine vg_lcmp_eq (pc := 644) (t := 650) (dK D_Law_law_5 16 rfl) (dK D_Law_law_5 17 rfl) rfl (gl_in _ _ _) (inLk rfl) (fun hc62 => ?_) (fun hc62 => ?_)
          · replace h := ifP h hc62
            refine g_goto (pc := 650) (tgt := 3073) (dK D_Law_law_5 20 rfl) rfl ?_
            refine gL_weak (ls' := [(0, .ref (XB + 200)), (1, .ref c1), (2, .ref c2), (3, .ref c3), (4, .ref c4), (5, V a5)]) (sbc 2 rfl (sbc 3 rfl (sbc 4 rfl (sbc 5 rfl (sbc 6 rfl (sbc 7 rfl sbn)))))) ?_
            exact tj_Law_law_3073 hfl hsn hc1 hc2 hc3 hc4 hx hr ih ha5 (by omega) (by omega) h
          · replace h := ifN h hc62
            refine vg_iconst (pc := 648) (dK D_Law_law_5 18 rfl) ?_
            exact vg_iretB (pc := 649) (b := false) (dK D_Law_law_5 19 rfl) rfl (by omega) (by omega) (xf hfl) (hr _ (Option.some.inj h).symm)
        · replace h := ifN h hc64
          refine vg_lconst (pc := 639) (y := 1) (dK D_Law_law_5 13 rfl) rfl ?_
          refine g_goto (pc := 640) (tgt := 644) (dK D_Law_law_5 14 rfl) rfl ?_
          refine vg_lcmp_eq (pc := 644) (t := 650) (dK D_Law_law_5 16 rfl) (dK D_Law_law_5 17 rfl) rfl (gl_in _ _ _) (inLk rfl) (fun hc63 => ?_) (fun hc63 => ?_)
          · replace h := ifP h hc63
            refine g_goto (pc := 650) (tgt := 3073) (dK D_Law_law_5 20 rfl) rfl ?_
            refine gL_weak (ls' := [(0, .ref (XB + 200)), (1, .ref c1), (2, .ref c2), (3, .ref c3), (4, .ref c4), (5, V a5)]) (sbc 2 rfl (sbc 3 rfl (sbc 4 rfl (sbc 5 rfl (sbc 6 rfl (sbc 7 rfl sbn)))))) ?_
            exact tj_Law_law_3073 hfl hsn hc1 hc2 hc3 hc4 hx hr ih ha5 (by omega) (by omega) h
          · replace h := ifN h hc63
            refine vg_iconst (pc := 648) (dK D_Law_law_5 18 rfl) ?_
            exact vg_iretB (pc := 649) (b := false) (dK D_Law_law_5 19 rfl) rfl (by omega) (by omega) (xf hfl) (hr _ (Option.some.inj h).symm)
    · replace h := ifN h hc66
      refine vg_iconst (pc := 624) (dK D_Law_law_5 4 rfl) ?_
      exact vg_iretB (pc := 625) (b := false) (dK D_Law_law_5 5 rfl) rfl (by omega) (by omega) (xf hfl) (hr _ (Option.some.inj h).symm)
def jf_Law_law_550 (sx : Nat → Int) (sn : Nat) (c1 : Nat) (c2 : Nat) (c3 : Nat) (c4 : Nat) (go : Int × St → Option ((Bool × St) ⊕ (St))) (a5 : Int) (S : St) : Option ((Bool × St) ⊕ (St)) := if 0 ≤ (a5 + 1) ∧ (a5 + 1) < (sn : Int) then (if 0 ≤ (a5 + 2) ∧ (a5 + 2) < (sn : Int) then (if (sx (((a5 + 2)).toNat)) = 0 then (jf_Law_law_571 sx sn c1 c2 c3 c4 go a5 0 (sx (((a5 + 1)).toNat)) c1 S) else (jf_Law_law_571 sx sn c1 c2 c3 c4 go a5 1 (sx (((a5 + 1)).toNat)) c1 S)) else none) else none
theorem tj_Law_law_550 {E : EV} {X : XT} (hfl : X.2.2.2 = false) {sx : Nat → Int} {sn : Nat} (hsn : ScrE E sx sn) {c1 : Nat} (hc1 : HC X 10 c1) {c2 : Nat} (hc2 : HC X 11 c2) {c3 : Nat} (hc3 : HA X 3 1 c3) {c4 : Nat} (hc4 : HA X 4 1 c4) {mc ms : Nat} {K : RK → PS → Prop} {q : (Bool × St) ⊕ (St)} (hx : ∀ p, q = .inr p → ∀ kk nn, kk ≤ mc → nn ≤ ms → Go E M_Law_law mc ms 3079 [] [] (WX X p) kk nn K) (hr : ∀ p, q = .inl p → K (.inl (some (V (bi p.1)))) (WX X p.2)) {fu : Nat} {go : Int × St → Option ((Bool × St) ⊕ (St))} (ih : ∀ a, go a = some q → inR a.1 → ∀ kk nn, kk + 2 * fu ≤ mc → nn + 12 * fu ≤ ms → Go E M_Law_law mc ms 28 [(0, .ref (XB + 200)), (1, .ref c1), (2, .ref c2), (3, .ref c3), (4, .ref c4), (5, V a.1)] [] (WX X a.2) kk nn K) {a5 : Int} (ha5 : inR a5) {S : St} {kk nn : Nat} (hkk : kk + 2 + 2 * fu ≤ mc) (hnn : nn + 12 + 12 * fu ≤ ms) (h : jf_Law_law_550 sx sn c1 c2 c3 c4 go a5 S = some q) : Go E M_Law_law mc ms 550 [(0, .ref (XB + 200)), (1, .ref c1), (2, .ref c2), (3, .ref c3), (4, .ref c4), (5, V a5)] [] (WX X S) kk nn K := by
  unfold jf_Law_law_550 at h
  refine g_aloadn (pc := 550) (i0 := 1) (j := 1) (dK D_Law_law_4 5 rfl) rfl rfl ?_
  refine g_aloadn (pc := 551) (i0 := 0) (j := 0) (dK D_Law_law_4 6 rfl) rfl rfl ?_
  refine g_iload (pc := 552) (j := 5) (dK D_Law_law_4 7 rfl) rfl ?_
  refine vg_iconst (pc := 554) (dK D_Law_law_4 8 rfl) ?_
  refine vg_iadd (pc := 555) (dK D_Law_law_4 9 rfl) ?_
  refine gdE h (fun hi47 h => ?_)
  refine vg_sld (pc := 556) (dK D_Law_law_4 10 rfl) hsn hi47 ?_
  refine g_aloadn (pc := 557) (i0 := 0) (j := 0) (dK D_Law_law_4 11 rfl) rfl rfl ?_
  refine g_iload (pc := 558) (j := 5) (dK D_Law_law_4 12 rfl) rfl ?_
  refine vg_iconst (pc := 560) (dK D_Law_law_4 13 rfl) ?_
  refine vg_iadd (pc := 561) (dK D_Law_law_4 14 rfl) ?_
  refine gdE h (fun hi48 h => ?_)
  refine vg_sld (pc := 562) (dK D_Law_law_4 15 rfl) hsn hi48 ?_
  refine vg_if_eq (pc := 563) (t := 570) (dK D_Law_law_4 16 rfl) rfl (hsn.at _) (fun hc68 => ?_) (fun hc68 => ?_)
  · replace h := ifP h hc68
    refine vg_iconst (pc := 570) (dK D_Law_law_4 19 rfl) ?_
    exact tj_Law_law_571 hfl hsn hc1 hc2 hc3 hc4 hx hr ih ha5 (inRk rfl) (hsn.at _) hc1 (by omega) (by omega) h
  · replace h := ifN h hc68
    refine vg_iconst (pc := 566) (dK D_Law_law_4 17 rfl) ?_
    refine g_goto (pc := 567) (tgt := 571) (dK D_Law_law_4 18 rfl) rfl ?_
    exact tj_Law_law_571 hfl hsn hc1 hc2 hc3 hc4 hx hr ih ha5 (inRk rfl) (hsn.at _) hc1 (by omega) (by omega) h
def jf_Law_law_653 (sx : Nat → Int) (sn : Nat) (c1 : Nat) (c2 : Nat) (c3 : Nat) (c4 : Nat) (go : Int × St → Option ((Bool × St) ⊕ (St))) (a5 : Int) (S : St) : Option ((Bool × St) ⊕ (St)) := if 0 ≤ (a5 + 1) ∧ (a5 + 1) < (sn : Int) then (if 0 ≤ (a5 + 2) ∧ (a5 + 2) < (sn : Int) then (bnO (fn_Law_setPrice c1 (sx (((a5 + 1)).toNat)) (sx (((a5 + 2)).toNat)) c3 S) fun p72 => bnO (fn_Mo_setPrice c2 (sx (((a5 + 1)).toNat)) (sx (((a5 + 2)).toNat)) p72.2) fun p73 => bnO (fn_Mo_thrown c2 p73.2) fun p74 => if p74 = p72.1 then (if p72.1 = 0 then (if (gl p73.2 c3 0) = p73.1 then (jf_Law_law_3073 sx sn c1 c2 c3 c4 go a5 p73.2) else (some (.inl (false, p73.2)))) else (jf_Law_law_3073 sx sn c1 c2 c3 c4 go a5 p73.2)) else (some (.inl (false, p73.2)))) else none) else none
theorem tj_Law_law_653 {E : EV} {X : XT} (hfl : X.2.2.2 = false) {sx : Nat → Int} {sn : Nat} (hsn : ScrE E sx sn) {c1 : Nat} (hc1 : HC X 10 c1) {c2 : Nat} (hc2 : HC X 11 c2) {c3 : Nat} (hc3 : HA X 3 1 c3) {c4 : Nat} (hc4 : HA X 4 1 c4) {mc ms : Nat} {K : RK → PS → Prop} {q : (Bool × St) ⊕ (St)} (hx : ∀ p, q = .inr p → ∀ kk nn, kk ≤ mc → nn ≤ ms → Go E M_Law_law mc ms 3079 [] [] (WX X p) kk nn K) (hr : ∀ p, q = .inl p → K (.inl (some (V (bi p.1)))) (WX X p.2)) {fu : Nat} {go : Int × St → Option ((Bool × St) ⊕ (St))} (ih : ∀ a, go a = some q → inR a.1 → ∀ kk nn, kk + 2 * fu ≤ mc → nn + 12 * fu ≤ ms → Go E M_Law_law mc ms 28 [(0, .ref (XB + 200)), (1, .ref c1), (2, .ref c2), (3, .ref c3), (4, .ref c4), (5, V a.1)] [] (WX X a.2) kk nn K) {a5 : Int} (ha5 : inR a5) {S : St} {kk nn : Nat} (hkk : kk + 2 + 2 * fu ≤ mc) (hnn : nn + 12 + 12 * fu ≤ ms) (h : jf_Law_law_653 sx sn c1 c2 c3 c4 go a5 S = some q) : Go E M_Law_law mc ms 653 [(0, .ref (XB + 200)), (1, .ref c1), (2, .ref c2), (3, .ref c3), (4, .ref c4), (5, V a5)] [] (WX X S) kk nn K := by
  unfold jf_Law_law_653 at h
  refine g_aloadn (pc := 653) (i0 := 1) (j := 1) (dK D_Law_law_5 21 rfl) rfl rfl ?_
  refine g_aloadn (pc := 654) (i0 := 0) (j := 0) (dK D_Law_law_5 22 rfl) rfl rfl ?_
  refine g_iload (pc := 655) (j := 5) (dK D_Law_law_5 23 rfl) rfl ?_
  refine vg_iconst (pc := 657) (dK D_Law_law_5 24 rfl) ?_
  refine vg_iadd (pc := 658) (dK D_Law_law_5 25 rfl) ?_
  refine gdE h (fun hi70 h => ?_)
  refine vg_sld (pc := 659) (dK D_Law_law_5 26 rfl) hsn hi70 ?_
  refine g_aloadn (pc := 660) (i0 := 0) (j := 0) (dK D_Law_law_5 27 rfl) rfl rfl ?_
  refine g_iload (pc := 661) (j := 5) (dK D_Law_law_5 28 rfl) rfl ?_
  refine vg_iconst (pc := 663) (dK D_Law_law_5 29 rfl) ?_
  refine vg_iadd (pc := 664) (dK D_Law_law_5 30 rfl) ?_
  refine gdE h (fun hi71 h => ?_)
  refine vg_sld (pc := 665) (dK D_Law_law_5 31 rfl) hsn hi71 ?_
  refine g_aloadn (pc := 666) (i0 := 3) (j := 3) (dK D_Law_law_5 32 rfl) rfl rfl ?_
  refine bnE h (fun p72 e_p72 h => ?_)
  refine vg_cSX (pc := 667) (As := [.ref c1, V (sx (((a5 + 1)).toNat)), V (sx (((a5 + 2)).toNat)), .ref c3]) (rest := []) (mc' := 2) (ms' := 12) (dK D_Law_law_5 33 rfl) K_Law_170 (fitK rfl) rfl (leK rfl) (by omega) (by omega) (tf_Law_setPrice hfl hc1 (hsn.at _) (hsn.at _) hc3 e_p72) (kcI (fun h_p72 => ?_))
  refine g_istore (pc := 670) (ls2 := [(6, V p72.1), (0, .ref (XB + 200)), (1, .ref c1), (2, .ref c2), (3, .ref c3), (4, .ref c4), (5, V a5)]) (dK D_Law_law_5 34 rfl) (ltK rfl) rfl ?_
  refine g_aloadn (pc := 672) (i0 := 2) (j := 3) (dK D_Law_law_5 35 rfl) rfl rfl ?_
  refine g_aloadn (pc := 673) (i0 := 0) (j := 1) (dK D_Law_law_5 36 rfl) rfl rfl ?_
  refine g_iload (pc := 674) (j := 6) (dK D_Law_law_5 37 rfl) rfl ?_
  refine vg_iconst (pc := 676) (dK D_Law_law_5 38 rfl) ?_
  refine vg_iadd (pc := 677) (dK D_Law_law_5 39 rfl) ?_
  refine vg_sld (pc := 678) (dK D_Law_law_5 40 rfl) hsn hi70 ?_
  refine g_aloadn (pc := 679) (i0 := 0) (j := 1) (dK D_Law_law_5 41 rfl) rfl rfl ?_
  refine g_iload (pc := 680) (j := 6) (dK D_Law_law_5 42 rfl) rfl ?_
  refine vg_iconst (pc := 682) (dK D_Law_law_5 43 rfl) ?_
  refine vg_iadd (pc := 683) (dK D_Law_law_5 44 rfl) ?_
  refine vg_sld (pc := 684) (dK D_Law_law_5 45 rfl) hsn hi71 ?_
  refine bnE h (fun p73 e_p73 h => ?_)
  refine vg_cV (pc := 685) (As := [V (sx (((a5 + 1)).toNat)), V (sx (((a5 + 2)).toNat))]) (rest := []) (mc' := 0) (ms' := 0) (dK D_Law_law_5 46 rfl) K_Law_173 (fitK rfl) (ltK rfl) hc2 rfl (leK rfl) (by omega) (by omega) (tf_Mo_setPrice hc2 (hsn.at _) (hsn.at _) e_p73) (kcI (fun h_p73 => ?_))
  refine g_istore (pc := 688) (ls2 := [(7, V p73.1), (6, V p72.1), (0, .ref (XB + 200)), (1, .ref c1), (2, .ref c2), (3, .ref c3), (4, .ref c4), (5, V a5)]) (dK D_Law_law_5 47 rfl) (ltK rfl) rfl ?_
  refine g_aloadn (pc := 690) (i0 := 2) (j := 4) (dK D_Law_law_5 48 rfl) rfl rfl ?_
  refine bnE h (fun p74 e_p74 h => ?_)
  refine vg_cV (pc := 691) (As := []) (rest := []) (mc' := 0) (ms' := 0) (dK D_Law_law_5 49 rfl) K_Law_163 (fitK rfl) (ltK rfl) hc2 rfl (leK rfl) (by omega) (by omega) (tf_Mo_thrown hc2 e_p74) (kcI (fun h_p74 => ?_))
  refine g_iload (pc := 694) (j := 1) (dK D_Law_law_6 0 rfl) rfl ?_
  refine vg_icmp_eq (pc := 696) (t := 701) (dK D_Law_law_6 1 rfl) rfl h_p74 h_p72 (fun hc77 => ?_) (fun hc77 => ?_)
  · replace h := ifP h hc77
    refine g_iload (pc := 701) (j := 1) (dK D_Law_law_6 4 rfl) rfl ?_
    refine vg_if_ne (pc := 703) (t := 718) (dK D_Law_law_6 5 rfl) rfl h_p72 (fun hc76 => ?_) (fun hc76 => ?_)
    · replace h := ifN h hc76
      refine g_goto (pc := 718) (tgt := 3073) (dK D_Law_law_6 15 rfl) rfl ?_
      refine gL_weak (ls' := [(0, .ref (XB + 200)), (1, .ref c1), (2, .ref c2), (3, .ref c3), (4, .ref c4), (5, V a5)]) (sbc 2 rfl (sbc 3 rfl (sbc 4 rfl (sbc 5 rfl (sbc 6 rfl (sbc 7 rfl sbn)))))) ?_
      exact tj_Law_law_3073 hfl hsn hc1 hc2 hc3 hc4 hx hr ih ha5 (by omega) (by omega) h
    · replace h := ifP h hc76
      refine g_aloadn (pc := 706) (i0 := 3) (j := 5) (dK D_Law_law_6 6 rfl) rfl rfl ?_
      refine vg_iconst (pc := 707) (dK D_Law_law_6 7 rfl) ?_
      refine vg_laload (pc := 708) (j := 0) (dK D_Law_law_6 8 rfl) hc3 rfl ⟨by decide, by decide⟩ rfl ?_
      refine g_iload (pc := 709) (j := 0) (dK D_Law_law_6 9 rfl) rfl ?_
      refine vg_i2l (pc := 711) (dK D_Law_law_6 10 rfl) h_p73 ?_
      refine vg_lcmp_eq (pc := 712) (t := 718) (dK D_Law_law_6 11 rfl) (dK D_Law_law_6 12 rfl) rfl (gl_in _ _ _) (inR_L h_p73) (fun hc75 => ?_) (fun hc75 => ?_)
      · replace h := ifP h hc75
        refine g_goto (pc := 718) (tgt := 3073) (dK D_Law_law_6 15 rfl) rfl ?_
        refine gL_weak (ls' := [(0, .ref (XB + 200)), (1, .ref c1), (2, .ref c2), (3, .ref c3), (4, .ref c4), (5, V a5)]) (sbc 2 rfl (sbc 3 rfl (sbc 4 rfl (sbc 5 rfl (sbc 6 rfl (sbc 7 rfl sbn)))))) ?_
        exact tj_Law_law_3073 hfl hsn hc1 hc2 hc3 hc4 hx hr ih ha5 (by omega) (by omega) h
      · replace h := ifN h hc75
        refine vg_iconst (pc := 716) (dK D_Law_law_6 13 rfl) ?_
        exact vg_iretB (pc := 717) (b := false) (dK D_Law_law_6 14 rfl) rfl (by omega) (by omega) (xf hfl) (hr _ (Option.some.inj h).symm)
  · replace h := ifN h hc77
    refine vg_iconst (pc := 699) (dK D_Law_law_6 2 rfl) ?_
    exact vg_iretB (pc := 700) (b := false) (dK D_Law_law_6 3 rfl) rfl (by omega) (by omega) (xf hfl) (hr _ (Option.some.inj h).symm)
def jf_Law_law_721 (sx : Nat → Int) (sn : Nat) (c1 : Nat) (c2 : Nat) (c3 : Nat) (c4 : Nat) (go : Int × St → Option ((Bool × St) ⊕ (St))) (a5 : Int) (S : St) : Option ((Bool × St) ⊕ (St)) := if 0 ≤ (a5 + 1) ∧ (a5 + 1) < (sn : Int) then (if 0 ≤ (a5 + 2) ∧ (a5 + 2) < (sn : Int) then (bnO (fn_Law_ad c1 (sx (((a5 + 1)).toNat)) (sx (((a5 + 2)).toNat)) c3 S) fun p81 => bnO (fn_Mo_ad c2 (sx (((a5 + 1)).toNat)) (sx (((a5 + 2)).toNat)) p81.2) fun p82 => bnO (fn_Mo_thrown c2 p82.2) fun p83 => if p83 = p81.1 then (if p81.1 = 0 then (if (gl p82.2 c3 0) = p82.1 then (jf_Law_law_3073 sx sn c1 c2 c3 c4 go a5 p82.2) else (some (.inl (false, p82.2)))) else (jf_Law_law_3073 sx sn c1 c2 c3 c4 go a5 p82.2)) else (some (.inl (false, p82.2)))) else none) else none
theorem tj_Law_law_721 {E : EV} {X : XT} (hfl : X.2.2.2 = false) {sx : Nat → Int} {sn : Nat} (hsn : ScrE E sx sn) {c1 : Nat} (hc1 : HC X 10 c1) {c2 : Nat} (hc2 : HC X 11 c2) {c3 : Nat} (hc3 : HA X 3 1 c3) {c4 : Nat} (hc4 : HA X 4 1 c4) {mc ms : Nat} {K : RK → PS → Prop} {q : (Bool × St) ⊕ (St)} (hx : ∀ p, q = .inr p → ∀ kk nn, kk ≤ mc → nn ≤ ms → Go E M_Law_law mc ms 3079 [] [] (WX X p) kk nn K) (hr : ∀ p, q = .inl p → K (.inl (some (V (bi p.1)))) (WX X p.2)) {fu : Nat} {go : Int × St → Option ((Bool × St) ⊕ (St))} (ih : ∀ a, go a = some q → inR a.1 → ∀ kk nn, kk + 2 * fu ≤ mc → nn + 12 * fu ≤ ms → Go E M_Law_law mc ms 28 [(0, .ref (XB + 200)), (1, .ref c1), (2, .ref c2), (3, .ref c3), (4, .ref c4), (5, V a.1)] [] (WX X a.2) kk nn K) {a5 : Int} (ha5 : inR a5) {S : St} {kk nn : Nat} (hkk : kk + 1 + 2 * fu ≤ mc) (hnn : nn + 6 + 12 * fu ≤ ms) (h : jf_Law_law_721 sx sn c1 c2 c3 c4 go a5 S = some q) : Go E M_Law_law mc ms 721 [(0, .ref (XB + 200)), (1, .ref c1), (2, .ref c2), (3, .ref c3), (4, .ref c4), (5, V a5)] [] (WX X S) kk nn K := by
  unfold jf_Law_law_721 at h
  refine g_aloadn (pc := 721) (i0 := 1) (j := 1) (dK D_Law_law_6 16 rfl) rfl rfl ?_
  refine g_aloadn (pc := 722) (i0 := 0) (j := 0) (dK D_Law_law_6 17 rfl) rfl rfl ?_
  refine g_iload (pc := 723) (j := 5) (dK D_Law_law_6 18 rfl) rfl ?_
  refine vg_iconst (pc := 725) (dK D_Law_law_6 19 rfl) ?_
  refine vg_iadd (pc := 726) (dK D_Law_law_6 20 rfl) ?_
  refine gdE h (fun hi79 h => ?_)
  refine vg_sld (pc := 727) (dK D_Law_law_6 21 rfl) hsn hi79 ?_
  refine g_aloadn (pc := 728) (i0 := 0) (j := 0) (dK D_Law_law_6 22 rfl) rfl rfl ?_
  refine g_iload (pc := 729) (j := 5) (dK D_Law_law_6 23 rfl) rfl ?_
  refine vg_iconst (pc := 731) (dK D_Law_law_6 24 rfl) ?_
  refine vg_iadd (pc := 732) (dK D_Law_law_6 25 rfl) ?_
  refine gdE h (fun hi80 h => ?_)
  refine vg_sld (pc := 733) (dK D_Law_law_6 26 rfl) hsn hi80 ?_
  refine g_aloadn (pc := 734) (i0 := 3) (j := 3) (dK D_Law_law_6 27 rfl) rfl rfl ?_
  refine bnE h (fun p81 e_p81 h => ?_)
  refine vg_cSX (pc := 735) (As := [.ref c1, V (sx (((a5 + 1)).toNat)), V (sx (((a5 + 2)).toNat)), .ref c3]) (rest := []) (mc' := 1) (ms' := 6) (dK D_Law_law_6 28 rfl) K_Law_174 (fitK rfl) rfl (leK rfl) (by omega) (by omega) (tf_Law_ad hfl hc1 (hsn.at _) (hsn.at _) hc3 e_p81) (kcI (fun h_p81 => ?_))
  refine g_istore (pc := 738) (ls2 := [(6, V p81.1), (0, .ref (XB + 200)), (1, .ref c1), (2, .ref c2), (3, .ref c3), (4, .ref c4), (5, V a5)]) (dK D_Law_law_6 29 rfl) (ltK rfl) rfl ?_
  refine g_aloadn (pc := 740) (i0 := 2) (j := 3) (dK D_Law_law_6 30 rfl) rfl rfl ?_
  refine g_aloadn (pc := 741) (i0 := 0) (j := 1) (dK D_Law_law_6 31 rfl) rfl rfl ?_
  refine g_iload (pc := 742) (j := 6) (dK D_Law_law_6 32 rfl) rfl ?_
  refine vg_iconst (pc := 744) (dK D_Law_law_6 33 rfl) ?_
  refine vg_iadd (pc := 745) (dK D_Law_law_6 34 rfl) ?_
  refine vg_sld (pc := 746) (dK D_Law_law_6 35 rfl) hsn hi79 ?_
  refine g_aloadn (pc := 747) (i0 := 0) (j := 1) (dK D_Law_law_6 36 rfl) rfl rfl ?_
  refine g_iload (pc := 748) (j := 6) (dK D_Law_law_6 37 rfl) rfl ?_
  refine vg_iconst (pc := 750) (dK D_Law_law_6 38 rfl) ?_
  refine vg_iadd (pc := 751) (dK D_Law_law_6 39 rfl) ?_
  refine vg_sld (pc := 752) (dK D_Law_law_6 40 rfl) hsn hi80 ?_
  refine bnE h (fun p82 e_p82 h => ?_)
  refine vg_cV (pc := 753) (As := [V (sx (((a5 + 1)).toNat)), V (sx (((a5 + 2)).toNat))]) (rest := []) (mc' := 0) (ms' := 0) (dK D_Law_law_6 41 rfl) K_Law_176 (fitK rfl) (ltK rfl) hc2 rfl (leK rfl) (by omega) (by omega) (tf_Mo_ad hc2 (hsn.at _) (hsn.at _) e_p82) (kcI (fun h_p82 => ?_))
  refine g_istore (pc := 756) (ls2 := [(7, V p82.1), (6, V p81.1), (0, .ref (XB + 200)), (1, .ref c1), (2, .ref c2), (3, .ref c3), (4, .ref c4), (5, V a5)]) (dK D_Law_law_6 42 rfl) (ltK rfl) rfl ?_
  refine g_aloadn (pc := 758) (i0 := 2) (j := 4) (dK D_Law_law_6 43 rfl) rfl rfl ?_
  refine bnE h (fun p83 e_p83 h => ?_)
  refine vg_cV (pc := 759) (As := []) (rest := []) (mc' := 0) (ms' := 0) (dK D_Law_law_6 44 rfl) K_Law_163 (fitK rfl) (ltK rfl) hc2 rfl (leK rfl) (by omega) (by omega) (tf_Mo_thrown hc2 e_p83) (kcI (fun h_p83 => ?_))
  refine g_iload (pc := 762) (j := 1) (dK D_Law_law_6 45 rfl) rfl ?_
  refine vg_icmp_eq (pc := 764) (t := 769) (dK D_Law_law_6 46 rfl) rfl h_p83 h_p81 (fun hc86 => ?_) (fun hc86 => ?_)
  · replace h := ifP h hc86
    refine g_iload (pc := 769) (j := 1) (dK D_Law_law_6 49 rfl) rfl ?_
    refine vg_if_ne (pc := 771) (t := 786) (dK D_Law_law_7 0 rfl) rfl h_p81 (fun hc85 => ?_) (fun hc85 => ?_)
    · replace h := ifN h hc85
      refine g_goto (pc := 786) (tgt := 3073) (dK D_Law_law_7 10 rfl) rfl ?_
      refine gL_weak (ls' := [(0, .ref (XB + 200)), (1, .ref c1), (2, .ref c2), (3, .ref c3), (4, .ref c4), (5, V a5)]) (sbc 2 rfl (sbc 3 rfl (sbc 4 rfl (sbc 5 rfl (sbc 6 rfl (sbc 7 rfl sbn)))))) ?_
      exact tj_Law_law_3073 hfl hsn hc1 hc2 hc3 hc4 hx hr ih ha5 (by omega) (by omega) h
    · replace h := ifP h hc85
      refine g_aloadn (pc := 774) (i0 := 3) (j := 5) (dK D_Law_law_7 1 rfl) rfl rfl ?_
      refine vg_iconst (pc := 775) (dK D_Law_law_7 2 rfl) ?_
      refine vg_laload (pc := 776) (j := 0) (dK D_Law_law_7 3 rfl) hc3 rfl ⟨by decide, by decide⟩ rfl ?_
      refine g_iload (pc := 777) (j := 0) (dK D_Law_law_7 4 rfl) rfl ?_
      refine vg_i2l (pc := 779) (dK D_Law_law_7 5 rfl) h_p82 ?_
      refine vg_lcmp_eq (pc := 780) (t := 786) (dK D_Law_law_7 6 rfl) (dK D_Law_law_7 7 rfl) rfl (gl_in _ _ _) (inR_L h_p82) (fun hc84 => ?_) (fun hc84 => ?_)
      · replace h := ifP h hc84
        refine g_goto (pc := 786) (tgt := 3073) (dK D_Law_law_7 10 rfl) rfl ?_
        refine gL_weak (ls' := [(0, .ref (XB + 200)), (1, .ref c1), (2, .ref c2), (3, .ref c3), (4, .ref c4), (5, V a5)]) (sbc 2 rfl (sbc 3 rfl (sbc 4 rfl (sbc 5 rfl (sbc 6 rfl (sbc 7 rfl sbn)))))) ?_
        exact tj_Law_law_3073 hfl hsn hc1 hc2 hc3 hc4 hx hr ih ha5 (by omega) (by omega) h
      · replace h := ifN h hc84
        refine vg_iconst (pc := 784) (dK D_Law_law_7 8 rfl) ?_
        exact vg_iretB (pc := 785) (b := false) (dK D_Law_law_7 9 rfl) rfl (by omega) (by omega) (xf hfl) (hr _ (Option.some.inj h).symm)
  · replace h := ifN h hc86
    refine vg_iconst (pc := 767) (dK D_Law_law_6 47 rfl) ?_
    exact vg_iretB (pc := 768) (b := false) (dK D_Law_law_6 48 rfl) rfl (by omega) (by omega) (xf hfl) (hr _ (Option.some.inj h).symm)
def jf_Law_law_789 (sx : Nat → Int) (sn : Nat) (c1 : Nat) (c2 : Nat) (c3 : Nat) (c4 : Nat) (go : Int × St → Option ((Bool × St) ⊕ (St))) (a5 : Int) (S : St) : Option ((Bool × St) ⊕ (St)) := if 0 ≤ (a5 + 1) ∧ (a5 + 1) < (sn : Int) then (if 0 ≤ (a5 + 2) ∧ (a5 + 2) < (sn : Int) then (bnO (fn_Law_story c1 (sx (((a5 + 1)).toNat)) (sx (((a5 + 2)).toNat)) c3 S) fun p90 => bnO (fn_Mo_story c2 (sx (((a5 + 1)).toNat)) (sx (((a5 + 2)).toNat)) p90.2) fun p91 => bnO (fn_Mo_thrown c2 p91.2) fun p92 => if p92 = p90.1 then (if p90.1 = 0 then (if (gl p91.2 c3 0) = p91.1 then (jf_Law_law_3073 sx sn c1 c2 c3 c4 go a5 p91.2) else (some (.inl (false, p91.2)))) else (jf_Law_law_3073 sx sn c1 c2 c3 c4 go a5 p91.2)) else (some (.inl (false, p91.2)))) else none) else none
theorem tj_Law_law_789 {E : EV} {X : XT} (hfl : X.2.2.2 = false) {sx : Nat → Int} {sn : Nat} (hsn : ScrE E sx sn) {c1 : Nat} (hc1 : HC X 10 c1) {c2 : Nat} (hc2 : HC X 11 c2) {c3 : Nat} (hc3 : HA X 3 1 c3) {c4 : Nat} (hc4 : HA X 4 1 c4) {mc ms : Nat} {K : RK → PS → Prop} {q : (Bool × St) ⊕ (St)} (hx : ∀ p, q = .inr p → ∀ kk nn, kk ≤ mc → nn ≤ ms → Go E M_Law_law mc ms 3079 [] [] (WX X p) kk nn K) (hr : ∀ p, q = .inl p → K (.inl (some (V (bi p.1)))) (WX X p.2)) {fu : Nat} {go : Int × St → Option ((Bool × St) ⊕ (St))} (ih : ∀ a, go a = some q → inR a.1 → ∀ kk nn, kk + 2 * fu ≤ mc → nn + 12 * fu ≤ ms → Go E M_Law_law mc ms 28 [(0, .ref (XB + 200)), (1, .ref c1), (2, .ref c2), (3, .ref c3), (4, .ref c4), (5, V a.1)] [] (WX X a.2) kk nn K) {a5 : Int} (ha5 : inR a5) {S : St} {kk nn : Nat} (hkk : kk + 1 + 2 * fu ≤ mc) (hnn : nn + 6 + 12 * fu ≤ ms) (h : jf_Law_law_789 sx sn c1 c2 c3 c4 go a5 S = some q) : Go E M_Law_law mc ms 789 [(0, .ref (XB + 200)), (1, .ref c1), (2, .ref c2), (3, .ref c3), (4, .ref c4), (5, V a5)] [] (WX X S) kk nn K := by
  unfold jf_Law_law_789 at h
  refine g_aloadn (pc := 789) (i0 := 1) (j := 1) (dK D_Law_law_7 11 rfl) rfl rfl ?_
  refine g_aloadn (pc := 790) (i0 := 0) (j := 0) (dK D_Law_law_7 12 rfl) rfl rfl ?_
  refine g_iload (pc := 791) (j := 5) (dK D_Law_law_7 13 rfl) rfl ?_
  refine vg_iconst (pc := 793) (dK D_Law_law_7 14 rfl) ?_
  refine vg_iadd (pc := 794) (dK D_Law_law_7 15 rfl) ?_
  refine gdE h (fun hi88 h => ?_)
  refine vg_sld (pc := 795) (dK D_Law_law_7 16 rfl) hsn hi88 ?_
  refine g_aloadn (pc := 796) (i0 := 0) (j := 0) (dK D_Law_law_7 17 rfl) rfl rfl ?_
  refine g_iload (pc := 797) (j := 5) (dK D_Law_law_7 18 rfl) rfl ?_
  refine vg_iconst (pc := 799) (dK D_Law_law_7 19 rfl) ?_
  refine vg_iadd (pc := 800) (dK D_Law_law_7 20 rfl) ?_
  refine gdE h (fun hi89 h => ?_)
  refine vg_sld (pc := 801) (dK D_Law_law_7 21 rfl) hsn hi89 ?_
  refine g_aloadn (pc := 802) (i0 := 3) (j := 3) (dK D_Law_law_7 22 rfl) rfl rfl ?_
  refine bnE h (fun p90 e_p90 h => ?_)
  refine vg_cSX (pc := 803) (As := [.ref c1, V (sx (((a5 + 1)).toNat)), V (sx (((a5 + 2)).toNat)), .ref c3]) (rest := []) (mc' := 1) (ms' := 6) (dK D_Law_law_7 23 rfl) K_Law_177 (fitK rfl) rfl (leK rfl) (by omega) (by omega) (tf_Law_story hfl hc1 (hsn.at _) (hsn.at _) hc3 e_p90) (kcI (fun h_p90 => ?_))
  refine g_istore (pc := 806) (ls2 := [(6, V p90.1), (0, .ref (XB + 200)), (1, .ref c1), (2, .ref c2), (3, .ref c3), (4, .ref c4), (5, V a5)]) (dK D_Law_law_7 24 rfl) (ltK rfl) rfl ?_
  refine g_aloadn (pc := 808) (i0 := 2) (j := 3) (dK D_Law_law_7 25 rfl) rfl rfl ?_
  refine g_aloadn (pc := 809) (i0 := 0) (j := 1) (dK D_Law_law_7 26 rfl) rfl rfl ?_
  refine g_iload (pc := 810) (j := 6) (dK D_Law_law_7 27 rfl) rfl ?_
  refine vg_iconst (pc := 812) (dK D_Law_law_7 28 rfl) ?_
  refine vg_iadd (pc := 813) (dK D_Law_law_7 29 rfl) ?_
  refine vg_sld (pc := 814) (dK D_Law_law_7 30 rfl) hsn hi88 ?_
  refine g_aloadn (pc := 815) (i0 := 0) (j := 1) (dK D_Law_law_7 31 rfl) rfl rfl ?_
  refine g_iload (pc := 816) (j := 6) (dK D_Law_law_7 32 rfl) rfl ?_
  refine vg_iconst (pc := 818) (dK D_Law_law_7 33 rfl) ?_
  refine vg_iadd (pc := 819) (dK D_Law_law_7 34 rfl) ?_
  refine vg_sld (pc := 820) (dK D_Law_law_7 35 rfl) hsn hi89 ?_
  refine bnE h (fun p91 e_p91 h => ?_)
  refine vg_cV (pc := 821) (As := [V (sx (((a5 + 1)).toNat)), V (sx (((a5 + 2)).toNat))]) (rest := []) (mc' := 0) (ms' := 0) (dK D_Law_law_7 36 rfl) K_Law_179 (fitK rfl) (ltK rfl) hc2 rfl (leK rfl) (by omega) (by omega) (tf_Mo_story hc2 (hsn.at _) (hsn.at _) e_p91) (kcI (fun h_p91 => ?_))
  refine g_istore (pc := 824) (ls2 := [(7, V p91.1), (6, V p90.1), (0, .ref (XB + 200)), (1, .ref c1), (2, .ref c2), (3, .ref c3), (4, .ref c4), (5, V a5)]) (dK D_Law_law_7 37 rfl) (ltK rfl) rfl ?_
  refine g_aloadn (pc := 826) (i0 := 2) (j := 4) (dK D_Law_law_7 38 rfl) rfl rfl ?_
  refine bnE h (fun p92 e_p92 h => ?_)
  refine vg_cV (pc := 827) (As := []) (rest := []) (mc' := 0) (ms' := 0) (dK D_Law_law_7 39 rfl) K_Law_163 (fitK rfl) (ltK rfl) hc2 rfl (leK rfl) (by omega) (by omega) (tf_Mo_thrown hc2 e_p92) (kcI (fun h_p92 => ?_))
  refine g_iload (pc := 830) (j := 1) (dK D_Law_law_7 40 rfl) rfl ?_
  refine vg_icmp_eq (pc := 832) (t := 837) (dK D_Law_law_7 41 rfl) rfl h_p92 h_p90 (fun hc95 => ?_) (fun hc95 => ?_)
  · replace h := ifP h hc95
    refine g_iload (pc := 837) (j := 1) (dK D_Law_law_7 44 rfl) rfl ?_
    refine vg_if_ne (pc := 839) (t := 854) (dK D_Law_law_7 45 rfl) rfl h_p90 (fun hc94 => ?_) (fun hc94 => ?_)
    · replace h := ifN h hc94
      refine g_goto (pc := 854) (tgt := 3073) (dK D_Law_law_8 5 rfl) rfl ?_
      refine gL_weak (ls' := [(0, .ref (XB + 200)), (1, .ref c1), (2, .ref c2), (3, .ref c3), (4, .ref c4), (5, V a5)]) (sbc 2 rfl (sbc 3 rfl (sbc 4 rfl (sbc 5 rfl (sbc 6 rfl (sbc 7 rfl sbn)))))) ?_
      exact tj_Law_law_3073 hfl hsn hc1 hc2 hc3 hc4 hx hr ih ha5 (by omega) (by omega) h
    · replace h := ifP h hc94
      refine g_aloadn (pc := 842) (i0 := 3) (j := 5) (dK D_Law_law_7 46 rfl) rfl rfl ?_
      refine vg_iconst (pc := 843) (dK D_Law_law_7 47 rfl) ?_
      refine vg_laload (pc := 844) (j := 0) (dK D_Law_law_7 48 rfl) hc3 rfl ⟨by decide, by decide⟩ rfl ?_
      refine g_iload (pc := 845) (j := 0) (dK D_Law_law_7 49 rfl) rfl ?_
      refine vg_i2l (pc := 847) (dK D_Law_law_8 0 rfl) h_p91 ?_
      refine vg_lcmp_eq (pc := 848) (t := 854) (dK D_Law_law_8 1 rfl) (dK D_Law_law_8 2 rfl) rfl (gl_in _ _ _) (inR_L h_p91) (fun hc93 => ?_) (fun hc93 => ?_)
      · replace h := ifP h hc93
        refine g_goto (pc := 854) (tgt := 3073) (dK D_Law_law_8 5 rfl) rfl ?_
        refine gL_weak (ls' := [(0, .ref (XB + 200)), (1, .ref c1), (2, .ref c2), (3, .ref c3), (4, .ref c4), (5, V a5)]) (sbc 2 rfl (sbc 3 rfl (sbc 4 rfl (sbc 5 rfl (sbc 6 rfl (sbc 7 rfl sbn)))))) ?_
        exact tj_Law_law_3073 hfl hsn hc1 hc2 hc3 hc4 hx hr ih ha5 (by omega) (by omega) h
      · replace h := ifN h hc93
        refine vg_iconst (pc := 852) (dK D_Law_law_8 3 rfl) ?_
        exact vg_iretB (pc := 853) (b := false) (dK D_Law_law_8 4 rfl) rfl (by omega) (by omega) (xf hfl) (hr _ (Option.some.inj h).symm)
  · replace h := ifN h hc95
    refine vg_iconst (pc := 835) (dK D_Law_law_7 42 rfl) ?_
    exact vg_iretB (pc := 836) (b := false) (dK D_Law_law_7 43 rfl) rfl (by omega) (by omega) (xf hfl) (hr _ (Option.some.inj h).symm)
def jf_Law_law_857 (sx : Nat → Int) (sn : Nat) (c1 : Nat) (c2 : Nat) (c3 : Nat) (c4 : Nat) (go : Int × St → Option ((Bool × St) ⊕ (St))) (a5 : Int) (S : St) : Option ((Bool × St) ⊕ (St)) := if 0 ≤ (a5 + 1) ∧ (a5 + 1) < (sn : Int) then (if 0 ≤ (a5 + 2) ∧ (a5 + 2) < (sn : Int) then (bnO (fn_Law_standby c1 (sx (((a5 + 1)).toNat)) (sx (((a5 + 2)).toNat)) c3 S) fun p99 => bnO (fn_Mo_standby c2 (sx (((a5 + 1)).toNat)) (sx (((a5 + 2)).toNat)) p99.2) fun p100 => bnO (fn_Mo_thrown c2 p100.2) fun p101 => if p101 = p99.1 then (if p99.1 = 0 then (if (gl p100.2 c3 0) = p100.1 then (jf_Law_law_3073 sx sn c1 c2 c3 c4 go a5 p100.2) else (some (.inl (false, p100.2)))) else (jf_Law_law_3073 sx sn c1 c2 c3 c4 go a5 p100.2)) else (some (.inl (false, p100.2)))) else none) else none
theorem tj_Law_law_857 {E : EV} {X : XT} (hfl : X.2.2.2 = false) {sx : Nat → Int} {sn : Nat} (hsn : ScrE E sx sn) {c1 : Nat} (hc1 : HC X 10 c1) {c2 : Nat} (hc2 : HC X 11 c2) {c3 : Nat} (hc3 : HA X 3 1 c3) {c4 : Nat} (hc4 : HA X 4 1 c4) {mc ms : Nat} {K : RK → PS → Prop} {q : (Bool × St) ⊕ (St)} (hx : ∀ p, q = .inr p → ∀ kk nn, kk ≤ mc → nn ≤ ms → Go E M_Law_law mc ms 3079 [] [] (WX X p) kk nn K) (hr : ∀ p, q = .inl p → K (.inl (some (V (bi p.1)))) (WX X p.2)) {fu : Nat} {go : Int × St → Option ((Bool × St) ⊕ (St))} (ih : ∀ a, go a = some q → inR a.1 → ∀ kk nn, kk + 2 * fu ≤ mc → nn + 12 * fu ≤ ms → Go E M_Law_law mc ms 28 [(0, .ref (XB + 200)), (1, .ref c1), (2, .ref c2), (3, .ref c3), (4, .ref c4), (5, V a.1)] [] (WX X a.2) kk nn K) {a5 : Int} (ha5 : inR a5) {S : St} {kk nn : Nat} (hkk : kk + 1 + 2 * fu ≤ mc) (hnn : nn + 6 + 12 * fu ≤ ms) (h : jf_Law_law_857 sx sn c1 c2 c3 c4 go a5 S = some q) : Go E M_Law_law mc ms 857 [(0, .ref (XB + 200)), (1, .ref c1), (2, .ref c2), (3, .ref c3), (4, .ref c4), (5, V a5)] [] (WX X S) kk nn K := by
  unfold jf_Law_law_857 at h
  refine g_aloadn (pc := 857) (i0 := 1) (j := 1) (dK D_Law_law_8 6 rfl) rfl rfl ?_
  refine g_aloadn (pc := 858) (i0 := 0) (j := 0) (dK D_Law_law_8 7 rfl) rfl rfl ?_
  refine g_iload (pc := 859) (j := 5) (dK D_Law_law_8 8 rfl) rfl ?_
  refine vg_iconst (pc := 861) (dK D_Law_law_8 9 rfl) ?_
  refine vg_iadd (pc := 862) (dK D_Law_law_8 10 rfl) ?_
  refine gdE h (fun hi97 h => ?_)
  refine vg_sld (pc := 863) (dK D_Law_law_8 11 rfl) hsn hi97 ?_
  refine g_aloadn (pc := 864) (i0 := 0) (j := 0) (dK D_Law_law_8 12 rfl) rfl rfl ?_
  refine g_iload (pc := 865) (j := 5) (dK D_Law_law_8 13 rfl) rfl ?_
  refine vg_iconst (pc := 867) (dK D_Law_law_8 14 rfl) ?_
  refine vg_iadd (pc := 868) (dK D_Law_law_8 15 rfl) ?_
  refine gdE h (fun hi98 h => ?_)
  refine vg_sld (pc := 869) (dK D_Law_law_8 16 rfl) hsn hi98 ?_
  refine g_aloadn (pc := 870) (i0 := 3) (j := 3) (dK D_Law_law_8 17 rfl) rfl rfl ?_
  refine bnE h (fun p99 e_p99 h => ?_)
  refine vg_cSX (pc := 871) (As := [.ref c1, V (sx (((a5 + 1)).toNat)), V (sx (((a5 + 2)).toNat)), .ref c3]) (rest := []) (mc' := 1) (ms' := 6) (dK D_Law_law_8 18 rfl) K_Law_180 (fitK rfl) rfl (leK rfl) (by omega) (by omega) (tf_Law_standby hfl hc1 (hsn.at _) (hsn.at _) hc3 e_p99) (kcI (fun h_p99 => ?_))
  refine g_istore (pc := 874) (ls2 := [(6, V p99.1), (0, .ref (XB + 200)), (1, .ref c1), (2, .ref c2), (3, .ref c3), (4, .ref c4), (5, V a5)]) (dK D_Law_law_8 19 rfl) (ltK rfl) rfl ?_
  refine g_aloadn (pc := 876) (i0 := 2) (j := 3) (dK D_Law_law_8 20 rfl) rfl rfl ?_
  refine g_aloadn (pc := 877) (i0 := 0) (j := 1) (dK D_Law_law_8 21 rfl) rfl rfl ?_
  refine g_iload (pc := 878) (j := 6) (dK D_Law_law_8 22 rfl) rfl ?_
  refine vg_iconst (pc := 880) (dK D_Law_law_8 23 rfl) ?_
  refine vg_iadd (pc := 881) (dK D_Law_law_8 24 rfl) ?_
  refine vg_sld (pc := 882) (dK D_Law_law_8 25 rfl) hsn hi97 ?_
  refine g_aloadn (pc := 883) (i0 := 0) (j := 1) (dK D_Law_law_8 26 rfl) rfl rfl ?_
  refine g_iload (pc := 884) (j := 6) (dK D_Law_law_8 27 rfl) rfl ?_
  refine vg_iconst (pc := 886) (dK D_Law_law_8 28 rfl) ?_
  refine vg_iadd (pc := 887) (dK D_Law_law_8 29 rfl) ?_
  refine vg_sld (pc := 888) (dK D_Law_law_8 30 rfl) hsn hi98 ?_
  refine bnE h (fun p100 e_p100 h => ?_)
  refine vg_cV (pc := 889) (As := [V (sx (((a5 + 1)).toNat)), V (sx (((a5 + 2)).toNat))]) (rest := []) (mc' := 0) (ms' := 0) (dK D_Law_law_8 31 rfl) K_Law_182 (fitK rfl) (ltK rfl) hc2 rfl (leK rfl) (by omega) (by omega) (tf_Mo_standby hc2 (hsn.at _) (hsn.at _) e_p100) (kcI (fun h_p100 => ?_))
  refine g_istore (pc := 892) (ls2 := [(7, V p100.1), (6, V p99.1), (0, .ref (XB + 200)), (1, .ref c1), (2, .ref c2), (3, .ref c3), (4, .ref c4), (5, V a5)]) (dK D_Law_law_8 32 rfl) (ltK rfl) rfl ?_
  refine g_aloadn (pc := 894) (i0 := 2) (j := 4) (dK D_Law_law_8 33 rfl) rfl rfl ?_
  refine bnE h (fun p101 e_p101 h => ?_)
  refine vg_cV (pc := 895) (As := []) (rest := []) (mc' := 0) (ms' := 0) (dK D_Law_law_8 34 rfl) K_Law_163 (fitK rfl) (ltK rfl) hc2 rfl (leK rfl) (by omega) (by omega) (tf_Mo_thrown hc2 e_p101) (kcI (fun h_p101 => ?_))
  refine g_iload (pc := 898) (j := 1) (dK D_Law_law_8 35 rfl) rfl ?_
  refine vg_icmp_eq (pc := 900) (t := 905) (dK D_Law_law_8 36 rfl) rfl h_p101 h_p99 (fun hc104 => ?_) (fun hc104 => ?_)
  · replace h := ifP h hc104
    refine g_iload (pc := 905) (j := 1) (dK D_Law_law_8 39 rfl) rfl ?_
    refine vg_if_ne (pc := 907) (t := 922) (dK D_Law_law_8 40 rfl) rfl h_p99 (fun hc103 => ?_) (fun hc103 => ?_)
    · replace h := ifN h hc103
      refine g_goto (pc := 922) (tgt := 3073) (dK D_Law_law_9 0 rfl) rfl ?_
      refine gL_weak (ls' := [(0, .ref (XB + 200)), (1, .ref c1), (2, .ref c2), (3, .ref c3), (4, .ref c4), (5, V a5)]) (sbc 2 rfl (sbc 3 rfl (sbc 4 rfl (sbc 5 rfl (sbc 6 rfl (sbc 7 rfl sbn)))))) ?_
      exact tj_Law_law_3073 hfl hsn hc1 hc2 hc3 hc4 hx hr ih ha5 (by omega) (by omega) h
    · replace h := ifP h hc103
      refine g_aloadn (pc := 910) (i0 := 3) (j := 5) (dK D_Law_law_8 41 rfl) rfl rfl ?_
      refine vg_iconst (pc := 911) (dK D_Law_law_8 42 rfl) ?_
      refine vg_laload (pc := 912) (j := 0) (dK D_Law_law_8 43 rfl) hc3 rfl ⟨by decide, by decide⟩ rfl ?_
      refine g_iload (pc := 913) (j := 0) (dK D_Law_law_8 44 rfl) rfl ?_
      refine vg_i2l (pc := 915) (dK D_Law_law_8 45 rfl) h_p100 ?_
      refine vg_lcmp_eq (pc := 916) (t := 922) (dK D_Law_law_8 46 rfl) (dK D_Law_law_8 47 rfl) rfl (gl_in _ _ _) (inR_L h_p100) (fun hc102 => ?_) (fun hc102 => ?_)
      · replace h := ifP h hc102
        refine g_goto (pc := 922) (tgt := 3073) (dK D_Law_law_9 0 rfl) rfl ?_
        refine gL_weak (ls' := [(0, .ref (XB + 200)), (1, .ref c1), (2, .ref c2), (3, .ref c3), (4, .ref c4), (5, V a5)]) (sbc 2 rfl (sbc 3 rfl (sbc 4 rfl (sbc 5 rfl (sbc 6 rfl (sbc 7 rfl sbn)))))) ?_
        exact tj_Law_law_3073 hfl hsn hc1 hc2 hc3 hc4 hx hr ih ha5 (by omega) (by omega) h
      · replace h := ifN h hc102
        refine vg_iconst (pc := 920) (dK D_Law_law_8 48 rfl) ?_
        exact vg_iretB (pc := 921) (b := false) (dK D_Law_law_8 49 rfl) rfl (by omega) (by omega) (xf hfl) (hr _ (Option.some.inj h).symm)
  · replace h := ifN h hc104
    refine vg_iconst (pc := 903) (dK D_Law_law_8 37 rfl) ?_
    exact vg_iretB (pc := 904) (b := false) (dK D_Law_law_8 38 rfl) rfl (by omega) (by omega) (xf hfl) (hr _ (Option.some.inj h).symm)
def jf_Law_law_925 (sx : Nat → Int) (sn : Nat) (c1 : Nat) (c2 : Nat) (c3 : Nat) (c4 : Nat) (go : Int × St → Option ((Bool × St) ⊕ (St))) (a5 : Int) (S : St) : Option ((Bool × St) ⊕ (St)) := if 0 ≤ (a5 + 1) ∧ (a5 + 1) < (sn : Int) then (if 0 ≤ (a5 + 2) ∧ (a5 + 2) < (sn : Int) then (bnO (fn_Law_page c1 (sx (((a5 + 1)).toNat)) (sx (((a5 + 2)).toNat)) c3 S) fun p108 => bnO (fn_Mo_page c2 (sx (((a5 + 1)).toNat)) (sx (((a5 + 2)).toNat)) p108.2) fun p109 => bnO (fn_Mo_thrown c2 p109.2) fun p110 => if p110 = p108.1 then (if p108.1 = 0 then (if (gl p109.2 c3 0) = p109.1 then (jf_Law_law_3073 sx sn c1 c2 c3 c4 go a5 p109.2) else (some (.inl (false, p109.2)))) else (jf_Law_law_3073 sx sn c1 c2 c3 c4 go a5 p109.2)) else (some (.inl (false, p109.2)))) else none) else none
theorem tj_Law_law_925 {E : EV} {X : XT} (hfl : X.2.2.2 = false) {sx : Nat → Int} {sn : Nat} (hsn : ScrE E sx sn) {c1 : Nat} (hc1 : HC X 10 c1) {c2 : Nat} (hc2 : HC X 11 c2) {c3 : Nat} (hc3 : HA X 3 1 c3) {c4 : Nat} (hc4 : HA X 4 1 c4) {mc ms : Nat} {K : RK → PS → Prop} {q : (Bool × St) ⊕ (St)} (hx : ∀ p, q = .inr p → ∀ kk nn, kk ≤ mc → nn ≤ ms → Go E M_Law_law mc ms 3079 [] [] (WX X p) kk nn K) (hr : ∀ p, q = .inl p → K (.inl (some (V (bi p.1)))) (WX X p.2)) {fu : Nat} {go : Int × St → Option ((Bool × St) ⊕ (St))} (ih : ∀ a, go a = some q → inR a.1 → ∀ kk nn, kk + 2 * fu ≤ mc → nn + 12 * fu ≤ ms → Go E M_Law_law mc ms 28 [(0, .ref (XB + 200)), (1, .ref c1), (2, .ref c2), (3, .ref c3), (4, .ref c4), (5, V a.1)] [] (WX X a.2) kk nn K) {a5 : Int} (ha5 : inR a5) {S : St} {kk nn : Nat} (hkk : kk + 1 + 2 * fu ≤ mc) (hnn : nn + 6 + 12 * fu ≤ ms) (h : jf_Law_law_925 sx sn c1 c2 c3 c4 go a5 S = some q) : Go E M_Law_law mc ms 925 [(0, .ref (XB + 200)), (1, .ref c1), (2, .ref c2), (3, .ref c3), (4, .ref c4), (5, V a5)] [] (WX X S) kk nn K := by
  unfold jf_Law_law_925 at h
  refine g_aloadn (pc := 925) (i0 := 1) (j := 1) (dK D_Law_law_9 1 rfl) rfl rfl ?_
  refine g_aloadn (pc := 926) (i0 := 0) (j := 0) (dK D_Law_law_9 2 rfl) rfl rfl ?_
  refine g_iload (pc := 927) (j := 5) (dK D_Law_law_9 3 rfl) rfl ?_
  refine vg_iconst (pc := 929) (dK D_Law_law_9 4 rfl) ?_
  refine vg_iadd (pc := 930) (dK D_Law_law_9 5 rfl) ?_
  refine gdE h (fun hi106 h => ?_)
  refine vg_sld (pc := 931) (dK D_Law_law_9 6 rfl) hsn hi106 ?_
  refine g_aloadn (pc := 932) (i0 := 0) (j := 0) (dK D_Law_law_9 7 rfl) rfl rfl ?_
  refine g_iload (pc := 933) (j := 5) (dK D_Law_law_9 8 rfl) rfl ?_
  refine vg_iconst (pc := 935) (dK D_Law_law_9 9 rfl) ?_
  refine vg_iadd (pc := 936) (dK D_Law_law_9 10 rfl) ?_
  refine gdE h (fun hi107 h => ?_)
  refine vg_sld (pc := 937) (dK D_Law_law_9 11 rfl) hsn hi107 ?_
  refine g_aloadn (pc := 938) (i0 := 3) (j := 3) (dK D_Law_law_9 12 rfl) rfl rfl ?_
  refine bnE h (fun p108 e_p108 h => ?_)
  refine vg_cSX (pc := 939) (As := [.ref c1, V (sx (((a5 + 1)).toNat)), V (sx (((a5 + 2)).toNat)), .ref c3]) (rest := []) (mc' := 1) (ms' := 6) (dK D_Law_law_9 13 rfl) K_Law_183 (fitK rfl) rfl (leK rfl) (by omega) (by omega) (tf_Law_page hfl hc1 (hsn.at _) (hsn.at _) hc3 e_p108) (kcI (fun h_p108 => ?_))
  refine g_istore (pc := 942) (ls2 := [(6, V p108.1), (0, .ref (XB + 200)), (1, .ref c1), (2, .ref c2), (3, .ref c3), (4, .ref c4), (5, V a5)]) (dK D_Law_law_9 14 rfl) (ltK rfl) rfl ?_
  refine g_aloadn (pc := 944) (i0 := 2) (j := 3) (dK D_Law_law_9 15 rfl) rfl rfl ?_
  refine g_aloadn (pc := 945) (i0 := 0) (j := 1) (dK D_Law_law_9 16 rfl) rfl rfl ?_
  refine g_iload (pc := 946) (j := 6) (dK D_Law_law_9 17 rfl) rfl ?_
  refine vg_iconst (pc := 948) (dK D_Law_law_9 18 rfl) ?_
  refine vg_iadd (pc := 949) (dK D_Law_law_9 19 rfl) ?_
  refine vg_sld (pc := 950) (dK D_Law_law_9 20 rfl) hsn hi106 ?_
  refine g_aloadn (pc := 951) (i0 := 0) (j := 1) (dK D_Law_law_9 21 rfl) rfl rfl ?_
  refine g_iload (pc := 952) (j := 6) (dK D_Law_law_9 22 rfl) rfl ?_
  refine vg_iconst (pc := 954) (dK D_Law_law_9 23 rfl) ?_
  refine vg_iadd (pc := 955) (dK D_Law_law_9 24 rfl) ?_
  refine vg_sld (pc := 956) (dK D_Law_law_9 25 rfl) hsn hi107 ?_
  refine bnE h (fun p109 e_p109 h => ?_)
  refine vg_cV (pc := 957) (As := [V (sx (((a5 + 1)).toNat)), V (sx (((a5 + 2)).toNat))]) (rest := []) (mc' := 0) (ms' := 0) (dK D_Law_law_9 26 rfl) K_Law_185 (fitK rfl) (ltK rfl) hc2 rfl (leK rfl) (by omega) (by omega) (tf_Mo_page hc2 (hsn.at _) (hsn.at _) e_p109) (kcI (fun h_p109 => ?_))
  refine g_istore (pc := 960) (ls2 := [(7, V p109.1), (6, V p108.1), (0, .ref (XB + 200)), (1, .ref c1), (2, .ref c2), (3, .ref c3), (4, .ref c4), (5, V a5)]) (dK D_Law_law_9 27 rfl) (ltK rfl) rfl ?_
  refine g_aloadn (pc := 962) (i0 := 2) (j := 4) (dK D_Law_law_9 28 rfl) rfl rfl ?_
  refine bnE h (fun p110 e_p110 h => ?_)
  refine vg_cV (pc := 963) (As := []) (rest := []) (mc' := 0) (ms' := 0) (dK D_Law_law_9 29 rfl) K_Law_163 (fitK rfl) (ltK rfl) hc2 rfl (leK rfl) (by omega) (by omega) (tf_Mo_thrown hc2 e_p110) (kcI (fun h_p110 => ?_))
  refine g_iload (pc := 966) (j := 1) (dK D_Law_law_9 30 rfl) rfl ?_
  refine vg_icmp_eq (pc := 968) (t := 973) (dK D_Law_law_9 31 rfl) rfl h_p110 h_p108 (fun hc113 => ?_) (fun hc113 => ?_)
  · replace h := ifP h hc113
    refine g_iload (pc := 973) (j := 1) (dK D_Law_law_9 34 rfl) rfl ?_
    refine vg_if_ne (pc := 975) (t := 990) (dK D_Law_law_9 35 rfl) rfl h_p108 (fun hc112 => ?_) (fun hc112 => ?_)
    · replace h := ifN h hc112
      refine g_goto (pc := 990) (tgt := 3073) (dK D_Law_law_9 45 rfl) rfl ?_
      refine gL_weak (ls' := [(0, .ref (XB + 200)), (1, .ref c1), (2, .ref c2), (3, .ref c3), (4, .ref c4), (5, V a5)]) (sbc 2 rfl (sbc 3 rfl (sbc 4 rfl (sbc 5 rfl (sbc 6 rfl (sbc 7 rfl sbn)))))) ?_
      exact tj_Law_law_3073 hfl hsn hc1 hc2 hc3 hc4 hx hr ih ha5 (by omega) (by omega) h
    · replace h := ifP h hc112
      refine g_aloadn (pc := 978) (i0 := 3) (j := 5) (dK D_Law_law_9 36 rfl) rfl rfl ?_
      refine vg_iconst (pc := 979) (dK D_Law_law_9 37 rfl) ?_
      refine vg_laload (pc := 980) (j := 0) (dK D_Law_law_9 38 rfl) hc3 rfl ⟨by decide, by decide⟩ rfl ?_
      refine g_iload (pc := 981) (j := 0) (dK D_Law_law_9 39 rfl) rfl ?_
      refine vg_i2l (pc := 983) (dK D_Law_law_9 40 rfl) h_p109 ?_
      refine vg_lcmp_eq (pc := 984) (t := 990) (dK D_Law_law_9 41 rfl) (dK D_Law_law_9 42 rfl) rfl (gl_in _ _ _) (inR_L h_p109) (fun hc111 => ?_) (fun hc111 => ?_)
      · replace h := ifP h hc111
        refine g_goto (pc := 990) (tgt := 3073) (dK D_Law_law_9 45 rfl) rfl ?_
        refine gL_weak (ls' := [(0, .ref (XB + 200)), (1, .ref c1), (2, .ref c2), (3, .ref c3), (4, .ref c4), (5, V a5)]) (sbc 2 rfl (sbc 3 rfl (sbc 4 rfl (sbc 5 rfl (sbc 6 rfl (sbc 7 rfl sbn)))))) ?_
        exact tj_Law_law_3073 hfl hsn hc1 hc2 hc3 hc4 hx hr ih ha5 (by omega) (by omega) h
      · replace h := ifN h hc111
        refine vg_iconst (pc := 988) (dK D_Law_law_9 43 rfl) ?_
        exact vg_iretB (pc := 989) (b := false) (dK D_Law_law_9 44 rfl) rfl (by omega) (by omega) (xf hfl) (hr _ (Option.some.inj h).symm)
  · replace h := ifN h hc113
    refine vg_iconst (pc := 971) (dK D_Law_law_9 32 rfl) ?_
    exact vg_iretB (pc := 972) (b := false) (dK D_Law_law_9 33 rfl) rfl (by omega) (by omega) (xf hfl) (hr _ (Option.some.inj h).symm)
def jf_Law_law_993 (sx : Nat → Int) (sn : Nat) (c1 : Nat) (c2 : Nat) (c3 : Nat) (c4 : Nat) (go : Int × St → Option ((Bool × St) ⊕ (St))) (a5 : Int) (S : St) : Option ((Bool × St) ⊕ (St)) := if 0 ≤ (a5 + 1) ∧ (a5 + 1) < (sn : Int) then (if 0 ≤ (a5 + 2) ∧ (a5 + 2) < (sn : Int) then (bnO (fn_Law_adOn c1 (sx (((a5 + 1)).toNat)) (sx (((a5 + 2)).toNat)) c3 S) fun p117 => bnO (fn_Mo_adOn c2 (sx (((a5 + 1)).toNat)) (sx (((a5 + 2)).toNat)) p117.2) fun p118 => bnO (fn_Mo_thrown c2 p118.2) fun p119 => if p119 = p117.1 then (if p117.1 = 0 then (if (gl p118.2 c3 0) = p118.1 then (jf_Law_law_3073 sx sn c1 c2 c3 c4 go a5 p118.2) else (some (.inl (false, p118.2)))) else (jf_Law_law_3073 sx sn c1 c2 c3 c4 go a5 p118.2)) else (some (.inl (false, p118.2)))) else none) else none
theorem tj_Law_law_993 {E : EV} {X : XT} (hfl : X.2.2.2 = false) {sx : Nat → Int} {sn : Nat} (hsn : ScrE E sx sn) {c1 : Nat} (hc1 : HC X 10 c1) {c2 : Nat} (hc2 : HC X 11 c2) {c3 : Nat} (hc3 : HA X 3 1 c3) {c4 : Nat} (hc4 : HA X 4 1 c4) {mc ms : Nat} {K : RK → PS → Prop} {q : (Bool × St) ⊕ (St)} (hx : ∀ p, q = .inr p → ∀ kk nn, kk ≤ mc → nn ≤ ms → Go E M_Law_law mc ms 3079 [] [] (WX X p) kk nn K) (hr : ∀ p, q = .inl p → K (.inl (some (V (bi p.1)))) (WX X p.2)) {fu : Nat} {go : Int × St → Option ((Bool × St) ⊕ (St))} (ih : ∀ a, go a = some q → inR a.1 → ∀ kk nn, kk + 2 * fu ≤ mc → nn + 12 * fu ≤ ms → Go E M_Law_law mc ms 28 [(0, .ref (XB + 200)), (1, .ref c1), (2, .ref c2), (3, .ref c3), (4, .ref c4), (5, V a.1)] [] (WX X a.2) kk nn K) {a5 : Int} (ha5 : inR a5) {S : St} {kk nn : Nat} (hkk : kk + 1 + 2 * fu ≤ mc) (hnn : nn + 6 + 12 * fu ≤ ms) (h : jf_Law_law_993 sx sn c1 c2 c3 c4 go a5 S = some q) : Go E M_Law_law mc ms 993 [(0, .ref (XB + 200)), (1, .ref c1), (2, .ref c2), (3, .ref c3), (4, .ref c4), (5, V a5)] [] (WX X S) kk nn K := by
  unfold jf_Law_law_993 at h
  refine g_aloadn (pc := 993) (i0 := 1) (j := 1) (dK D_Law_law_9 46 rfl) rfl rfl ?_
  refine g_aloadn (pc := 994) (i0 := 0) (j := 0) (dK D_Law_law_9 47 rfl) rfl rfl ?_
  refine g_iload (pc := 995) (j := 5) (dK D_Law_law_9 48 rfl) rfl ?_
  refine vg_iconst (pc := 997) (dK D_Law_law_9 49 rfl) ?_
  refine vg_iadd (pc := 998) (dK D_Law_law_10 0 rfl) ?_
  refine gdE h (fun hi115 h => ?_)
  refine vg_sld (pc := 999) (dK D_Law_law_10 1 rfl) hsn hi115 ?_
  refine g_aloadn (pc := 1000) (i0 := 0) (j := 0) (dK D_Law_law_10 2 rfl) rfl rfl ?_
  refine g_iload (pc := 1001) (j := 5) (dK D_Law_law_10 3 rfl) rfl ?_
  refine vg_iconst (pc := 1003) (dK D_Law_law_10 4 rfl) ?_
  refine vg_iadd (pc := 1004) (dK D_Law_law_10 5 rfl) ?_
  refine gdE h (fun hi116 h => ?_)
  refine vg_sld (pc := 1005) (dK D_Law_law_10 6 rfl) hsn hi116 ?_
  refine g_aloadn (pc := 1006) (i0 := 3) (j := 3) (dK D_Law_law_10 7 rfl) rfl rfl ?_
  refine bnE h (fun p117 e_p117 h => ?_)
  refine vg_cSX (pc := 1007) (As := [.ref c1, V (sx (((a5 + 1)).toNat)), V (sx (((a5 + 2)).toNat)), .ref c3]) (rest := []) (mc' := 1) (ms' := 6) (dK D_Law_law_10 8 rfl) K_Law_186 (fitK rfl) rfl (leK rfl) (by omega) (by omega) (tf_Law_adOn hfl hc1 (hsn.at _) (hsn.at _) hc3 e_p117) (kcI (fun h_p117 => ?_))
  refine g_istore (pc := 1010) (ls2 := [(6, V p117.1), (0, .ref (XB + 200)), (1, .ref c1), (2, .ref c2), (3, .ref c3), (4, .ref c4), (5, V a5)]) (dK D_Law_law_10 9 rfl) (ltK rfl) rfl ?_
  refine g_aloadn (pc := 1012) (i0 := 2) (j := 3) (dK D_Law_law_10 10 rfl) rfl rfl ?_
  refine g_aloadn (pc := 1013) (i0 := 0) (j := 1) (dK D_Law_law_10 11 rfl) rfl rfl ?_
  refine g_iload (pc := 1014) (j := 6) (dK D_Law_law_10 12 rfl) rfl ?_
  refine vg_iconst (pc := 1016) (dK D_Law_law_10 13 rfl) ?_
  refine vg_iadd (pc := 1017) (dK D_Law_law_10 14 rfl) ?_
  refine vg_sld (pc := 1018) (dK D_Law_law_10 15 rfl) hsn hi115 ?_
  refine g_aloadn (pc := 1019) (i0 := 0) (j := 1) (dK D_Law_law_10 16 rfl) rfl rfl ?_
  refine g_iload (pc := 1020) (j := 6) (dK D_Law_law_10 17 rfl) rfl ?_
  refine vg_iconst (pc := 1022) (dK D_Law_law_10 18 rfl) ?_
  refine vg_iadd (pc := 1023) (dK D_Law_law_10 19 rfl) ?_
  refine vg_sld (pc := 1024) (dK D_Law_law_10 20 rfl) hsn hi116 ?_
  refine bnE h (fun p118 e_p118 h => ?_)
  refine vg_cV (pc := 1025) (As := [V (sx (((a5 + 1)).toNat)), V (sx (((a5 + 2)).toNat))]) (rest := []) (mc' := 0) (ms' := 0) (dK D_Law_law_10 21 rfl) K_Law_188 (fitK rfl) (ltK rfl) hc2 rfl (leK rfl) (by omega) (by omega) (tf_Mo_adOn hc2 (hsn.at _) (hsn.at _) e_p118) (kcI (fun h_p118 => ?_))
  refine g_istore (pc := 1028) (ls2 := [(7, V p118.1), (6, V p117.1), (0, .ref (XB + 200)), (1, .ref c1), (2, .ref c2), (3, .ref c3), (4, .ref c4), (5, V a5)]) (dK D_Law_law_10 22 rfl) (ltK rfl) rfl ?_
  refine g_aloadn (pc := 1030) (i0 := 2) (j := 4) (dK D_Law_law_10 23 rfl) rfl rfl ?_
  refine bnE h (fun p119 e_p119 h => ?_)
  refine vg_cV (pc := 1031) (As := []) (rest := []) (mc' := 0) (ms' := 0) (dK D_Law_law_10 24 rfl) K_Law_163 (fitK rfl) (ltK rfl) hc2 rfl (leK rfl) (by omega) (by omega) (tf_Mo_thrown hc2 e_p119) (kcI (fun h_p119 => ?_))
  refine g_iload (pc := 1034) (j := 1) (dK D_Law_law_10 25 rfl) rfl ?_
  refine vg_icmp_eq (pc := 1036) (t := 1041) (dK D_Law_law_10 26 rfl) rfl h_p119 h_p117 (fun hc122 => ?_) (fun hc122 => ?_)
  · replace h := ifP h hc122
    refine g_iload (pc := 1041) (j := 1) (dK D_Law_law_10 29 rfl) rfl ?_
    refine vg_if_ne (pc := 1043) (t := 1058) (dK D_Law_law_10 30 rfl) rfl h_p117 (fun hc121 => ?_) (fun hc121 => ?_)
    · replace h := ifN h hc121
      refine g_goto (pc := 1058) (tgt := 3073) (dK D_Law_law_10 40 rfl) rfl ?_
      refine gL_weak (ls' := [(0, .ref (XB + 200)), (1, .ref c1), (2, .ref c2), (3, .ref c3), (4, .ref c4), (5, V a5)]) (sbc 2 rfl (sbc 3 rfl (sbc 4 rfl (sbc 5 rfl (sbc 6 rfl (sbc 7 rfl sbn)))))) ?_
      exact tj_Law_law_3073 hfl hsn hc1 hc2 hc3 hc4 hx hr ih ha5 (by omega) (by omega) h
    · replace h := ifP h hc121
      refine g_aloadn (pc := 1046) (i0 := 3) (j := 5) (dK D_Law_law_10 31 rfl) rfl rfl ?_
      refine vg_iconst (pc := 1047) (dK D_Law_law_10 32 rfl) ?_
      refine vg_laload (pc := 1048) (j := 0) (dK D_Law_law_10 33 rfl) hc3 rfl ⟨by decide, by decide⟩ rfl ?_
      refine g_iload (pc := 1049) (j := 0) (dK D_Law_law_10 34 rfl) rfl ?_
      refine vg_i2l (pc := 1051) (dK D_Law_law_10 35 rfl) h_p118 ?_
      refine vg_lcmp_eq (pc := 1052) (t := 1058) (dK D_Law_law_10 36 rfl) (dK D_Law_law_10 37 rfl) rfl (gl_in _ _ _) (inR_L h_p118) (fun hc120 => ?_) (fun hc120 => ?_)
      · replace h := ifP h hc120
        refine g_goto (pc := 1058) (tgt := 3073) (dK D_Law_law_10 40 rfl) rfl ?_
        refine gL_weak (ls' := [(0, .ref (XB + 200)), (1, .ref c1), (2, .ref c2), (3, .ref c3), (4, .ref c4), (5, V a5)]) (sbc 2 rfl (sbc 3 rfl (sbc 4 rfl (sbc 5 rfl (sbc 6 rfl (sbc 7 rfl sbn)))))) ?_
        exact tj_Law_law_3073 hfl hsn hc1 hc2 hc3 hc4 hx hr ih ha5 (by omega) (by omega) h
      · replace h := ifN h hc120
        refine vg_iconst (pc := 1056) (dK D_Law_law_10 38 rfl) ?_
        exact vg_iretB (pc := 1057) (b := false) (dK D_Law_law_10 39 rfl) rfl (by omega) (by omega) (xf hfl) (hr _ (Option.some.inj h).symm)
  · replace h := ifN h hc122
    refine vg_iconst (pc := 1039) (dK D_Law_law_10 27 rfl) ?_
    exact vg_iretB (pc := 1040) (b := false) (dK D_Law_law_10 28 rfl) rfl (by omega) (by omega) (xf hfl) (hr _ (Option.some.inj h).symm)
def jf_Law_law_1061 (sx : Nat → Int) (sn : Nat) (c1 : Nat) (c2 : Nat) (c3 : Nat) (c4 : Nat) (go : Int × St → Option ((Bool × St) ⊕ (St))) (a5 : Int) (S : St) : Option ((Bool × St) ⊕ (St)) := if 0 ≤ (a5 + 1) ∧ (a5 + 1) < (sn : Int) then (if 0 ≤ (a5 + 2) ∧ (a5 + 2) < (sn : Int) then (bnO (fn_Law_form c1 (sx (((a5 + 1)).toNat)) (sx (((a5 + 2)).toNat)) c3 S) fun p126 => bnO (fn_Mo_form c2 (sx (((a5 + 1)).toNat)) (sx (((a5 + 2)).toNat)) p126.2) fun p127 => bnO (fn_Mo_thrown c2 p127.2) fun p128 => if p128 = p126.1 then (if p126.1 = 0 then (if (gl p127.2 c3 0) = p127.1 then (jf_Law_law_3073 sx sn c1 c2 c3 c4 go a5 p127.2) else (some (.inl (false, p127.2)))) else (jf_Law_law_3073 sx sn c1 c2 c3 c4 go a5 p127.2)) else (some (.inl (false, p127.2)))) else none) else none
theorem tj_Law_law_1061 {E : EV} {X : XT} (hfl : X.2.2.2 = false) {sx : Nat → Int} {sn : Nat} (hsn : ScrE E sx sn) {c1 : Nat} (hc1 : HC X 10 c1) {c2 : Nat} (hc2 : HC X 11 c2) {c3 : Nat} (hc3 : HA X 3 1 c3) {c4 : Nat} (hc4 : HA X 4 1 c4) {mc ms : Nat} {K : RK → PS → Prop} {q : (Bool × St) ⊕ (St)} (hx : ∀ p, q = .inr p → ∀ kk nn, kk ≤ mc → nn ≤ ms → Go E M_Law_law mc ms 3079 [] [] (WX X p) kk nn K) (hr : ∀ p, q = .inl p → K (.inl (some (V (bi p.1)))) (WX X p.2)) {fu : Nat} {go : Int × St → Option ((Bool × St) ⊕ (St))} (ih : ∀ a, go a = some q → inR a.1 → ∀ kk nn, kk + 2 * fu ≤ mc → nn + 12 * fu ≤ ms → Go E M_Law_law mc ms 28 [(0, .ref (XB + 200)), (1, .ref c1), (2, .ref c2), (3, .ref c3), (4, .ref c4), (5, V a.1)] [] (WX X a.2) kk nn K) {a5 : Int} (ha5 : inR a5) {S : St} {kk nn : Nat} (hkk : kk + 1 + 2 * fu ≤ mc) (hnn : nn + 6 + 12 * fu ≤ ms) (h : jf_Law_law_1061 sx sn c1 c2 c3 c4 go a5 S = some q) : Go E M_Law_law mc ms 1061 [(0, .ref (XB + 200)), (1, .ref c1), (2, .ref c2), (3, .ref c3), (4, .ref c4), (5, V a5)] [] (WX X S) kk nn K := by
  unfold jf_Law_law_1061 at h
  refine g_aloadn (pc := 1061) (i0 := 1) (j := 1) (dK D_Law_law_10 41 rfl) rfl rfl ?_
  refine g_aloadn (pc := 1062) (i0 := 0) (j := 0) (dK D_Law_law_10 42 rfl) rfl rfl ?_
  refine g_iload (pc := 1063) (j := 5) (dK D_Law_law_10 43 rfl) rfl ?_
  refine vg_iconst (pc := 1065) (dK D_Law_law_10 44 rfl) ?_
  refine vg_iadd (pc := 1066) (dK D_Law_law_10 45 rfl) ?_
  refine gdE h (fun hi124 h => ?_)
  refine vg_sld (pc := 1067) (dK D_Law_law_10 46 rfl) hsn hi124 ?_
  refine g_aloadn (pc := 1068) (i0 := 0) (j := 0) (dK D_Law_law_10 47 rfl) rfl rfl ?_
  refine g_iload (pc := 1069) (j := 5) (dK D_Law_law_10 48 rfl) rfl ?_
  refine vg_iconst (pc := 1071) (dK D_Law_law_10 49 rfl) ?_
  refine vg_iadd (pc := 1072) (dK D_Law_law_11 0 rfl) ?_
  refine gdE h (fun hi125 h => ?_)
  refine vg_sld (pc := 1073) (dK D_Law_law_11 1 rfl) hsn hi125 ?_
  refine g_aloadn (pc := 1074) (i0 := 3) (j := 3) (dK D_Law_law_11 2 rfl) rfl rfl ?_
  refine bnE h (fun p126 e_p126 h => ?_)
  refine vg_cSX (pc := 1075) (As := [.ref c1, V (sx (((a5 + 1)).toNat)), V (sx (((a5 + 2)).toNat)), .ref c3]) (rest := []) (mc' := 1) (ms' := 6) (dK D_Law_law_11 3 rfl) K_Law_189 (fitK rfl) rfl (leK rfl) (by omega) (by omega) (tf_Law_form hfl hc1 (hsn.at _) (hsn.at _) hc3 e_p126) (kcI (fun h_p126 => ?_))
  refine g_istore (pc := 1078) (ls2 := [(6, V p126.1), (0, .ref (XB + 200)), (1, .ref c1), (2, .ref c2), (3, .ref c3), (4, .ref c4), (5, V a5)]) (dK D_Law_law_11 4 rfl) (ltK rfl) rfl ?_
  refine g_aloadn (pc := 1080) (i0 := 2) (j := 3) (dK D_Law_law_11 5 rfl) rfl rfl ?_
  refine g_aloadn (pc := 1081) (i0 := 0) (j := 1) (dK D_Law_law_11 6 rfl) rfl rfl ?_
  refine g_iload (pc := 1082) (j := 6) (dK D_Law_law_11 7 rfl) rfl ?_
  refine vg_iconst (pc := 1084) (dK D_Law_law_11 8 rfl) ?_
  refine vg_iadd (pc := 1085) (dK D_Law_law_11 9 rfl) ?_
  refine vg_sld (pc := 1086) (dK D_Law_law_11 10 rfl) hsn hi124 ?_
  refine g_aloadn (pc := 1087) (i0 := 0) (j := 1) (dK D_Law_law_11 11 rfl) rfl rfl ?_
  refine g_iload (pc := 1088) (j := 6) (dK D_Law_law_11 12 rfl) rfl ?_
  refine vg_iconst (pc := 1090) (dK D_Law_law_11 13 rfl) ?_
  refine vg_iadd (pc := 1091) (dK D_Law_law_11 14 rfl) ?_
  refine vg_sld (pc := 1092) (dK D_Law_law_11 15 rfl) hsn hi125 ?_
  refine bnE h (fun p127 e_p127 h => ?_)
  refine vg_cV (pc := 1093) (As := [V (sx (((a5 + 1)).toNat)), V (sx (((a5 + 2)).toNat))]) (rest := []) (mc' := 0) (ms' := 0) (dK D_Law_law_11 16 rfl) K_Law_191 (fitK rfl) (ltK rfl) hc2 rfl (leK rfl) (by omega) (by omega) (tf_Mo_form hc2 (hsn.at _) (hsn.at _) e_p127) (kcI (fun h_p127 => ?_))
  refine g_istore (pc := 1096) (ls2 := [(7, V p127.1), (6, V p126.1), (0, .ref (XB + 200)), (1, .ref c1), (2, .ref c2), (3, .ref c3), (4, .ref c4), (5, V a5)]) (dK D_Law_law_11 17 rfl) (ltK rfl) rfl ?_
  refine g_aloadn (pc := 1098) (i0 := 2) (j := 4) (dK D_Law_law_11 18 rfl) rfl rfl ?_
  refine bnE h (fun p128 e_p128 h => ?_)
  refine vg_cV (pc := 1099) (As := []) (rest := []) (mc' := 0) (ms' := 0) (dK D_Law_law_11 19 rfl) K_Law_163 (fitK rfl) (ltK rfl) hc2 rfl (leK rfl) (by omega) (by omega) (tf_Mo_thrown hc2 e_p128) (kcI (fun h_p128 => ?_))
  refine g_iload (pc := 1102) (j := 1) (dK D_Law_law_11 20 rfl) rfl ?_
  refine vg_icmp_eq (pc := 1104) (t := 1109) (dK D_Law_law_11 21 rfl) rfl h_p128 h_p126 (fun hc131 => ?_) (fun hc131 => ?_)
  · replace h := ifP h hc131
    refine g_iload (pc := 1109) (j := 1) (dK D_Law_law_11 24 rfl) rfl ?_
    refine vg_if_ne (pc := 1111) (t := 1126) (dK D_Law_law_11 25 rfl) rfl h_p126 (fun hc130 => ?_) (fun hc130 => ?_)
    · replace h := ifN h hc130
      refine g_goto (pc := 1126) (tgt := 3073) (dK D_Law_law_11 35 rfl) rfl ?_
      refine gL_weak (ls' := [(0, .ref (XB + 200)), (1, .ref c1), (2, .ref c2), (3, .ref c3), (4, .ref c4), (5, V a5)]) (sbc 2 rfl (sbc 3 rfl (sbc 4 rfl (sbc 5 rfl (sbc 6 rfl (sbc 7 rfl sbn)))))) ?_
      exact tj_Law_law_3073 hfl hsn hc1 hc2 hc3 hc4 hx hr ih ha5 (by omega) (by omega) h
    · replace h := ifP h hc130
      refine g_aloadn (pc := 1114) (i0 := 3) (j := 5) (dK D_Law_law_11 26 rfl) rfl rfl ?_
      refine vg_iconst (pc := 1115) (dK D_Law_law_11 27 rfl) ?_
      refine vg_laload (pc := 1116) (j := 0) (dK D_Law_law_11 28 rfl) hc3 rfl ⟨by decide, by decide⟩ rfl ?_
      refine g_iload (pc := 1117) (j := 0) (dK D_Law_law_11 29 rfl) rfl ?_
      refine vg_i2l (pc := 1119) (dK D_Law_law_11 30 rfl) h_p127 ?_
      refine vg_lcmp_eq (pc := 1120) (t := 1126) (dK D_Law_law_11 31 rfl) (dK D_Law_law_11 32 rfl) rfl (gl_in _ _ _) (inR_L h_p127) (fun hc129 => ?_) (fun hc129 => ?_)
      · replace h := ifP h hc129
        refine g_goto (pc := 1126) (tgt := 3073) (dK D_Law_law_11 35 rfl) rfl ?_
        refine gL_weak (ls' := [(0, .ref (XB + 200)), (1, .ref c1), (2, .ref c2), (3, .ref c3), (4, .ref c4), (5, V a5)]) (sbc 2 rfl (sbc 3 rfl (sbc 4 rfl (sbc 5 rfl (sbc 6 rfl (sbc 7 rfl sbn)))))) ?_
        exact tj_Law_law_3073 hfl hsn hc1 hc2 hc3 hc4 hx hr ih ha5 (by omega) (by omega) h
      · replace h := ifN h hc129
        refine vg_iconst (pc := 1124) (dK D_Law_law_11 33 rfl) ?_
        exact vg_iretB (pc := 1125) (b := false) (dK D_Law_law_11 34 rfl) rfl (by omega) (by omega) (xf hfl) (hr _ (Option.some.inj h).symm)
  · replace h := ifN h hc131
    refine vg_iconst (pc := 1107) (dK D_Law_law_11 22 rfl) ?_
    exact vg_iretB (pc := 1108) (b := false) (dK D_Law_law_11 23 rfl) rfl (by omega) (by omega) (xf hfl) (hr _ (Option.some.inj h).symm)
def jf_Law_law_1129 (sx : Nat → Int) (sn : Nat) (c1 : Nat) (c2 : Nat) (c3 : Nat) (c4 : Nat) (go : Int × St → Option ((Bool × St) ⊕ (St))) (a5 : Int) (S : St) : Option ((Bool × St) ⊕ (St)) := if 0 ≤ (a5 + 1) ∧ (a5 + 1) < (sn : Int) then (if 0 ≤ (a5 + 2) ∧ (a5 + 2) < (sn : Int) then (bnO (fn_Law_pageOf c1 (sx (((a5 + 1)).toNat)) (sx (((a5 + 2)).toNat)) c3 S) fun p135 => bnO (fn_Mo_pageOf c2 (sx (((a5 + 1)).toNat)) (sx (((a5 + 2)).toNat)) p135.2) fun p136 => bnO (fn_Mo_thrown c2 p136.2) fun p137 => if p137 = p135.1 then (if p135.1 = 0 then (if (gl p136.2 c3 0) = p136.1 then (jf_Law_law_3073 sx sn c1 c2 c3 c4 go a5 p136.2) else (some (.inl (false, p136.2)))) else (jf_Law_law_3073 sx sn c1 c2 c3 c4 go a5 p136.2)) else (some (.inl (false, p136.2)))) else none) else none
theorem tj_Law_law_1129 {E : EV} {X : XT} (hfl : X.2.2.2 = false) {sx : Nat → Int} {sn : Nat} (hsn : ScrE E sx sn) {c1 : Nat} (hc1 : HC X 10 c1) {c2 : Nat} (hc2 : HC X 11 c2) {c3 : Nat} (hc3 : HA X 3 1 c3) {c4 : Nat} (hc4 : HA X 4 1 c4) {mc ms : Nat} {K : RK → PS → Prop} {q : (Bool × St) ⊕ (St)} (hx : ∀ p, q = .inr p → ∀ kk nn, kk ≤ mc → nn ≤ ms → Go E M_Law_law mc ms 3079 [] [] (WX X p) kk nn K) (hr : ∀ p, q = .inl p → K (.inl (some (V (bi p.1)))) (WX X p.2)) {fu : Nat} {go : Int × St → Option ((Bool × St) ⊕ (St))} (ih : ∀ a, go a = some q → inR a.1 → ∀ kk nn, kk + 2 * fu ≤ mc → nn + 12 * fu ≤ ms → Go E M_Law_law mc ms 28 [(0, .ref (XB + 200)), (1, .ref c1), (2, .ref c2), (3, .ref c3), (4, .ref c4), (5, V a.1)] [] (WX X a.2) kk nn K) {a5 : Int} (ha5 : inR a5) {S : St} {kk nn : Nat} (hkk : kk + 1 + 2 * fu ≤ mc) (hnn : nn + 6 + 12 * fu ≤ ms) (h : jf_Law_law_1129 sx sn c1 c2 c3 c4 go a5 S = some q) : Go E M_Law_law mc ms 1129 [(0, .ref (XB + 200)), (1, .ref c1), (2, .ref c2), (3, .ref c3), (4, .ref c4), (5, V a5)] [] (WX X S) kk nn K := by
  unfold jf_Law_law_1129 at h
  refine g_aloadn (pc := 1129) (i0 := 1) (j := 1) (dK D_Law_law_11 36 rfl) rfl rfl ?_
  refine g_aloadn (pc := 1130) (i0 := 0) (j := 0) (dK D_Law_law_11 37 rfl) rfl rfl ?_
  refine g_iload (pc := 1131) (j := 5) (dK D_Law_law_11 38 rfl) rfl ?_
  refine vg_iconst (pc := 1133) (dK D_Law_law_11 39 rfl) ?_
  refine vg_iadd (pc := 1134) (dK D_Law_law_11 40 rfl) ?_
  refine gdE h (fun hi133 h => ?_)
  refine vg_sld (pc := 1135) (dK D_Law_law_11 41 rfl) hsn hi133 ?_
  refine g_aloadn (pc := 1136) (i0 := 0) (j := 0) (dK D_Law_law_11 42 rfl) rfl rfl ?_
  refine g_iload (pc := 1137) (j := 5) (dK D_Law_law_11 43 rfl) rfl ?_
  refine vg_iconst (pc := 1139) (dK D_Law_law_11 44 rfl) ?_
  refine vg_iadd (pc := 1140) (dK D_Law_law_11 45 rfl) ?_
  refine gdE h (fun hi134 h => ?_)
  refine vg_sld (pc := 1141) (dK D_Law_law_11 46 rfl) hsn hi134 ?_
  refine g_aloadn (pc := 1142) (i0 := 3) (j := 3) (dK D_Law_law_11 47 rfl) rfl rfl ?_
  refine bnE h (fun p135 e_p135 h => ?_)
  refine vg_cSX (pc := 1143) (As := [.ref c1, V (sx (((a5 + 1)).toNat)), V (sx (((a5 + 2)).toNat)), .ref c3]) (rest := []) (mc' := 1) (ms' := 6) (dK D_Law_law_11 48 rfl) K_Law_192 (fitK rfl) rfl (leK rfl) (by omega) (by omega) (tf_Law_pageOf hfl hc1 (hsn.at _) (hsn.at _) hc3 e_p135) (kcI (fun h_p135 => ?_))
  refine g_istore (pc := 1146) (ls2 := [(6, V p135.1), (0, .ref (XB + 200)), (1, .ref c1), (2, .ref c2), (3, .ref c3), (4, .ref c4), (5, V a5)]) (dK D_Law_law_11 49 rfl) (ltK rfl) rfl ?_
  refine g_aloadn (pc := 1148) (i0 := 2) (j := 3) (dK D_Law_law_12 0 rfl) rfl rfl ?_
  refine g_aloadn (pc := 1149) (i0 := 0) (j := 1) (dK D_Law_law_12 1 rfl) rfl rfl ?_
  refine g_iload (pc := 1150) (j := 6) (dK D_Law_law_12 2 rfl) rfl ?_
  refine vg_iconst (pc := 1152) (dK D_Law_law_12 3 rfl) ?_
  refine vg_iadd (pc := 1153) (dK D_Law_law_12 4 rfl) ?_
  refine vg_sld (pc := 1154) (dK D_Law_law_12 5 rfl) hsn hi133 ?_
  refine g_aloadn (pc := 1155) (i0 := 0) (j := 1) (dK D_Law_law_12 6 rfl) rfl rfl ?_
  refine g_iload (pc := 1156) (j := 6) (dK D_Law_law_12 7 rfl) rfl ?_
  refine vg_iconst (pc := 1158) (dK D_Law_law_12 8 rfl) ?_
  refine vg_iadd (pc := 1159) (dK D_Law_law_12 9 rfl) ?_
  refine vg_sld (pc := 1160) (dK D_Law_law_12 10 rfl) hsn hi134 ?_
  refine bnE h (fun p136 e_p136 h => ?_)
  refine vg_cV (pc := 1161) (As := [V (sx (((a5 + 1)).toNat)), V (sx (((a5 + 2)).toNat))]) (rest := []) (mc' := 0) (ms' := 0) (dK D_Law_law_12 11 rfl) K_Law_194 (fitK rfl) (ltK rfl) hc2 rfl (leK rfl) (by omega) (by omega) (tf_Mo_pageOf hc2 (hsn.at _) (hsn.at _) e_p136) (kcI (fun h_p136 => ?_))
  refine g_istore (pc := 1164) (ls2 := [(7, V p136.1), (6, V p135.1), (0, .ref (XB + 200)), (1, .ref c1), (2, .ref c2), (3, .ref c3), (4, .ref c4), (5, V a5)]) (dK D_Law_law_12 12 rfl) (ltK rfl) rfl ?_
  refine g_aloadn (pc := 1166) (i0 := 2) (j := 4) (dK D_Law_law_12 13 rfl) rfl rfl ?_
  refine bnE h (fun p137 e_p137 h => ?_)
  refine vg_cV (pc := 1167) (As := []) (rest := []) (mc' := 0) (ms' := 0) (dK D_Law_law_12 14 rfl) K_Law_163 (fitK rfl) (ltK rfl) hc2 rfl (leK rfl) (by omega) (by omega) (tf_Mo_thrown hc2 e_p137) (kcI (fun h_p137 => ?_))
  refine g_iload (pc := 1170) (j := 1) (dK D_Law_law_12 15 rfl) rfl ?_
  refine vg_icmp_eq (pc := 1172) (t := 1177) (dK D_Law_law_12 16 rfl) rfl h_p137 h_p135 (fun hc140 => ?_) (fun hc140 => ?_)
  · replace h := ifP h hc140
    refine g_iload (pc := 1177) (j := 1) (dK D_Law_law_12 19 rfl) rfl ?_
    refine vg_if_ne (pc := 1179) (t := 1194) (dK D_Law_law_12 20 rfl) rfl h_p135 (fun hc139 => ?_) (fun hc139 => ?_)
    · replace h := ifN h hc139
      refine g_goto (pc := 1194) (tgt := 3073) (dK D_Law_law_12 30 rfl) rfl ?_
      refine gL_weak (ls' := [(0, .ref (XB + 200)), (1, .ref c1), (2, .ref c2), (3, .ref c3), (4, .ref c4), (5, V a5)]) (sbc 2 rfl (sbc 3 rfl (sbc 4 rfl (sbc 5 rfl (sbc 6 rfl (sbc 7 rfl sbn)))))) ?_
      exact tj_Law_law_3073 hfl hsn hc1 hc2 hc3 hc4 hx hr ih ha5 (by omega) (by omega) h
    · replace h := ifP h hc139
      refine g_aloadn (pc := 1182) (i0 := 3) (j := 5) (dK D_Law_law_12 21 rfl) rfl rfl ?_
      refine vg_iconst (pc := 1183) (dK D_Law_law_12 22 rfl) ?_
      refine vg_laload (pc := 1184) (j := 0) (dK D_Law_law_12 23 rfl) hc3 rfl ⟨by decide, by decide⟩ rfl ?_
      refine g_iload (pc := 1185) (j := 0) (dK D_Law_law_12 24 rfl) rfl ?_
      refine vg_i2l (pc := 1187) (dK D_Law_law_12 25 rfl) h_p136 ?_
      refine vg_lcmp_eq (pc := 1188) (t := 1194) (dK D_Law_law_12 26 rfl) (dK D_Law_law_12 27 rfl) rfl (gl_in _ _ _) (inR_L h_p136) (fun hc138 => ?_) (fun hc138 => ?_)
      · replace h := ifP h hc138
        refine g_goto (pc := 1194) (tgt := 3073) (dK D_Law_law_12 30 rfl) rfl ?_
        refine gL_weak (ls' := [(0, .ref (XB + 200)), (1, .ref c1), (2, .ref c2), (3, .ref c3), (4, .ref c4), (5, V a5)]) (sbc 2 rfl (sbc 3 rfl (sbc 4 rfl (sbc 5 rfl (sbc 6 rfl (sbc 7 rfl sbn)))))) ?_
        exact tj_Law_law_3073 hfl hsn hc1 hc2 hc3 hc4 hx hr ih ha5 (by omega) (by omega) h
      · replace h := ifN h hc138
        refine vg_iconst (pc := 1192) (dK D_Law_law_12 28 rfl) ?_
        exact vg_iretB (pc := 1193) (b := false) (dK D_Law_law_12 29 rfl) rfl (by omega) (by omega) (xf hfl) (hr _ (Option.some.inj h).symm)
  · replace h := ifN h hc140
    refine vg_iconst (pc := 1175) (dK D_Law_law_12 17 rfl) ?_
    exact vg_iretB (pc := 1176) (b := false) (dK D_Law_law_12 18 rfl) rfl (by omega) (by omega) (xf hfl) (hr _ (Option.some.inj h).symm)
def jf_Law_law_1197 (sx : Nat → Int) (sn : Nat) (c1 : Nat) (c2 : Nat) (c3 : Nat) (c4 : Nat) (go : Int × St → Option ((Bool × St) ⊕ (St))) (a5 : Int) (S : St) : Option ((Bool × St) ⊕ (St)) := if 0 ≤ (a5 + 1) ∧ (a5 + 1) < (sn : Int) then (if 0 ≤ (a5 + 2) ∧ (a5 + 2) < (sn : Int) then (bnO (fn_Law_reason c1 (sx (((a5 + 1)).toNat)) (sx (((a5 + 2)).toNat)) c3 S) fun p144 => bnO (fn_Mo_reason c2 (sx (((a5 + 1)).toNat)) (sx (((a5 + 2)).toNat)) p144.2) fun p145 => bnO (fn_Mo_thrown c2 p145.2) fun p146 => if p146 = p144.1 then (if p144.1 = 0 then (if (gl p145.2 c3 0) = p145.1 then (jf_Law_law_3073 sx sn c1 c2 c3 c4 go a5 p145.2) else (some (.inl (false, p145.2)))) else (jf_Law_law_3073 sx sn c1 c2 c3 c4 go a5 p145.2)) else (some (.inl (false, p145.2)))) else none) else none
theorem tj_Law_law_1197 {E : EV} {X : XT} (hfl : X.2.2.2 = false) {sx : Nat → Int} {sn : Nat} (hsn : ScrE E sx sn) {c1 : Nat} (hc1 : HC X 10 c1) {c2 : Nat} (hc2 : HC X 11 c2) {c3 : Nat} (hc3 : HA X 3 1 c3) {c4 : Nat} (hc4 : HA X 4 1 c4) {mc ms : Nat} {K : RK → PS → Prop} {q : (Bool × St) ⊕ (St)} (hx : ∀ p, q = .inr p → ∀ kk nn, kk ≤ mc → nn ≤ ms → Go E M_Law_law mc ms 3079 [] [] (WX X p) kk nn K) (hr : ∀ p, q = .inl p → K (.inl (some (V (bi p.1)))) (WX X p.2)) {fu : Nat} {go : Int × St → Option ((Bool × St) ⊕ (St))} (ih : ∀ a, go a = some q → inR a.1 → ∀ kk nn, kk + 2 * fu ≤ mc → nn + 12 * fu ≤ ms → Go E M_Law_law mc ms 28 [(0, .ref (XB + 200)), (1, .ref c1), (2, .ref c2), (3, .ref c3), (4, .ref c4), (5, V a.1)] [] (WX X a.2) kk nn K) {a5 : Int} (ha5 : inR a5) {S : St} {kk nn : Nat} (hkk : kk + 1 + 2 * fu ≤ mc) (hnn : nn + 6 + 12 * fu ≤ ms) (h : jf_Law_law_1197 sx sn c1 c2 c3 c4 go a5 S = some q) : Go E M_Law_law mc ms 1197 [(0, .ref (XB + 200)), (1, .ref c1), (2, .ref c2), (3, .ref c3), (4, .ref c4), (5, V a5)] [] (WX X S) kk nn K := by
  unfold jf_Law_law_1197 at h
  refine g_aloadn (pc := 1197) (i0 := 1) (j := 1) (dK D_Law_law_12 31 rfl) rfl rfl ?_
  refine g_aloadn (pc := 1198) (i0 := 0) (j := 0) (dK D_Law_law_12 32 rfl) rfl rfl ?_
  refine g_iload (pc := 1199) (j := 5) (dK D_Law_law_12 33 rfl) rfl ?_
  refine vg_iconst (pc := 1201) (dK D_Law_law_12 34 rfl) ?_
  refine vg_iadd (pc := 1202) (dK D_Law_law_12 35 rfl) ?_
  refine gdE h (fun hi142 h => ?_)
  refine vg_sld (pc := 1203) (dK D_Law_law_12 36 rfl) hsn hi142 ?_
  refine g_aloadn (pc := 1204) (i0 := 0) (j := 0) (dK D_Law_law_12 37 rfl) rfl rfl ?_
  refine g_iload (pc := 1205) (j := 5) (dK D_Law_law_12 38 rfl) rfl ?_
  refine vg_iconst (pc := 1207) (dK D_Law_law_12 39 rfl) ?_
  refine vg_iadd (pc := 1208) (dK D_Law_law_12 40 rfl) ?_
  refine gdE h (fun hi143 h => ?_)
  refine vg_sld (pc := 1209) (dK D_Law_law_12 41 rfl) hsn hi143 ?_
  refine g_aloadn (pc := 1210) (i0 := 3) (j := 3) (dK D_Law_law_12 42 rfl) rfl rfl ?_
  refine bnE h (fun p144 e_p144 h => ?_)
  refine vg_cSX (pc := 1211) (As := [.ref c1, V (sx (((a5 + 1)).toNat)), V (sx (((a5 + 2)).toNat)), .ref c3]) (rest := []) (mc' := 1) (ms' := 6) (dK D_Law_law_12 43 rfl) K_Law_195 (fitK rfl) rfl (leK rfl) (by omega) (by omega) (tf_Law_reason hfl hc1 (hsn.at _) (hsn.at _) hc3 e_p144) (kcI (fun h_p144 => ?_))
  refine g_istore (pc := 1214) (ls2 := [(6, V p144.1), (0, .ref (XB + 200)), (1, .ref c1), (2, .ref c2), (3, .ref c3), (4, .ref c4), (5, V a5)]) (dK D_Law_law_12 44 rfl) (ltK rfl) rfl ?_
  refine g_aloadn (pc := 1216) (i0 := 2) (j := 3) (dK D_Law_law_12 45 rfl) rfl rfl ?_
  refine g_aloadn (pc := 1217) (i0 := 0) (j := 1) (dK D_Law_law_12 46 rfl) rfl rfl ?_
  refine g_iload (pc := 1218) (j := 6) (dK D_Law_law_12 47 rfl) rfl ?_
  refine vg_iconst (pc := 1220) (dK D_Law_law_12 48 rfl) ?_
  refine vg_iadd (pc := 1221) (dK D_Law_law_12 49 rfl) ?_
  refine vg_sld (pc := 1222) (dK D_Law_law_13 0 rfl) hsn hi142 ?_
  refine g_aloadn (pc := 1223) (i0 := 0) (j := 1) (dK D_Law_law_13 1 rfl) rfl rfl ?_
  refine g_iload (pc := 1224) (j := 6) (dK D_Law_law_13 2 rfl) rfl ?_
  refine vg_iconst (pc := 1226) (dK D_Law_law_13 3 rfl) ?_
  refine vg_iadd (pc := 1227) (dK D_Law_law_13 4 rfl) ?_
  refine vg_sld (pc := 1228) (dK D_Law_law_13 5 rfl) hsn hi143 ?_
  refine bnE h (fun p145 e_p145 h => ?_)
  refine vg_cV (pc := 1229) (As := [V (sx (((a5 + 1)).toNat)), V (sx (((a5 + 2)).toNat))]) (rest := []) (mc' := 0) (ms' := 0) (dK D_Law_law_13 6 rfl) K_Law_197 (fitK rfl) (ltK rfl) hc2 rfl (leK rfl) (by omega) (by omega) (tf_Mo_reason hc2 (hsn.at _) (hsn.at _) e_p145) (kcI (fun h_p145 => ?_))
  refine g_istore (pc := 1232) (ls2 := [(7, V p145.1), (6, V p144.1), (0, .ref (XB + 200)), (1, .ref c1), (2, .ref c2), (3, .ref c3), (4, .ref c4), (5, V a5)]) (dK D_Law_law_13 7 rfl) (ltK rfl) rfl ?_
  refine g_aloadn (pc := 1234) (i0 := 2) (j := 4) (dK D_Law_law_13 8 rfl) rfl rfl ?_
  refine bnE h (fun p146 e_p146 h => ?_)
  refine vg_cV (pc := 1235) (As := []) (rest := []) (mc' := 0) (ms' := 0) (dK D_Law_law_13 9 rfl) K_Law_163 (fitK rfl) (ltK rfl) hc2 rfl (leK rfl) (by omega) (by omega) (tf_Mo_thrown hc2 e_p146) (kcI (fun h_p146 => ?_))
  refine g_iload (pc := 1238) (j := 1) (dK D_Law_law_13 10 rfl) rfl ?_
  refine vg_icmp_eq (pc := 1240) (t := 1245) (dK D_Law_law_13 11 rfl) rfl h_p146 h_p144 (fun hc149 => ?_) (fun hc149 => ?_)
  · replace h := ifP h hc149
    refine g_iload (pc := 1245) (j := 1) (dK D_Law_law_13 14 rfl) rfl ?_
    refine vg_if_ne (pc := 1247) (t := 1262) (dK D_Law_law_13 15 rfl) rfl h_p144 (fun hc148 => ?_) (fun hc148 => ?_)
    · replace h := ifN h hc148
      refine g_goto (pc := 1262) (tgt := 3073) (dK D_Law_law_13 25 rfl) rfl ?_
      refine gL_weak (ls' := [(0, .ref (XB + 200)), (1, .ref c1), (2, .ref c2), (3, .ref c3), (4, .ref c4), (5, V a5)]) (sbc 2 rfl (sbc 3 rfl (sbc 4 rfl (sbc 5 rfl (sbc 6 rfl (sbc 7 rfl sbn)))))) ?_
      exact tj_Law_law_3073 hfl hsn hc1 hc2 hc3 hc4 hx hr ih ha5 (by omega) (by omega) h
    · replace h := ifP h hc148
      refine g_aloadn (pc := 1250) (i0 := 3) (j := 5) (dK D_Law_law_13 16 rfl) rfl rfl ?_
      refine vg_iconst (pc := 1251) (dK D_Law_law_13 17 rfl) ?_
      refine vg_laload (pc := 1252) (j := 0) (dK D_Law_law_13 18 rfl) hc3 rfl ⟨by decide, by decide⟩ rfl ?_
      refine g_iload (pc := 1253) (j := 0) (dK D_Law_law_13 19 rfl) rfl ?_
      refine vg_i2l (pc := 1255) (dK D_Law_law_13 20 rfl) h_p145 ?_
      refine vg_lcmp_eq (pc := 1256) (t := 1262) (dK D_Law_law_13 21 rfl) (dK D_Law_law_13 22 rfl) rfl (gl_in _ _ _) (inR_L h_p145) (fun hc147 => ?_) (fun hc147 => ?_)
      · replace h := ifP h hc147
        refine g_goto (pc := 1262) (tgt := 3073) (dK D_Law_law_13 25 rfl) rfl ?_
        refine gL_weak (ls' := [(0, .ref (XB + 200)), (1, .ref c1), (2, .ref c2), (3, .ref c3), (4, .ref c4), (5, V a5)]) (sbc 2 rfl (sbc 3 rfl (sbc 4 rfl (sbc 5 rfl (sbc 6 rfl (sbc 7 rfl sbn)))))) ?_
        exact tj_Law_law_3073 hfl hsn hc1 hc2 hc3 hc4 hx hr ih ha5 (by omega) (by omega) h
      · replace h := ifN h hc147
        refine vg_iconst (pc := 1260) (dK D_Law_law_13 23 rfl) ?_
        exact vg_iretB (pc := 1261) (b := false) (dK D_Law_law_13 24 rfl) rfl (by omega) (by omega) (xf hfl) (hr _ (Option.some.inj h).symm)
  · replace h := ifN h hc149
    refine vg_iconst (pc := 1243) (dK D_Law_law_13 12 rfl) ?_
    exact vg_iretB (pc := 1244) (b := false) (dK D_Law_law_13 13 rfl) rfl (by omega) (by omega) (xf hfl) (hr _ (Option.some.inj h).symm)
def jf_Law_law_1265 (sx : Nat → Int) (sn : Nat) (c1 : Nat) (c2 : Nat) (c3 : Nat) (c4 : Nat) (go : Int × St → Option ((Bool × St) ⊕ (St))) (a5 : Int) (S : St) : Option ((Bool × St) ⊕ (St)) := if 0 ≤ (a5 + 1) ∧ (a5 + 1) < (sn : Int) then (if 0 ≤ (a5 + 2) ∧ (a5 + 2) < (sn : Int) then (bnO (fn_Law_storyReason c1 (sx (((a5 + 1)).toNat)) (sx (((a5 + 2)).toNat)) c3 S) fun p153 => bnO (fn_Mo_storyReason c2 (sx (((a5 + 1)).toNat)) (sx (((a5 + 2)).toNat)) p153.2) fun p154 => bnO (fn_Mo_thrown c2 p154.2) fun p155 => if p155 = p153.1 then (if p153.1 = 0 then (if (gl p154.2 c3 0) = p154.1 then (jf_Law_law_3073 sx sn c1 c2 c3 c4 go a5 p154.2) else (some (.inl (false, p154.2)))) else (jf_Law_law_3073 sx sn c1 c2 c3 c4 go a5 p154.2)) else (some (.inl (false, p154.2)))) else none) else none
theorem tj_Law_law_1265 {E : EV} {X : XT} (hfl : X.2.2.2 = false) {sx : Nat → Int} {sn : Nat} (hsn : ScrE E sx sn) {c1 : Nat} (hc1 : HC X 10 c1) {c2 : Nat} (hc2 : HC X 11 c2) {c3 : Nat} (hc3 : HA X 3 1 c3) {c4 : Nat} (hc4 : HA X 4 1 c4) {mc ms : Nat} {K : RK → PS → Prop} {q : (Bool × St) ⊕ (St)} (hx : ∀ p, q = .inr p → ∀ kk nn, kk ≤ mc → nn ≤ ms → Go E M_Law_law mc ms 3079 [] [] (WX X p) kk nn K) (hr : ∀ p, q = .inl p → K (.inl (some (V (bi p.1)))) (WX X p.2)) {fu : Nat} {go : Int × St → Option ((Bool × St) ⊕ (St))} (ih : ∀ a, go a = some q → inR a.1 → ∀ kk nn, kk + 2 * fu ≤ mc → nn + 12 * fu ≤ ms → Go E M_Law_law mc ms 28 [(0, .ref (XB + 200)), (1, .ref c1), (2, .ref c2), (3, .ref c3), (4, .ref c4), (5, V a.1)] [] (WX X a.2) kk nn K) {a5 : Int} (ha5 : inR a5) {S : St} {kk nn : Nat} (hkk : kk + 1 + 2 * fu ≤ mc) (hnn : nn + 6 + 12 * fu ≤ ms) (h : jf_Law_law_1265 sx sn c1 c2 c3 c4 go a5 S = some q) : Go E M_Law_law mc ms 1265 [(0, .ref (XB + 200)), (1, .ref c1), (2, .ref c2), (3, .ref c3), (4, .ref c4), (5, V a5)] [] (WX X S) kk nn K := by
  unfold jf_Law_law_1265 at h
  refine g_aloadn (pc := 1265) (i0 := 1) (j := 1) (dK D_Law_law_13 26 rfl) rfl rfl ?_
  refine g_aloadn (pc := 1266) (i0 := 0) (j := 0) (dK D_Law_law_13 27 rfl) rfl rfl ?_
  refine g_iload (pc := 1267) (j := 5) (dK D_Law_law_13 28 rfl) rfl ?_
  refine vg_iconst (pc := 1269) (dK D_Law_law_13 29 rfl) ?_
  refine vg_iadd (pc := 1270) (dK D_Law_law_13 30 rfl) ?_
  refine gdE h (fun hi151 h => ?_)
  refine vg_sld (pc := 1271) (dK D_Law_law_13 31 rfl) hsn hi151 ?_
  refine g_aloadn (pc := 1272) (i0 := 0) (j := 0) (dK D_Law_law_13 32 rfl) rfl rfl ?_
  refine g_iload (pc := 1273) (j := 5) (dK D_Law_law_13 33 rfl) rfl ?_
  refine vg_iconst (pc := 1275) (dK D_Law_law_13 34 rfl) ?_
  refine vg_iadd (pc := 1276) (dK D_Law_law_13 35 rfl) ?_
  refine gdE h (fun hi152 h => ?_)
  refine vg_sld (pc := 1277) (dK D_Law_law_13 36 rfl) hsn hi152 ?_
  refine g_aloadn (pc := 1278) (i0 := 3) (j := 3) (dK D_Law_law_13 37 rfl) rfl rfl ?_
  refine bnE h (fun p153 e_p153 h => ?_)
  refine vg_cSX (pc := 1279) (As := [.ref c1, V (sx (((a5 + 1)).toNat)), V (sx (((a5 + 2)).toNat)), .ref c3]) (rest := []) (mc' := 1) (ms' := 6) (dK D_Law_law_13 38 rfl) K_Law_198 (fitK rfl) rfl (leK rfl) (by omega) (by omega) (tf_Law_storyReason hfl hc1 (hsn.at _) (hsn.at _) hc3 e_p153) (kcI (fun h_p153 => ?_))
  refine g_istore (pc := 1282) (ls2 := [(6, V p153.1), (0, .ref (XB + 200)), (1, .ref c1), (2, .ref c2), (3, .ref c3), (4, .ref c4), (5, V a5)]) (dK D_Law_law_13 39 rfl) (ltK rfl) rfl ?_
  refine g_aloadn (pc := 1284) (i0 := 2) (j := 3) (dK D_Law_law_13 40 rfl) rfl rfl ?_
  refine g_aloadn (pc := 1285) (i0 := 0) (j := 1) (dK D_Law_law_13 41 rfl) rfl rfl ?_
  refine g_iload (pc := 1286) (j := 6) (dK D_Law_law_13 42 rfl) rfl ?_
  refine vg_iconst (pc := 1288) (dK D_Law_law_13 43 rfl) ?_
  refine vg_iadd (pc := 1289) (dK D_Law_law_13 44 rfl) ?_
  refine vg_sld (pc := 1290) (dK D_Law_law_13 45 rfl) hsn hi151 ?_
  refine g_aloadn (pc := 1291) (i0 := 0) (j := 1) (dK D_Law_law_13 46 rfl) rfl rfl ?_
  refine g_iload (pc := 1292) (j := 6) (dK D_Law_law_13 47 rfl) rfl ?_
  refine vg_iconst (pc := 1294) (dK D_Law_law_13 48 rfl) ?_
  refine vg_iadd (pc := 1295) (dK D_Law_law_13 49 rfl) ?_
  refine vg_sld (pc := 1296) (dK D_Law_law_14 0 rfl) hsn hi152 ?_
  refine bnE h (fun p154 e_p154 h => ?_)
  refine vg_cV (pc := 1297) (As := [V (sx (((a5 + 1)).toNat)), V (sx (((a5 + 2)).toNat))]) (rest := []) (mc' := 0) (ms' := 0) (dK D_Law_law_14 1 rfl) K_Law_200 (fitK rfl) (ltK rfl) hc2 rfl (leK rfl) (by omega) (by omega) (tf_Mo_storyReason hc2 (hsn.at _) (hsn.at _) e_p154) (kcI (fun h_p154 => ?_))
  refine g_istore (pc := 1300) (ls2 := [(7, V p154.1), (6, V p153.1), (0, .ref (XB + 200)), (1, .ref c1), (2, .ref c2), (3, .ref c3), (4, .ref c4), (5, V a5)]) (dK D_Law_law_14 2 rfl) (ltK rfl) rfl ?_
  refine g_aloadn (pc := 1302) (i0 := 2) (j := 4) (dK D_Law_law_14 3 rfl) rfl rfl ?_
  refine bnE h (fun p155 e_p155 h => ?_)
  refine vg_cV (pc := 1303) (As := []) (rest := []) (mc' := 0) (ms' := 0) (dK D_Law_law_14 4 rfl) K_Law_163 (fitK rfl) (ltK rfl) hc2 rfl (leK rfl) (by omega) (by omega) (tf_Mo_thrown hc2 e_p155) (kcI (fun h_p155 => ?_))
  refine g_iload (pc := 1306) (j := 1) (dK D_Law_law_14 5 rfl) rfl ?_
  refine vg_icmp_eq (pc := 1308) (t := 1313) (dK D_Law_law_14 6 rfl) rfl h_p155 h_p153 (fun hc158 => ?_) (fun hc158 => ?_)
  · replace h := ifP h hc158
    refine g_iload (pc := 1313) (j := 1) (dK D_Law_law_14 9 rfl) rfl ?_
    refine vg_if_ne (pc := 1315) (t := 1330) (dK D_Law_law_14 10 rfl) rfl h_p153 (fun hc157 => ?_) (fun hc157 => ?_)
    · replace h := ifN h hc157
      refine g_goto (pc := 1330) (tgt := 3073) (dK D_Law_law_14 20 rfl) rfl ?_
      refine gL_weak (ls' := [(0, .ref (XB + 200)), (1, .ref c1), (2, .ref c2), (3, .ref c3), (4, .ref c4), (5, V a5)]) (sbc 2 rfl (sbc 3 rfl (sbc 4 rfl (sbc 5 rfl (sbc 6 rfl (sbc 7 rfl sbn)))))) ?_
      exact tj_Law_law_3073 hfl hsn hc1 hc2 hc3 hc4 hx hr ih ha5 (by omega) (by omega) h
    · replace h := ifP h hc157
      refine g_aloadn (pc := 1318) (i0 := 3) (j := 5) (dK D_Law_law_14 11 rfl) rfl rfl ?_
      refine vg_iconst (pc := 1319) (dK D_Law_law_14 12 rfl) ?_
      refine vg_laload (pc := 1320) (j := 0) (dK D_Law_law_14 13 rfl) hc3 rfl ⟨by decide, by decide⟩ rfl ?_
      refine g_iload (pc := 1321) (j := 0) (dK D_Law_law_14 14 rfl) rfl ?_
      refine vg_i2l (pc := 1323) (dK D_Law_law_14 15 rfl) h_p154 ?_
      refine vg_lcmp_eq (pc := 1324) (t := 1330) (dK D_Law_law_14 16 rfl) (dK D_Law_law_14 17 rfl) rfl (gl_in _ _ _) (inR_L h_p154) (fun hc156 => ?_) (fun hc156 => ?_)
      · replace h := ifP h hc156
        refine g_goto (pc := 1330) (tgt := 3073) (dK D_Law_law_14 20 rfl) rfl ?_
        refine gL_weak (ls' := [(0, .ref (XB + 200)), (1, .ref c1), (2, .ref c2), (3, .ref c3), (4, .ref c4), (5, V a5)]) (sbc 2 rfl (sbc 3 rfl (sbc 4 rfl (sbc 5 rfl (sbc 6 rfl (sbc 7 rfl sbn)))))) ?_
        exact tj_Law_law_3073 hfl hsn hc1 hc2 hc3 hc4 hx hr ih ha5 (by omega) (by omega) h
      · replace h := ifN h hc156
        refine vg_iconst (pc := 1328) (dK D_Law_law_14 18 rfl) ?_
        exact vg_iretB (pc := 1329) (b := false) (dK D_Law_law_14 19 rfl) rfl (by omega) (by omega) (xf hfl) (hr _ (Option.some.inj h).symm)
  · replace h := ifN h hc158
    refine vg_iconst (pc := 1311) (dK D_Law_law_14 7 rfl) ?_
    exact vg_iretB (pc := 1312) (b := false) (dK D_Law_law_14 8 rfl) rfl (by omega) (by omega) (xf hfl) (hr _ (Option.some.inj h).symm)
def jf_Law_law_1333 (sx : Nat → Int) (sn : Nat) (c1 : Nat) (c2 : Nat) (c3 : Nat) (c4 : Nat) (go : Int × St → Option ((Bool × St) ⊕ (St))) (a5 : Int) (S : St) : Option ((Bool × St) ⊕ (St)) := if 0 ≤ (a5 + 1) ∧ (a5 + 1) < (sn : Int) then (if 0 ≤ (a5 + 2) ∧ (a5 + 2) < (sn : Int) then (bnO (fn_Law_put c1 (sx (((a5 + 1)).toNat)) (sx (((a5 + 2)).toNat)) c3 S) fun p162 => bnO (fn_Mo_put c2 (sx (((a5 + 1)).toNat)) (sx (((a5 + 2)).toNat)) p162.2) fun p163 => bnO (fn_Mo_thrown c2 p163.2) fun p164 => if p164 = p162.1 then (if p162.1 = 0 then (if (gl p163.2 c3 0) = p163.1 then (jf_Law_law_3073 sx sn c1 c2 c3 c4 go a5 p163.2) else (some (.inl (false, p163.2)))) else (jf_Law_law_3073 sx sn c1 c2 c3 c4 go a5 p163.2)) else (some (.inl (false, p163.2)))) else none) else none
theorem tj_Law_law_1333 {E : EV} {X : XT} (hfl : X.2.2.2 = false) {sx : Nat → Int} {sn : Nat} (hsn : ScrE E sx sn) {c1 : Nat} (hc1 : HC X 10 c1) {c2 : Nat} (hc2 : HC X 11 c2) {c3 : Nat} (hc3 : HA X 3 1 c3) {c4 : Nat} (hc4 : HA X 4 1 c4) {mc ms : Nat} {K : RK → PS → Prop} {q : (Bool × St) ⊕ (St)} (hx : ∀ p, q = .inr p → ∀ kk nn, kk ≤ mc → nn ≤ ms → Go E M_Law_law mc ms 3079 [] [] (WX X p) kk nn K) (hr : ∀ p, q = .inl p → K (.inl (some (V (bi p.1)))) (WX X p.2)) {fu : Nat} {go : Int × St → Option ((Bool × St) ⊕ (St))} (ih : ∀ a, go a = some q → inR a.1 → ∀ kk nn, kk + 2 * fu ≤ mc → nn + 12 * fu ≤ ms → Go E M_Law_law mc ms 28 [(0, .ref (XB + 200)), (1, .ref c1), (2, .ref c2), (3, .ref c3), (4, .ref c4), (5, V a.1)] [] (WX X a.2) kk nn K) {a5 : Int} (ha5 : inR a5) {S : St} {kk nn : Nat} (hkk : kk + 1 + 2 * fu ≤ mc) (hnn : nn + 6 + 12 * fu ≤ ms) (h : jf_Law_law_1333 sx sn c1 c2 c3 c4 go a5 S = some q) : Go E M_Law_law mc ms 1333 [(0, .ref (XB + 200)), (1, .ref c1), (2, .ref c2), (3, .ref c3), (4, .ref c4), (5, V a5)] [] (WX X S) kk nn K := by
  unfold jf_Law_law_1333 at h
  refine g_aloadn (pc := 1333) (i0 := 1) (j := 1) (dK D_Law_law_14 21 rfl) rfl rfl ?_
  refine g_aloadn (pc := 1334) (i0 := 0) (j := 0) (dK D_Law_law_14 22 rfl) rfl rfl ?_
  refine g_iload (pc := 1335) (j := 5) (dK D_Law_law_14 23 rfl) rfl ?_
  refine vg_iconst (pc := 1337) (dK D_Law_law_14 24 rfl) ?_
  refine vg_iadd (pc := 1338) (dK D_Law_law_14 25 rfl) ?_
  refine gdE h (fun hi160 h => ?_)
  refine vg_sld (pc := 1339) (dK D_Law_law_14 26 rfl) hsn hi160 ?_
  refine g_aloadn (pc := 1340) (i0 := 0) (j := 0) (dK D_Law_law_14 27 rfl) rfl rfl ?_
  refine g_iload (pc := 1341) (j := 5) (dK D_Law_law_14 28 rfl) rfl ?_
  refine vg_iconst (pc := 1343) (dK D_Law_law_14 29 rfl) ?_
  refine vg_iadd (pc := 1344) (dK D_Law_law_14 30 rfl) ?_
  refine gdE h (fun hi161 h => ?_)
  refine vg_sld (pc := 1345) (dK D_Law_law_14 31 rfl) hsn hi161 ?_
  refine g_aloadn (pc := 1346) (i0 := 3) (j := 3) (dK D_Law_law_14 32 rfl) rfl rfl ?_
  refine bnE h (fun p162 e_p162 h => ?_)
  refine vg_cSX (pc := 1347) (As := [.ref c1, V (sx (((a5 + 1)).toNat)), V (sx (((a5 + 2)).toNat)), .ref c3]) (rest := []) (mc' := 1) (ms' := 6) (dK D_Law_law_14 33 rfl) K_Law_201 (fitK rfl) rfl (leK rfl) (by omega) (by omega) (tf_Law_put hfl hc1 (hsn.at _) (hsn.at _) hc3 e_p162) (kcI (fun h_p162 => ?_))
  refine g_istore (pc := 1350) (ls2 := [(6, V p162.1), (0, .ref (XB + 200)), (1, .ref c1), (2, .ref c2), (3, .ref c3), (4, .ref c4), (5, V a5)]) (dK D_Law_law_14 34 rfl) (ltK rfl) rfl ?_
  refine g_aloadn (pc := 1352) (i0 := 2) (j := 3) (dK D_Law_law_14 35 rfl) rfl rfl ?_
  refine g_aloadn (pc := 1353) (i0 := 0) (j := 1) (dK D_Law_law_14 36 rfl) rfl rfl ?_
  refine g_iload (pc := 1354) (j := 6) (dK D_Law_law_14 37 rfl) rfl ?_
  refine vg_iconst (pc := 1356) (dK D_Law_law_14 38 rfl) ?_
  refine vg_iadd (pc := 1357) (dK D_Law_law_14 39 rfl) ?_
  refine vg_sld (pc := 1358) (dK D_Law_law_14 40 rfl) hsn hi160 ?_
  refine g_aloadn (pc := 1359) (i0 := 0) (j := 1) (dK D_Law_law_14 41 rfl) rfl rfl ?_
  refine g_iload (pc := 1360) (j := 6) (dK D_Law_law_14 42 rfl) rfl ?_
  refine vg_iconst (pc := 1362) (dK D_Law_law_14 43 rfl) ?_
  refine vg_iadd (pc := 1363) (dK D_Law_law_14 44 rfl) ?_
  refine vg_sld (pc := 1364) (dK D_Law_law_14 45 rfl) hsn hi161 ?_
  refine bnE h (fun p163 e_p163 h => ?_)
  refine vg_cV (pc := 1365) (As := [V (sx (((a5 + 1)).toNat)), V (sx (((a5 + 2)).toNat))]) (rest := []) (mc' := 0) (ms' := 0) (dK D_Law_law_14 46 rfl) K_Law_203 (fitK rfl) (ltK rfl) hc2 rfl (leK rfl) (by omega) (by omega) (tf_Mo_put hc2 (hsn.at _) (hsn.at _) e_p163) (kcI (fun h_p163 => ?_))
  refine g_istore (pc := 1368) (ls2 := [(7, V p163.1), (6, V p162.1), (0, .ref (XB + 200)), (1, .ref c1), (2, .ref c2), (3, .ref c3), (4, .ref c4), (5, V a5)]) (dK D_Law_law_14 47 rfl) (ltK rfl) rfl ?_
  refine g_aloadn (pc := 1370) (i0 := 2) (j := 4) (dK D_Law_law_14 48 rfl) rfl rfl ?_
  refine bnE h (fun p164 e_p164 h => ?_)
  refine vg_cV (pc := 1371) (As := []) (rest := []) (mc' := 0) (ms' := 0) (dK D_Law_law_14 49 rfl) K_Law_163 (fitK rfl) (ltK rfl) hc2 rfl (leK rfl) (by omega) (by omega) (tf_Mo_thrown hc2 e_p164) (kcI (fun h_p164 => ?_))
  refine g_iload (pc := 1374) (j := 1) (dK D_Law_law_15 0 rfl) rfl ?_
  refine vg_icmp_eq (pc := 1376) (t := 1381) (dK D_Law_law_15 1 rfl) rfl h_p164 h_p162 (fun hc167 => ?_) (fun hc167 => ?_)
  · replace h := ifP h hc167
    refine g_iload (pc := 1381) (j := 1) (dK D_Law_law_15 4 rfl) rfl ?_
    refine vg_if_ne (pc := 1383) (t := 1398) (dK D_Law_law_15 5 rfl) rfl h_p162 (fun hc166 => ?_) (fun hc166 => ?_)
    · replace h := ifN h hc166
      refine g_goto (pc := 1398) (tgt := 3073) (dK D_Law_law_15 15 rfl) rfl ?_
      refine gL_weak (ls' := [(0, .ref (XB + 200)), (1, .ref c1), (2, .ref c2), (3, .ref c3), (4, .ref c4), (5, V a5)]) (sbc 2 rfl (sbc 3 rfl (sbc 4 rfl (sbc 5 rfl (sbc 6 rfl (sbc 7 rfl sbn)))))) ?_
      exact tj_Law_law_3073 hfl hsn hc1 hc2 hc3 hc4 hx hr ih ha5 (by omega) (by omega) h
    · replace h := ifP h hc166
      refine g_aloadn (pc := 1386) (i0 := 3) (j := 5) (dK D_Law_law_15 6 rfl) rfl rfl ?_
      refine vg_iconst (pc := 1387) (dK D_Law_law_15 7 rfl) ?_
      refine vg_laload (pc := 1388) (j := 0) (dK D_Law_law_15 8 rfl) hc3 rfl ⟨by decide, by decide⟩ rfl ?_
      refine g_iload (pc := 1389) (j := 0) (dK D_Law_law_15 9 rfl) rfl ?_
      refine vg_i2l (pc := 1391) (dK D_Law_law_15 10 rfl) h_p163 ?_
      refine vg_lcmp_eq (pc := 1392) (t := 1398) (dK D_Law_law_15 11 rfl) (dK D_Law_law_15 12 rfl) rfl (gl_in _ _ _) (inR_L h_p163) (fun hc165 => ?_) (fun hc165 => ?_)
      · replace h := ifP h hc165
        refine g_goto (pc := 1398) (tgt := 3073) (dK D_Law_law_15 15 rfl) rfl ?_
        refine gL_weak (ls' := [(0, .ref (XB + 200)), (1, .ref c1), (2, .ref c2), (3, .ref c3), (4, .ref c4), (5, V a5)]) (sbc 2 rfl (sbc 3 rfl (sbc 4 rfl (sbc 5 rfl (sbc 6 rfl (sbc 7 rfl sbn)))))) ?_
        exact tj_Law_law_3073 hfl hsn hc1 hc2 hc3 hc4 hx hr ih ha5 (by omega) (by omega) h
      · replace h := ifN h hc165
        refine vg_iconst (pc := 1396) (dK D_Law_law_15 13 rfl) ?_
        exact vg_iretB (pc := 1397) (b := false) (dK D_Law_law_15 14 rfl) rfl (by omega) (by omega) (xf hfl) (hr _ (Option.some.inj h).symm)
  · replace h := ifN h hc167
    refine vg_iconst (pc := 1379) (dK D_Law_law_15 2 rfl) ?_
    exact vg_iretB (pc := 1380) (b := false) (dK D_Law_law_15 3 rfl) rfl (by omega) (by omega) (xf hfl) (hr _ (Option.some.inj h).symm)
def jf_Law_law_1401 (sx : Nat → Int) (sn : Nat) (c1 : Nat) (c2 : Nat) (c3 : Nat) (c4 : Nat) (go : Int × St → Option ((Bool × St) ⊕ (St))) (a5 : Int) (S : St) : Option ((Bool × St) ⊕ (St)) := if 0 ≤ (a5 + 1) ∧ (a5 + 1) < (sn : Int) then (if 0 ≤ (a5 + 2) ∧ (a5 + 2) < (sn : Int) then (bnO (fn_Law_lay c1 (sx (((a5 + 1)).toNat)) (sx (((a5 + 2)).toNat)) c3 S) fun p171 => bnO (fn_Mo_lay c2 (sx (((a5 + 1)).toNat)) (sx (((a5 + 2)).toNat)) p171.2) fun p172 => bnO (fn_Mo_thrown c2 p172.2) fun p173 => if p173 = p171.1 then (if p171.1 = 0 then (if (gl p172.2 c3 0) = p172.1 then (jf_Law_law_3073 sx sn c1 c2 c3 c4 go a5 p172.2) else (some (.inl (false, p172.2)))) else (jf_Law_law_3073 sx sn c1 c2 c3 c4 go a5 p172.2)) else (some (.inl (false, p172.2)))) else none) else none
theorem tj_Law_law_1401 {E : EV} {X : XT} (hfl : X.2.2.2 = false) {sx : Nat → Int} {sn : Nat} (hsn : ScrE E sx sn) {c1 : Nat} (hc1 : HC X 10 c1) {c2 : Nat} (hc2 : HC X 11 c2) {c3 : Nat} (hc3 : HA X 3 1 c3) {c4 : Nat} (hc4 : HA X 4 1 c4) {mc ms : Nat} {K : RK → PS → Prop} {q : (Bool × St) ⊕ (St)} (hx : ∀ p, q = .inr p → ∀ kk nn, kk ≤ mc → nn ≤ ms → Go E M_Law_law mc ms 3079 [] [] (WX X p) kk nn K) (hr : ∀ p, q = .inl p → K (.inl (some (V (bi p.1)))) (WX X p.2)) {fu : Nat} {go : Int × St → Option ((Bool × St) ⊕ (St))} (ih : ∀ a, go a = some q → inR a.1 → ∀ kk nn, kk + 2 * fu ≤ mc → nn + 12 * fu ≤ ms → Go E M_Law_law mc ms 28 [(0, .ref (XB + 200)), (1, .ref c1), (2, .ref c2), (3, .ref c3), (4, .ref c4), (5, V a.1)] [] (WX X a.2) kk nn K) {a5 : Int} (ha5 : inR a5) {S : St} {kk nn : Nat} (hkk : kk + 1 + 2 * fu ≤ mc) (hnn : nn + 6 + 12 * fu ≤ ms) (h : jf_Law_law_1401 sx sn c1 c2 c3 c4 go a5 S = some q) : Go E M_Law_law mc ms 1401 [(0, .ref (XB + 200)), (1, .ref c1), (2, .ref c2), (3, .ref c3), (4, .ref c4), (5, V a5)] [] (WX X S) kk nn K := by
  unfold jf_Law_law_1401 at h
  refine g_aloadn (pc := 1401) (i0 := 1) (j := 1) (dK D_Law_law_15 16 rfl) rfl rfl ?_
  refine g_aloadn (pc := 1402) (i0 := 0) (j := 0) (dK D_Law_law_15 17 rfl) rfl rfl ?_
  refine g_iload (pc := 1403) (j := 5) (dK D_Law_law_15 18 rfl) rfl ?_
  refine vg_iconst (pc := 1405) (dK D_Law_law_15 19 rfl) ?_
  refine vg_iadd (pc := 1406) (dK D_Law_law_15 20 rfl) ?_
  refine gdE h (fun hi169 h => ?_)
  refine vg_sld (pc := 1407) (dK D_Law_law_15 21 rfl) hsn hi169 ?_
  refine g_aloadn (pc := 1408) (i0 := 0) (j := 0) (dK D_Law_law_15 22 rfl) rfl rfl ?_
  refine g_iload (pc := 1409) (j := 5) (dK D_Law_law_15 23 rfl) rfl ?_
  refine vg_iconst (pc := 1411) (dK D_Law_law_15 24 rfl) ?_
  refine vg_iadd (pc := 1412) (dK D_Law_law_15 25 rfl) ?_
  refine gdE h (fun hi170 h => ?_)
  refine vg_sld (pc := 1413) (dK D_Law_law_15 26 rfl) hsn hi170 ?_
  refine g_aloadn (pc := 1414) (i0 := 3) (j := 3) (dK D_Law_law_15 27 rfl) rfl rfl ?_
  refine bnE h (fun p171 e_p171 h => ?_)
  refine vg_cSX (pc := 1415) (As := [.ref c1, V (sx (((a5 + 1)).toNat)), V (sx (((a5 + 2)).toNat)), .ref c3]) (rest := []) (mc' := 1) (ms' := 6) (dK D_Law_law_15 28 rfl) K_Law_204 (fitK rfl) rfl (leK rfl) (by omega) (by omega) (tf_Law_lay hfl hc1 (hsn.at _) (hsn.at _) hc3 e_p171) (kcI (fun h_p171 => ?_))
  refine g_istore (pc := 1418) (ls2 := [(6, V p171.1), (0, .ref (XB + 200)), (1, .ref c1), (2, .ref c2), (3, .ref c3), (4, .ref c4), (5, V a5)]) (dK D_Law_law_15 29 rfl) (ltK rfl) rfl ?_
  refine g_aloadn (pc := 1420) (i0 := 2) (j := 3) (dK D_Law_law_15 30 rfl) rfl rfl ?_
  refine g_aloadn (pc := 1421) (i0 := 0) (j := 1) (dK D_Law_law_15 31 rfl) rfl rfl ?_
  refine g_iload (pc := 1422) (j := 6) (dK D_Law_law_15 32 rfl) rfl ?_
  refine vg_iconst (pc := 1424) (dK D_Law_law_15 33 rfl) ?_
  refine vg_iadd (pc := 1425) (dK D_Law_law_15 34 rfl) ?_
  refine vg_sld (pc := 1426) (dK D_Law_law_15 35 rfl) hsn hi169 ?_
  refine g_aloadn (pc := 1427) (i0 := 0) (j := 1) (dK D_Law_law_15 36 rfl) rfl rfl ?_
  refine g_iload (pc := 1428) (j := 6) (dK D_Law_law_15 37 rfl) rfl ?_
  refine vg_iconst (pc := 1430) (dK D_Law_law_15 38 rfl) ?_
  refine vg_iadd (pc := 1431) (dK D_Law_law_15 39 rfl) ?_
  refine vg_sld (pc := 1432) (dK D_Law_law_15 40 rfl) hsn hi170 ?_
  refine bnE h (fun p172 e_p172 h => ?_)
  refine vg_cV (pc := 1433) (As := [V (sx (((a5 + 1)).toNat)), V (sx (((a5 + 2)).toNat))]) (rest := []) (mc' := 0) (ms' := 0) (dK D_Law_law_15 41 rfl) K_Law_206 (fitK rfl) (ltK rfl) hc2 rfl (leK rfl) (by omega) (by omega) (tf_Mo_lay hc2 (hsn.at _) (hsn.at _) e_p172) (kcI (fun h_p172 => ?_))
  refine g_istore (pc := 1436) (ls2 := [(7, V p172.1), (6, V p171.1), (0, .ref (XB + 200)), (1, .ref c1), (2, .ref c2), (3, .ref c3), (4, .ref c4), (5, V a5)]) (dK D_Law_law_15 42 rfl) (ltK rfl) rfl ?_
  refine g_aloadn (pc := 1438) (i0 := 2) (j := 4) (dK D_Law_law_15 43 rfl) rfl rfl ?_
  refine bnE h (fun p173 e_p173 h => ?_)
  refine vg_cV (pc := 1439) (As := []) (rest := []) (mc' := 0) (ms' := 0) (dK D_Law_law_15 44 rfl) K_Law_163 (fitK rfl) (ltK rfl) hc2 rfl (leK rfl) (by omega) (by omega) (tf_Mo_thrown hc2 e_p173) (kcI (fun h_p173 => ?_))
  refine g_iload (pc := 1442) (j := 1) (dK D_Law_law_15 45 rfl) rfl ?_
  refine vg_icmp_eq (pc := 1444) (t := 1449) (dK D_Law_law_15 46 rfl) rfl h_p173 h_p171 (fun hc176 => ?_) (fun hc176 => ?_)
  · replace h := ifP h hc176
    refine g_iload (pc := 1449) (j := 1) (dK D_Law_law_15 49 rfl) rfl ?_
    refine vg_if_ne (pc := 1451) (t := 1466) (dK D_Law_law_16 0 rfl) rfl h_p171 (fun hc175 => ?_) (fun hc175 => ?_)
    · replace h := ifN h hc175
      refine g_goto (pc := 1466) (tgt := 3073) (dK D_Law_law_16 10 rfl) rfl ?_
      refine gL_weak (ls' := [(0, .ref (XB + 200)), (1, .ref c1), (2, .ref c2), (3, .ref c3), (4, .ref c4), (5, V a5)]) (sbc 2 rfl (sbc 3 rfl (sbc 4 rfl (sbc 5 rfl (sbc 6 rfl (sbc 7 rfl sbn)))))) ?_
      exact tj_Law_law_3073 hfl hsn hc1 hc2 hc3 hc4 hx hr ih ha5 (by omega) (by omega) h
    · replace h := ifP h hc175
      refine g_aloadn (pc := 1454) (i0 := 3) (j := 5) (dK D_Law_law_16 1 rfl) rfl rfl ?_
      refine vg_iconst (pc := 1455) (dK D_Law_law_16 2 rfl) ?_
      refine vg_laload (pc := 1456) (j := 0) (dK D_Law_law_16 3 rfl) hc3 rfl ⟨by decide, by decide⟩ rfl ?_
      refine g_iload (pc := 1457) (j := 0) (dK D_Law_law_16 4 rfl) rfl ?_
      refine vg_i2l (pc := 1459) (dK D_Law_law_16 5 rfl) h_p172 ?_
      refine vg_lcmp_eq (pc := 1460) (t := 1466) (dK D_Law_law_16 6 rfl) (dK D_Law_law_16 7 rfl) rfl (gl_in _ _ _) (inR_L h_p172) (fun hc174 => ?_) (fun hc174 => ?_)
      · replace h := ifP h hc174
        refine g_goto (pc := 1466) (tgt := 3073) (dK D_Law_law_16 10 rfl) rfl ?_
        refine gL_weak (ls' := [(0, .ref (XB + 200)), (1, .ref c1), (2, .ref c2), (3, .ref c3), (4, .ref c4), (5, V a5)]) (sbc 2 rfl (sbc 3 rfl (sbc 4 rfl (sbc 5 rfl (sbc 6 rfl (sbc 7 rfl sbn)))))) ?_
        exact tj_Law_law_3073 hfl hsn hc1 hc2 hc3 hc4 hx hr ih ha5 (by omega) (by omega) h
      · replace h := ifN h hc174
        refine vg_iconst (pc := 1464) (dK D_Law_law_16 8 rfl) ?_
        exact vg_iretB (pc := 1465) (b := false) (dK D_Law_law_16 9 rfl) rfl (by omega) (by omega) (xf hfl) (hr _ (Option.some.inj h).symm)
  · replace h := ifN h hc176
    refine vg_iconst (pc := 1447) (dK D_Law_law_15 47 rfl) ?_
    exact vg_iretB (pc := 1448) (b := false) (dK D_Law_law_15 48 rfl) rfl (by omega) (by omega) (xf hfl) (hr _ (Option.some.inj h).symm)
def jf_Law_law_1469 (sx : Nat → Int) (sn : Nat) (c1 : Nat) (c2 : Nat) (c3 : Nat) (c4 : Nat) (go : Int × St → Option ((Bool × St) ⊕ (St))) (a5 : Int) (S : St) : Option ((Bool × St) ⊕ (St)) := if 0 ≤ (a5 + 1) ∧ (a5 + 1) < (sn : Int) then (bnO (fn_Law_take c1 (sx (((a5 + 1)).toNat)) c3 S) fun p179 => bnO (fn_Mo_take c2 (sx (((a5 + 1)).toNat)) p179.2) fun p180 => bnO (fn_Mo_thrown c2 p180.2) fun p181 => if p181 = p179.1 then (if p179.1 = 0 then (if (bi p180.1) = 0 then (if (gl p180.2 c3 0) = 0 then (jf_Law_law_3073 sx sn c1 c2 c3 c4 go a5 p180.2) else (some (.inl (false, p180.2)))) else (if (gl p180.2 c3 0) = 1 then (jf_Law_law_3073 sx sn c1 c2 c3 c4 go a5 p180.2) else (some (.inl (false, p180.2))))) else (jf_Law_law_3073 sx sn c1 c2 c3 c4 go a5 p180.2)) else (some (.inl (false, p180.2)))) else none
theorem tj_Law_law_1469 {E : EV} {X : XT} (hfl : X.2.2.2 = false) {sx : Nat → Int} {sn : Nat} (hsn : ScrE E sx sn) {c1 : Nat} (hc1 : HC X 10 c1) {c2 : Nat} (hc2 : HC X 11 c2) {c3 : Nat} (hc3 : HA X 3 1 c3) {c4 : Nat} (hc4 : HA X 4 1 c4) {mc ms : Nat} {K : RK → PS → Prop} {q : (Bool × St) ⊕ (St)} (hx : ∀ p, q = .inr p → ∀ kk nn, kk ≤ mc → nn ≤ ms → Go E M_Law_law mc ms 3079 [] [] (WX X p) kk nn K) (hr : ∀ p, q = .inl p → K (.inl (some (V (bi p.1)))) (WX X p.2)) {fu : Nat} {go : Int × St → Option ((Bool × St) ⊕ (St))} (ih : ∀ a, go a = some q → inR a.1 → ∀ kk nn, kk + 2 * fu ≤ mc → nn + 12 * fu ≤ ms → Go E M_Law_law mc ms 28 [(0, .ref (XB + 200)), (1, .ref c1), (2, .ref c2), (3, .ref c3), (4, .ref c4), (5, V a.1)] [] (WX X a.2) kk nn K) {a5 : Int} (ha5 : inR a5) {S : St} {kk nn : Nat} (hkk : kk + 1 + 2 * fu ≤ mc) (hnn : nn + 6 + 12 * fu ≤ ms) (h : jf_Law_law_1469 sx sn c1 c2 c3 c4 go a5 S = some q) : Go E M_Law_law mc ms 1469 [(0, .ref (XB + 200)), (1, .ref c1), (2, .ref c2), (3, .ref c3), (4, .ref c4), (5, V a5)] [] (WX X S) kk nn K := by
  unfold jf_Law_law_1469 at h
  refine g_aloadn (pc := 1469) (i0 := 1) (j := 1) (dK D_Law_law_16 11 rfl) rfl rfl ?_
  refine g_aloadn (pc := 1470) (i0 := 0) (j := 0) (dK D_Law_law_16 12 rfl) rfl rfl ?_
  refine g_iload (pc := 1471) (j := 5) (dK D_Law_law_16 13 rfl) rfl ?_
  refine vg_iconst (pc := 1473) (dK D_Law_law_16 14 rfl) ?_
  refine vg_iadd (pc := 1474) (dK D_Law_law_16 15 rfl) ?_
  refine gdE h (fun hi178 h => ?_)
  refine vg_sld (pc := 1475) (dK D_Law_law_16 16 rfl) hsn hi178 ?_
  refine g_aloadn (pc := 1476) (i0 := 3) (j := 3) (dK D_Law_law_16 17 rfl) rfl rfl ?_
  refine bnE h (fun p179 e_p179 h => ?_)
  refine vg_cSX (pc := 1477) (As := [.ref c1, V (sx (((a5 + 1)).toNat)), .ref c3]) (rest := []) (mc' := 1) (ms' := 6) (dK D_Law_law_16 18 rfl) K_Law_207 (fitK rfl) rfl (leK rfl) (by omega) (by omega) (tf_Law_take hfl hc1 (hsn.at _) hc3 e_p179) (kcI (fun h_p179 => ?_))
  refine g_istore (pc := 1480) (ls2 := [(6, V p179.1), (0, .ref (XB + 200)), (1, .ref c1), (2, .ref c2), (3, .ref c3), (4, .ref c4), (5, V a5)]) (dK D_Law_law_16 19 rfl) (ltK rfl) rfl ?_
  refine g_aloadn (pc := 1482) (i0 := 2) (j := 3) (dK D_Law_law_16 20 rfl) rfl rfl ?_
  refine g_aloadn (pc := 1483) (i0 := 0) (j := 1) (dK D_Law_law_16 21 rfl) rfl rfl ?_
  refine g_iload (pc := 1484) (j := 6) (dK D_Law_law_16 22 rfl) rfl ?_
  refine vg_iconst (pc := 1486) (dK D_Law_law_16 23 rfl) ?_
  refine vg_iadd (pc := 1487) (dK D_Law_law_16 24 rfl) ?_
  refine vg_sld (pc := 1488) (dK D_Law_law_16 25 rfl) hsn hi178 ?_
  refine bnE h (fun p180 e_p180 h => ?_)
  refine vg_cV (pc := 1489) (As := [V (sx (((a5 + 1)).toNat))]) (rest := []) (mc' := 0) (ms' := 0) (dK D_Law_law_16 26 rfl) K_Law_210 (fitK rfl) (ltK rfl) hc2 rfl (leK rfl) (by omega) (by omega) (tf_Mo_take hc2 (hsn.at _) e_p180) (kcB ?_)
  refine g_istore (pc := 1492) (ls2 := [(7, V (bi p180.1)), (6, V p179.1), (0, .ref (XB + 200)), (1, .ref c1), (2, .ref c2), (3, .ref c3), (4, .ref c4), (5, V a5)]) (dK D_Law_law_16 27 rfl) (ltK rfl) rfl ?_
  refine g_aloadn (pc := 1494) (i0 := 2) (j := 4) (dK D_Law_law_16 28 rfl) rfl rfl ?_
  refine bnE h (fun p181 e_p181 h => ?_)
  refine vg_cV (pc := 1495) (As := []) (rest := []) (mc' := 0) (ms' := 0) (dK D_Law_law_16 29 rfl) K_Law_163 (fitK rfl) (ltK rfl) hc2 rfl (leK rfl) (by omega) (by omega) (tf_Mo_thrown hc2 e_p181) (kcI (fun h_p181 => ?_))
  refine g_iload (pc := 1498) (j := 1) (dK D_Law_law_16 30 rfl) rfl ?_
  refine vg_icmp_eq (pc := 1500) (t := 1505) (dK D_Law_law_16 31 rfl) rfl h_p181 h_p179 (fun hc186 => ?_) (fun hc186 => ?_)
  · replace h := ifP h hc186
    refine g_iload (pc := 1505) (j := 1) (dK D_Law_law_16 34 rfl) rfl ?_
    refine vg_if_ne (pc := 1507) (t := 1529) (dK D_Law_law_16 35 rfl) rfl h_p179 (fun hc185 => ?_) (fun hc185 => ?_)
    · replace h := ifN h hc185
      refine g_goto (pc := 1529) (tgt := 3073) (dK D_Law_law_16 48 rfl) rfl ?_
      refine gL_weak (ls' := [(0, .ref (XB + 200)), (1, .ref c1), (2, .ref c2), (3, .ref c3), (4, .ref c4), (5, V a5)]) (sbc 2 rfl (sbc 3 rfl (sbc 4 rfl (sbc 5 rfl (sbc 6 rfl (sbc 7 rfl sbn)))))) ?_
      exact tj_Law_law_3073 hfl hsn hc1 hc2 hc3 hc4 hx hr ih ha5 (by omega) (by omega) h
    · replace h := ifP h hc185
      refine g_aloadn (pc := 1510) (i0 := 3) (j := 5) (dK D_Law_law_16 36 rfl) rfl rfl ?_
      refine vg_iconst (pc := 1511) (dK D_Law_law_16 37 rfl) ?_
      refine vg_laload (pc := 1512) (j := 0) (dK D_Law_law_16 38 rfl) hc3 rfl ⟨by decide, by decide⟩ rfl ?_
      refine g_iload (pc := 1513) (j := 0) (dK D_Law_law_16 39 rfl) rfl ?_
      refine vg_if_eq (pc := 1515) (t := 1522) (dK D_Law_law_16 40 rfl) rfl (bi_in _) (fun hc184 => ?_) (fun hc184 => ?_)
      · replace h := ifP h hc184
        refine vg_lconst (pc := 1522) (y := 0) (dK D_Law_law_16 43 rfl) rfl ?_
        refine vg_lcmp_eq (pc := 1523) (t := 1529) (dK D_Law_law_16 44 rfl) (dK D_Law_law_16 45 rfl) rfl (gl_in _ _ _) (inLk rfl) (fun hc182 => ?_) (fun hc182 => ?_)
        · replace h := ifP h hc182
          refine g_goto (pc := 1529) (tgt := 3073) (dK D_Law_law_16 48 rfl) rfl ?_
          refine gL_weak (ls' := [(0, .ref (XB + 200)), (1, .ref c1), (2, .ref c2), (3, .ref c3), (4, .ref c4), (5, V a5)]) (sbc 2 rfl (sbc 3 rfl (sbc 4 rfl (sbc 5 rfl (sbc 6 rfl (sbc 7 rfl sbn)))))) ?_
          exact tj_Law_law_3073 hfl hsn hc1 hc2 hc3 hc4 hx hr ih ha5 (by omega) (by omega) h
        · replace h := ifN h hc182
          refine vg_iconst (pc := 1527) (dK D_Law_law_16 46 rfl) ?_
          exact vg_iretB (pc := 1528) (b := false) (dK D_Law_law_16 47 rfl) rfl (by omega) (by omega) (xf hfl) (hr _ (Option.some.inj h).symm)
      · replace h := ifN h hc184
        refine vg_lconst (pc := 1518) (y := 1) (dK D_Law_law_16 41 rfl) rfl ?_
        refine g_goto (pc := 1519) (tgt := 1523) (dK D_Law_law_16 42 rfl) rfl ?_
        refine vg_lcmp_eq (pc := 1523) (t := 1529) (dK D_Law_law_16 44 rfl) (dK D_Law_law_16 45 rfl) rfl (gl_in _ _ _) (inLk rfl) (fun hc183 => ?_) (fun hc183 => ?_)
        · replace h := ifP h hc183
          refine g_goto (pc := 1529) (tgt := 3073) (dK D_Law_law_16 48 rfl) rfl ?_
          refine gL_weak (ls' := [(0, .ref (XB + 200)), (1, .ref c1), (2, .ref c2), (3, .ref c3), (4, .ref c4), (5, V a5)]) (sbc 2 rfl (sbc 3 rfl (sbc 4 rfl (sbc 5 rfl (sbc 6 rfl (sbc 7 rfl sbn)))))) ?_
          exact tj_Law_law_3073 hfl hsn hc1 hc2 hc3 hc4 hx hr ih ha5 (by omega) (by omega) h
        · replace h := ifN h hc183
          refine vg_iconst (pc := 1527) (dK D_Law_law_16 46 rfl) ?_
          exact vg_iretB (pc := 1528) (b := false) (dK D_Law_law_16 47 rfl) rfl (by omega) (by omega) (xf hfl) (hr _ (Option.some.inj h).symm)
  · replace h := ifN h hc186
    refine vg_iconst (pc := 1503) (dK D_Law_law_16 32 rfl) ?_
    exact vg_iretB (pc := 1504) (b := false) (dK D_Law_law_16 33 rfl) rfl (by omega) (by omega) (xf hfl) (hr _ (Option.some.inj h).symm)
def jf_Law_law_1532 (sx : Nat → Int) (sn : Nat) (c1 : Nat) (c2 : Nat) (c3 : Nat) (c4 : Nat) (go : Int × St → Option ((Bool × St) ⊕ (St))) (a5 : Int) (S : St) : Option ((Bool × St) ⊕ (St)) := if 0 ≤ (a5 + 1) ∧ (a5 + 1) < (sn : Int) then (bnO (fn_Law_takeStory c1 (sx (((a5 + 1)).toNat)) c3 S) fun p189 => bnO (fn_Mo_takeStory c2 (sx (((a5 + 1)).toNat)) p189.2) fun p190 => bnO (fn_Mo_thrown c2 p190.2) fun p191 => if p191 = p189.1 then (if p189.1 = 0 then (if (bi p190.1) = 0 then (if (gl p190.2 c3 0) = 0 then (jf_Law_law_3073 sx sn c1 c2 c3 c4 go a5 p190.2) else (some (.inl (false, p190.2)))) else (if (gl p190.2 c3 0) = 1 then (jf_Law_law_3073 sx sn c1 c2 c3 c4 go a5 p190.2) else (some (.inl (false, p190.2))))) else (jf_Law_law_3073 sx sn c1 c2 c3 c4 go a5 p190.2)) else (some (.inl (false, p190.2)))) else none
theorem tj_Law_law_1532 {E : EV} {X : XT} (hfl : X.2.2.2 = false) {sx : Nat → Int} {sn : Nat} (hsn : ScrE E sx sn) {c1 : Nat} (hc1 : HC X 10 c1) {c2 : Nat} (hc2 : HC X 11 c2) {c3 : Nat} (hc3 : HA X 3 1 c3) {c4 : Nat} (hc4 : HA X 4 1 c4) {mc ms : Nat} {K : RK → PS → Prop} {q : (Bool × St) ⊕ (St)} (hx : ∀ p, q = .inr p → ∀ kk nn, kk ≤ mc → nn ≤ ms → Go E M_Law_law mc ms 3079 [] [] (WX X p) kk nn K) (hr : ∀ p, q = .inl p → K (.inl (some (V (bi p.1)))) (WX X p.2)) {fu : Nat} {go : Int × St → Option ((Bool × St) ⊕ (St))} (ih : ∀ a, go a = some q → inR a.1 → ∀ kk nn, kk + 2 * fu ≤ mc → nn + 12 * fu ≤ ms → Go E M_Law_law mc ms 28 [(0, .ref (XB + 200)), (1, .ref c1), (2, .ref c2), (3, .ref c3), (4, .ref c4), (5, V a.1)] [] (WX X a.2) kk nn K) {a5 : Int} (ha5 : inR a5) {S : St} {kk nn : Nat} (hkk : kk + 1 + 2 * fu ≤ mc) (hnn : nn + 6 + 12 * fu ≤ ms) (h : jf_Law_law_1532 sx sn c1 c2 c3 c4 go a5 S = some q) : Go E M_Law_law mc ms 1532 [(0, .ref (XB + 200)), (1, .ref c1), (2, .ref c2), (3, .ref c3), (4, .ref c4), (5, V a5)] [] (WX X S) kk nn K := by
  unfold jf_Law_law_1532 at h
  refine g_aloadn (pc := 1532) (i0 := 1) (j := 1) (dK D_Law_law_16 49 rfl) rfl rfl ?_
  refine g_aloadn (pc := 1533) (i0 := 0) (j := 0) (dK D_Law_law_17 0 rfl) rfl rfl ?_
  refine g_iload (pc := 1534) (j := 5) (dK D_Law_law_17 1 rfl) rfl ?_
  refine vg_iconst (pc := 1536) (dK D_Law_law_17 2 rfl) ?_
  refine vg_iadd (pc := 1537) (dK D_Law_law_17 3 rfl) ?_
  refine gdE h (fun hi188 h => ?_)
  refine vg_sld (pc := 1538) (dK D_Law_law_17 4 rfl) hsn hi188 ?_
  refine g_aloadn (pc := 1539) (i0 := 3) (j := 3) (dK D_Law_law_17 5 rfl) rfl rfl ?_
  refine bnE h (fun p189 e_p189 h => ?_)
  refine vg_cSX (pc := 1540) (As := [.ref c1, V (sx (((a5 + 1)).toNat)), .ref c3]) (rest := []) (mc' := 1) (ms' := 6) (dK D_Law_law_17 6 rfl) K_Law_211 (fitK rfl) rfl (leK rfl) (by omega) (by omega) (tf_Law_takeStory hfl hc1 (hsn.at _) hc3 e_p189) (kcI (fun h_p189 => ?_))
  refine g_istore (pc := 1543) (ls2 := [(6, V p189.1), (0, .ref (XB + 200)), (1, .ref c1), (2, .ref c2), (3, .ref c3), (4, .ref c4), (5, V a5)]) (dK D_Law_law_17 7 rfl) (ltK rfl) rfl ?_
  refine g_aloadn (pc := 1545) (i0 := 2) (j := 3) (dK D_Law_law_17 8 rfl) rfl rfl ?_
  refine g_aloadn (pc := 1546) (i0 := 0) (j := 1) (dK D_Law_law_17 9 rfl) rfl rfl ?_
  refine g_iload (pc := 1547) (j := 6) (dK D_Law_law_17 10 rfl) rfl ?_
  refine vg_iconst (pc := 1549) (dK D_Law_law_17 11 rfl) ?_
  refine vg_iadd (pc := 1550) (dK D_Law_law_17 12 rfl) ?_
  refine vg_sld (pc := 1551) (dK D_Law_law_17 13 rfl) hsn hi188 ?_
  refine bnE h (fun p190 e_p190 h => ?_)
  refine vg_cV (pc := 1552) (As := [V (sx (((a5 + 1)).toNat))]) (rest := []) (mc' := 0) (ms' := 0) (dK D_Law_law_17 14 rfl) K_Law_213 (fitK rfl) (ltK rfl) hc2 rfl (leK rfl) (by omega) (by omega) (tf_Mo_takeStory hc2 (hsn.at _) e_p190) (kcB ?_)
  refine g_istore (pc := 1555) (ls2 := [(7, V (bi p190.1)), (6, V p189.1), (0, .ref (XB + 200)), (1, .ref c1), (2, .ref c2), (3, .ref c3), (4, .ref c4), (5, V a5)]) (dK D_Law_law_17 15 rfl) (ltK rfl) rfl ?_
  refine g_aloadn (pc := 1557) (i0 := 2) (j := 4) (dK D_Law_law_17 16 rfl) rfl rfl ?_
  refine bnE h (fun p191 e_p191 h => ?_)
  refine vg_cV (pc := 1558) (As := []) (rest := []) (mc' := 0) (ms' := 0) (dK D_Law_law_17 17 rfl) K_Law_163 (fitK rfl) (ltK rfl) hc2 rfl (leK rfl) (by omega) (by omega) (tf_Mo_thrown hc2 e_p191) (kcI (fun h_p191 => ?_))
  refine g_iload (pc := 1561) (j := 1) (dK D_Law_law_17 18 rfl) rfl ?_
  refine vg_icmp_eq (pc := 1563) (t := 1568) (dK D_Law_law_17 19 rfl) rfl h_p191 h_p189 (fun hc196 => ?_) (fun hc196 => ?_)
  · replace h := ifP h hc196
    refine g_iload (pc := 1568) (j := 1) (dK D_Law_law_17 22 rfl) rfl ?_
    refine vg_if_ne (pc := 1570) (t := 1592) (dK D_Law_law_17 23 rfl) rfl h_p189 (fun hc195 => ?_) (fun hc195 => ?_)
    · replace h := ifN h hc195
      refine g_goto (pc := 1592) (tgt := 3073) (dK D_Law_law_17 36 rfl) rfl ?_
      refine gL_weak (ls' := [(0, .ref (XB + 200)), (1, .ref c1), (2, .ref c2), (3, .ref c3), (4, .ref c4), (5, V a5)]) (sbc 2 rfl (sbc 3 rfl (sbc 4 rfl (sbc 5 rfl (sbc 6 rfl (sbc 7 rfl sbn)))))) ?_
      exact tj_Law_law_3073 hfl hsn hc1 hc2 hc3 hc4 hx hr ih ha5 (by omega) (by omega) h
    · replace h := ifP h hc195
      refine g_aloadn (pc := 1573) (i0 := 3) (j := 5) (dK D_Law_law_17 24 rfl) rfl rfl ?_
      refine vg_iconst (pc := 1574) (dK D_Law_law_17 25 rfl) ?_
      refine vg_laload (pc := 1575) (j := 0) (dK D_Law_law_17 26 rfl) hc3 rfl ⟨by decide, by decide⟩ rfl ?_
      refine g_iload (pc := 1576) (j := 0) (dK D_Law_law_17 27 rfl) rfl ?_
      refine vg_if_eq (pc := 1578) (t := 1585) (dK D_Law_law_17 28 rfl) rfl (bi_in _) (fun hc194 => ?_) (fun hc194 => ?_)
      · replace h := ifP h hc194
        refine vg_lconst (pc := 1585) (y := 0) (dK D_Law_law_17 31 rfl) rfl ?_
        refine vg_lcmp_eq (pc := 1586) (t := 1592) (dK D_Law_law_17 32 rfl) (dK D_Law_law_17 33 rfl) rfl (gl_in _ _ _) (inLk rfl) (fun hc192 => ?_) (fun hc192 => ?_)
        · replace h := ifP h hc192
          refine g_goto (pc := 1592) (tgt := 3073) (dK D_Law_law_17 36 rfl) rfl ?_
          refine gL_weak (ls' := [(0, .ref (XB + 200)), (1, .ref c1), (2, .ref c2), (3, .ref c3), (4, .ref c4), (5, V a5)]) (sbc 2 rfl (sbc 3 rfl (sbc 4 rfl (sbc 5 rfl (sbc 6 rfl (sbc 7 rfl sbn)))))) ?_
          exact tj_Law_law_3073 hfl hsn hc1 hc2 hc3 hc4 hx hr ih ha5 (by omega) (by omega) h
        · replace h := ifN h hc192
          refine vg_iconst (pc := 1590) (dK D_Law_law_17 34 rfl) ?_
          exact vg_iretB (pc := 1591) (b := false) (dK D_Law_law_17 35 rfl) rfl (by omega) (by omega) (xf hfl) (hr _ (Option.some.inj h).symm)
      · replace h := ifN h hc194
        refine vg_lconst (pc := 1581) (y := 1) (dK D_Law_law_17 29 rfl) rfl ?_
        refine g_goto (pc := 1582) (tgt := 1586) (dK D_Law_law_17 30 rfl) rfl ?_
        refine vg_lcmp_eq (pc := 1586) (t := 1592) (dK D_Law_law_17 32 rfl) (dK D_Law_law_17 33 rfl) rfl (gl_in _ _ _) (inLk rfl) (fun hc193 => ?_) (fun hc193 => ?_)
        · replace h := ifP h hc193
          refine g_goto (pc := 1592) (tgt := 3073) (dK D_Law_law_17 36 rfl) rfl ?_
          refine gL_weak (ls' := [(0, .ref (XB + 200)), (1, .ref c1), (2, .ref c2), (3, .ref c3), (4, .ref c4), (5, V a5)]) (sbc 2 rfl (sbc 3 rfl (sbc 4 rfl (sbc 5 rfl (sbc 6 rfl (sbc 7 rfl sbn)))))) ?_
          exact tj_Law_law_3073 hfl hsn hc1 hc2 hc3 hc4 hx hr ih ha5 (by omega) (by omega) h
        · replace h := ifN h hc193
          refine vg_iconst (pc := 1590) (dK D_Law_law_17 34 rfl) ?_
          exact vg_iretB (pc := 1591) (b := false) (dK D_Law_law_17 35 rfl) rfl (by omega) (by omega) (xf hfl) (hr _ (Option.some.inj h).symm)
  · replace h := ifN h hc196
    refine vg_iconst (pc := 1566) (dK D_Law_law_17 20 rfl) ?_
    exact vg_iretB (pc := 1567) (b := false) (dK D_Law_law_17 21 rfl) rfl (by omega) (by omega) (xf hfl) (hr _ (Option.some.inj h).symm)
def jf_Law_law_1595 (sx : Nat → Int) (sn : Nat) (c1 : Nat) (c2 : Nat) (c3 : Nat) (c4 : Nat) (go : Int × St → Option ((Bool × St) ⊕ (St))) (a5 : Int) (S : St) : Option ((Bool × St) ⊕ (St)) := if 0 ≤ (a5 + 1) ∧ (a5 + 1) < (sn : Int) then (if 0 ≤ (a5 + 2) ∧ (a5 + 2) < (sn : Int) then (bnO (fn_Law_use c1 (sx (((a5 + 1)).toNat)) (sx (((a5 + 2)).toNat)) c3 S) fun p200 => bnO (fn_Mo_use c2 (sx (((a5 + 1)).toNat)) (sx (((a5 + 2)).toNat)) p200.2) fun p201 => bnO (fn_Mo_thrown c2 p201.2) fun p202 => if p202 = p200.1 then (if p200.1 = 0 then (if (gl p201.2 c3 0) = p201.1 then (jf_Law_law_3073 sx sn c1 c2 c3 c4 go a5 p201.2) else (some (.inl (false, p201.2)))) else (jf_Law_law_3073 sx sn c1 c2 c3 c4 go a5 p201.2)) else (some (.inl (false, p201.2)))) else none) else none
theorem tj_Law_law_1595 {E : EV} {X : XT} (hfl : X.2.2.2 = false) {sx : Nat → Int} {sn : Nat} (hsn : ScrE E sx sn) {c1 : Nat} (hc1 : HC X 10 c1) {c2 : Nat} (hc2 : HC X 11 c2) {c3 : Nat} (hc3 : HA X 3 1 c3) {c4 : Nat} (hc4 : HA X 4 1 c4) {mc ms : Nat} {K : RK → PS → Prop} {q : (Bool × St) ⊕ (St)} (hx : ∀ p, q = .inr p → ∀ kk nn, kk ≤ mc → nn ≤ ms → Go E M_Law_law mc ms 3079 [] [] (WX X p) kk nn K) (hr : ∀ p, q = .inl p → K (.inl (some (V (bi p.1)))) (WX X p.2)) {fu : Nat} {go : Int × St → Option ((Bool × St) ⊕ (St))} (ih : ∀ a, go a = some q → inR a.1 → ∀ kk nn, kk + 2 * fu ≤ mc → nn + 12 * fu ≤ ms → Go E M_Law_law mc ms 28 [(0, .ref (XB + 200)), (1, .ref c1), (2, .ref c2), (3, .ref c3), (4, .ref c4), (5, V a.1)] [] (WX X a.2) kk nn K) {a5 : Int} (ha5 : inR a5) {S : St} {kk nn : Nat} (hkk : kk + 1 + 2 * fu ≤ mc) (hnn : nn + 6 + 12 * fu ≤ ms) (h : jf_Law_law_1595 sx sn c1 c2 c3 c4 go a5 S = some q) : Go E M_Law_law mc ms 1595 [(0, .ref (XB + 200)), (1, .ref c1), (2, .ref c2), (3, .ref c3), (4, .ref c4), (5, V a5)] [] (WX X S) kk nn K := by
  unfold jf_Law_law_1595 at h
  refine g_aloadn (pc := 1595) (i0 := 1) (j := 1) (dK D_Law_law_17 37 rfl) rfl rfl ?_
  refine g_aloadn (pc := 1596) (i0 := 0) (j := 0) (dK D_Law_law_17 38 rfl) rfl rfl ?_
  refine g_iload (pc := 1597) (j := 5) (dK D_Law_law_17 39 rfl) rfl ?_
  refine vg_iconst (pc := 1599) (dK D_Law_law_17 40 rfl) ?_
  refine vg_iadd (pc := 1600) (dK D_Law_law_17 41 rfl) ?_
  refine gdE h (fun hi198 h => ?_)
  refine vg_sld (pc := 1601) (dK D_Law_law_17 42 rfl) hsn hi198 ?_
  refine g_aloadn (pc := 1602) (i0 := 0) (j := 0) (dK D_Law_law_17 43 rfl) rfl rfl ?_
  refine g_iload (pc := 1603) (j := 5) (dK D_Law_law_17 44 rfl) rfl ?_
  refine vg_iconst (pc := 1605) (dK D_Law_law_17 45 rfl) ?_
  refine vg_iadd (pc := 1606) (dK D_Law_law_17 46 rfl) ?_
  refine gdE h (fun hi199 h => ?_)
  refine vg_sld (pc := 1607) (dK D_Law_law_17 47 rfl) hsn hi199 ?_
  refine g_aloadn (pc := 1608) (i0 := 3) (j := 3) (dK D_Law_law_17 48 rfl) rfl rfl ?_
  refine bnE h (fun p200 e_p200 h => ?_)
  refine vg_cSX (pc := 1609) (As := [.ref c1, V (sx (((a5 + 1)).toNat)), V (sx (((a5 + 2)).toNat)), .ref c3]) (rest := []) (mc' := 1) (ms' := 6) (dK D_Law_law_17 49 rfl) K_Law_214 (fitK rfl) rfl (leK rfl) (by omega) (by omega) (tf_Law_use hfl hc1 (hsn.at _) (hsn.at _) hc3 e_p200) (kcI (fun h_p200 => ?_))
  refine g_istore (pc := 1612) (ls2 := [(6, V p200.1), (0, .ref (XB + 200)), (1, .ref c1), (2, .ref c2), (3, .ref c3), (4, .ref c4), (5, V a5)]) (dK D_Law_law_18 0 rfl) (ltK rfl) rfl ?_
  refine g_aloadn (pc := 1614) (i0 := 2) (j := 3) (dK D_Law_law_18 1 rfl) rfl rfl ?_
  refine g_aloadn (pc := 1615) (i0 := 0) (j := 1) (dK D_Law_law_18 2 rfl) rfl rfl ?_
  refine g_iload (pc := 1616) (j := 6) (dK D_Law_law_18 3 rfl) rfl ?_
  refine vg_iconst (pc := 1618) (dK D_Law_law_18 4 rfl) ?_
  refine vg_iadd (pc := 1619) (dK D_Law_law_18 5 rfl) ?_
  refine vg_sld (pc := 1620) (dK D_Law_law_18 6 rfl) hsn hi198 ?_
  refine g_aloadn (pc := 1621) (i0 := 0) (j := 1) (dK D_Law_law_18 7 rfl) rfl rfl ?_
  refine g_iload (pc := 1622) (j := 6) (dK D_Law_law_18 8 rfl) rfl ?_
  refine vg_iconst (pc := 1624) (dK D_Law_law_18 9 rfl) ?_
  refine vg_iadd (pc := 1625) (dK D_Law_law_18 10 rfl) ?_
  refine vg_sld (pc := 1626) (dK D_Law_law_18 11 rfl) hsn hi199 ?_
  refine bnE h (fun p201 e_p201 h => ?_)
  refine vg_cV (pc := 1627) (As := [V (sx (((a5 + 1)).toNat)), V (sx (((a5 + 2)).toNat))]) (rest := []) (mc' := 0) (ms' := 0) (dK D_Law_law_18 12 rfl) K_Law_216 (fitK rfl) (ltK rfl) hc2 rfl (leK rfl) (by omega) (by omega) (tf_Mo_use hc2 (hsn.at _) (hsn.at _) e_p201) (kcI (fun h_p201 => ?_))
  refine g_istore (pc := 1630) (ls2 := [(7, V p201.1), (6, V p200.1), (0, .ref (XB + 200)), (1, .ref c1), (2, .ref c2), (3, .ref c3), (4, .ref c4), (5, V a5)]) (dK D_Law_law_18 13 rfl) (ltK rfl) rfl ?_
  refine g_aloadn (pc := 1632) (i0 := 2) (j := 4) (dK D_Law_law_18 14 rfl) rfl rfl ?_
  refine bnE h (fun p202 e_p202 h => ?_)
  refine vg_cV (pc := 1633) (As := []) (rest := []) (mc' := 0) (ms' := 0) (dK D_Law_law_18 15 rfl) K_Law_163 (fitK rfl) (ltK rfl) hc2 rfl (leK rfl) (by omega) (by omega) (tf_Mo_thrown hc2 e_p202) (kcI (fun h_p202 => ?_))
  refine g_iload (pc := 1636) (j := 1) (dK D_Law_law_18 16 rfl) rfl ?_
  refine vg_icmp_eq (pc := 1638) (t := 1643) (dK D_Law_law_18 17 rfl) rfl h_p202 h_p200 (fun hc205 => ?_) (fun hc205 => ?_)
  · replace h := ifP h hc205
    refine g_iload (pc := 1643) (j := 1) (dK D_Law_law_18 20 rfl) rfl ?_
    refine vg_if_ne (pc := 1645) (t := 1660) (dK D_Law_law_18 21 rfl) rfl h_p200 (fun hc204 => ?_) (fun hc204 => ?_)
    · replace h := ifN h hc204
      refine g_goto (pc := 1660) (tgt := 3073) (dK D_Law_law_18 31 rfl) rfl ?_
      refine gL_weak (ls' := [(0, .ref (XB + 200)), (1, .ref c1), (2, .ref c2), (3, .ref c3), (4, .ref c4), (5, V a5)]) (sbc 2 rfl (sbc 3 rfl (sbc 4 rfl (sbc 5 rfl (sbc 6 rfl (sbc 7 rfl sbn)))))) ?_
      exact tj_Law_law_3073 hfl hsn hc1 hc2 hc3 hc4 hx hr ih ha5 (by omega) (by omega) h
    · replace h := ifP h hc204
      refine g_aloadn (pc := 1648) (i0 := 3) (j := 5) (dK D_Law_law_18 22 rfl) rfl rfl ?_
      refine vg_iconst (pc := 1649) (dK D_Law_law_18 23 rfl) ?_
      refine vg_laload (pc := 1650) (j := 0) (dK D_Law_law_18 24 rfl) hc3 rfl ⟨by decide, by decide⟩ rfl ?_
      refine g_iload (pc := 1651) (j := 0) (dK D_Law_law_18 25 rfl) rfl ?_
      refine vg_i2l (pc := 1653) (dK D_Law_law_18 26 rfl) h_p201 ?_
      refine vg_lcmp_eq (pc := 1654) (t := 1660) (dK D_Law_law_18 27 rfl) (dK D_Law_law_18 28 rfl) rfl (gl_in _ _ _) (inR_L h_p201) (fun hc203 => ?_) (fun hc203 => ?_)
      · replace h := ifP h hc203
        refine g_goto (pc := 1660) (tgt := 3073) (dK D_Law_law_18 31 rfl) rfl ?_
        refine gL_weak (ls' := [(0, .ref (XB + 200)), (1, .ref c1), (2, .ref c2), (3, .ref c3), (4, .ref c4), (5, V a5)]) (sbc 2 rfl (sbc 3 rfl (sbc 4 rfl (sbc 5 rfl (sbc 6 rfl (sbc 7 rfl sbn)))))) ?_
        exact tj_Law_law_3073 hfl hsn hc1 hc2 hc3 hc4 hx hr ih ha5 (by omega) (by omega) h
      · replace h := ifN h hc203
        refine vg_iconst (pc := 1658) (dK D_Law_law_18 29 rfl) ?_
        exact vg_iretB (pc := 1659) (b := false) (dK D_Law_law_18 30 rfl) rfl (by omega) (by omega) (xf hfl) (hr _ (Option.some.inj h).symm)
  · replace h := ifN h hc205
    refine vg_iconst (pc := 1641) (dK D_Law_law_18 18 rfl) ?_
    exact vg_iretB (pc := 1642) (b := false) (dK D_Law_law_18 19 rfl) rfl (by omega) (by omega) (xf hfl) (hr _ (Option.some.inj h).symm)
def jf_Law_law_1663 (sx : Nat → Int) (sn : Nat) (c1 : Nat) (c2 : Nat) (c3 : Nat) (c4 : Nat) (go : Int × St → Option ((Bool × St) ⊕ (St))) (a5 : Int) (S : St) : Option ((Bool × St) ⊕ (St)) := if 0 ≤ (a5 + 1) ∧ (a5 + 1) < (sn : Int) then (bnO (fn_Law_clear c1 (sx (((a5 + 1)).toNat)) c3 S) fun p208 => bnO (fn_Mo_clear c2 (sx (((a5 + 1)).toNat)) p208.2) fun p209 => bnO (fn_Mo_thrown c2 p209.2) fun p210 => if p210 = p208.1 then (if p208.1 = 0 then (if (gl p209.2 c3 0) = p209.1 then (jf_Law_law_3073 sx sn c1 c2 c3 c4 go a5 p209.2) else (some (.inl (false, p209.2)))) else (jf_Law_law_3073 sx sn c1 c2 c3 c4 go a5 p209.2)) else (some (.inl (false, p209.2)))) else none
theorem tj_Law_law_1663 {E : EV} {X : XT} (hfl : X.2.2.2 = false) {sx : Nat → Int} {sn : Nat} (hsn : ScrE E sx sn) {c1 : Nat} (hc1 : HC X 10 c1) {c2 : Nat} (hc2 : HC X 11 c2) {c3 : Nat} (hc3 : HA X 3 1 c3) {c4 : Nat} (hc4 : HA X 4 1 c4) {mc ms : Nat} {K : RK → PS → Prop} {q : (Bool × St) ⊕ (St)} (hx : ∀ p, q = .inr p → ∀ kk nn, kk ≤ mc → nn ≤ ms → Go E M_Law_law mc ms 3079 [] [] (WX X p) kk nn K) (hr : ∀ p, q = .inl p → K (.inl (some (V (bi p.1)))) (WX X p.2)) {fu : Nat} {go : Int × St → Option ((Bool × St) ⊕ (St))} (ih : ∀ a, go a = some q → inR a.1 → ∀ kk nn, kk + 2 * fu ≤ mc → nn + 12 * fu ≤ ms → Go E M_Law_law mc ms 28 [(0, .ref (XB + 200)), (1, .ref c1), (2, .ref c2), (3, .ref c3), (4, .ref c4), (5, V a.1)] [] (WX X a.2) kk nn K) {a5 : Int} (ha5 : inR a5) {S : St} {kk nn : Nat} (hkk : kk + 1 + 2 * fu ≤ mc) (hnn : nn + 6 + 12 * fu ≤ ms) (h : jf_Law_law_1663 sx sn c1 c2 c3 c4 go a5 S = some q) : Go E M_Law_law mc ms 1663 [(0, .ref (XB + 200)), (1, .ref c1), (2, .ref c2), (3, .ref c3), (4, .ref c4), (5, V a5)] [] (WX X S) kk nn K := by
  unfold jf_Law_law_1663 at h
  refine g_aloadn (pc := 1663) (i0 := 1) (j := 1) (dK D_Law_law_18 32 rfl) rfl rfl ?_
  refine g_aloadn (pc := 1664) (i0 := 0) (j := 0) (dK D_Law_law_18 33 rfl) rfl rfl ?_
  refine g_iload (pc := 1665) (j := 5) (dK D_Law_law_18 34 rfl) rfl ?_
  refine vg_iconst (pc := 1667) (dK D_Law_law_18 35 rfl) ?_
  refine vg_iadd (pc := 1668) (dK D_Law_law_18 36 rfl) ?_
  refine gdE h (fun hi207 h => ?_)
  refine vg_sld (pc := 1669) (dK D_Law_law_18 37 rfl) hsn hi207 ?_
  refine g_aloadn (pc := 1670) (i0 := 3) (j := 3) (dK D_Law_law_18 38 rfl) rfl rfl ?_
  refine bnE h (fun p208 e_p208 h => ?_)
  refine vg_cSX (pc := 1671) (As := [.ref c1, V (sx (((a5 + 1)).toNat)), .ref c3]) (rest := []) (mc' := 1) (ms' := 6) (dK D_Law_law_18 39 rfl) K_Law_217 (fitK rfl) rfl (leK rfl) (by omega) (by omega) (tf_Law_clear hfl hc1 (hsn.at _) hc3 e_p208) (kcI (fun h_p208 => ?_))
  refine g_istore (pc := 1674) (ls2 := [(6, V p208.1), (0, .ref (XB + 200)), (1, .ref c1), (2, .ref c2), (3, .ref c3), (4, .ref c4), (5, V a5)]) (dK D_Law_law_18 40 rfl) (ltK rfl) rfl ?_
  refine g_aloadn (pc := 1676) (i0 := 2) (j := 3) (dK D_Law_law_18 41 rfl) rfl rfl ?_
  refine g_aloadn (pc := 1677) (i0 := 0) (j := 1) (dK D_Law_law_18 42 rfl) rfl rfl ?_
  refine g_iload (pc := 1678) (j := 6) (dK D_Law_law_18 43 rfl) rfl ?_
  refine vg_iconst (pc := 1680) (dK D_Law_law_18 44 rfl) ?_
  refine vg_iadd (pc := 1681) (dK D_Law_law_18 45 rfl) ?_
  refine vg_sld (pc := 1682) (dK D_Law_law_18 46 rfl) hsn hi207 ?_
  refine bnE h (fun p209 e_p209 h => ?_)
  refine vg_cV (pc := 1683) (As := [V (sx (((a5 + 1)).toNat))]) (rest := []) (mc' := 0) (ms' := 0) (dK D_Law_law_18 47 rfl) K_Law_219 (fitK rfl) (ltK rfl) hc2 rfl (leK rfl) (by omega) (by omega) (tf_Mo_clear hc2 (hsn.at _) e_p209) (kcI (fun h_p209 => ?_))
  refine g_istore (pc := 1686) (ls2 := [(7, V p209.1), (6, V p208.1), (0, .ref (XB + 200)), (1, .ref c1), (2, .ref c2), (3, .ref c3), (4, .ref c4), (5, V a5)]) (dK D_Law_law_18 48 rfl) (ltK rfl) rfl ?_
  refine g_aloadn (pc := 1688) (i0 := 2) (j := 4) (dK D_Law_law_18 49 rfl) rfl rfl ?_
  refine bnE h (fun p210 e_p210 h => ?_)
  refine vg_cV (pc := 1689) (As := []) (rest := []) (mc' := 0) (ms' := 0) (dK D_Law_law_19 0 rfl) K_Law_163 (fitK rfl) (ltK rfl) hc2 rfl (leK rfl) (by omega) (by omega) (tf_Mo_thrown hc2 e_p210) (kcI (fun h_p210 => ?_))
  refine g_iload (pc := 1692) (j := 1) (dK D_Law_law_19 1 rfl) rfl ?_
  refine vg_icmp_eq (pc := 1694) (t := 1699) (dK D_Law_law_19 2 rfl) rfl h_p210 h_p208 (fun hc213 => ?_) (fun hc213 => ?_)
  · replace h := ifP h hc213
    refine g_iload (pc := 1699) (j := 1) (dK D_Law_law_19 5 rfl) rfl ?_
    refine vg_if_ne (pc := 1701) (t := 1716) (dK D_Law_law_19 6 rfl) rfl h_p208 (fun hc212 => ?_) (fun hc212 => ?_)
    · replace h := ifN h hc212
      refine g_goto (pc := 1716) (tgt := 3073) (dK D_Law_law_19 16 rfl) rfl ?_
      refine gL_weak (ls' := [(0, .ref (XB + 200)), (1, .ref c1), (2, .ref c2), (3, .ref c3), (4, .ref c4), (5, V a5)]) (sbc 2 rfl (sbc 3 rfl (sbc 4 rfl (sbc 5 rfl (sbc 6 rfl (sbc 7 rfl sbn)))))) ?_
      exact tj_Law_law_3073 hfl hsn hc1 hc2 hc3 hc4 hx hr ih ha5 (by omega) (by omega) h
    · replace h := ifP h hc212
      refine g_aloadn (pc := 1704) (i0 := 3) (j := 5) (dK D_Law_law_19 7 rfl) rfl rfl ?_
      refine vg_iconst (pc := 1705) (dK D_Law_law_19 8 rfl) ?_
      refine vg_laload (pc := 1706) (j := 0) (dK D_Law_law_19 9 rfl) hc3 rfl ⟨by decide, by decide⟩ rfl ?_
      refine g_iload (pc := 1707) (j := 0) (dK D_Law_law_19 10 rfl) rfl ?_
      refine vg_i2l (pc := 1709) (dK D_Law_law_19 11 rfl) h_p209 ?_
      refine vg_lcmp_eq (pc := 1710) (t := 1716) (dK D_Law_law_19 12 rfl) (dK D_Law_law_19 13 rfl) rfl (gl_in _ _ _) (inR_L h_p209) (fun hc211 => ?_) (fun hc211 => ?_)
      · replace h := ifP h hc211
        refine g_goto (pc := 1716) (tgt := 3073) (dK D_Law_law_19 16 rfl) rfl ?_
        refine gL_weak (ls' := [(0, .ref (XB + 200)), (1, .ref c1), (2, .ref c2), (3, .ref c3), (4, .ref c4), (5, V a5)]) (sbc 2 rfl (sbc 3 rfl (sbc 4 rfl (sbc 5 rfl (sbc 6 rfl (sbc 7 rfl sbn)))))) ?_
        exact tj_Law_law_3073 hfl hsn hc1 hc2 hc3 hc4 hx hr ih ha5 (by omega) (by omega) h
      · replace h := ifN h hc211
        refine vg_iconst (pc := 1714) (dK D_Law_law_19 14 rfl) ?_
        exact vg_iretB (pc := 1715) (b := false) (dK D_Law_law_19 15 rfl) rfl (by omega) (by omega) (xf hfl) (hr _ (Option.some.inj h).symm)
  · replace h := ifN h hc213
    refine vg_iconst (pc := 1697) (dK D_Law_law_19 3 rfl) ?_
    exact vg_iretB (pc := 1698) (b := false) (dK D_Law_law_19 4 rfl) rfl (by omega) (by omega) (xf hfl) (hr _ (Option.some.inj h).symm)
def jf_Law_law_1719 (sx : Nat → Int) (sn : Nat) (c1 : Nat) (c2 : Nat) (c3 : Nat) (c4 : Nat) (go : Int × St → Option ((Bool × St) ⊕ (St))) (a5 : Int) (S : St) : Option ((Bool × St) ⊕ (St)) := if 0 ≤ (a5 + 1) ∧ (a5 + 1) < (sn : Int) then (if 0 ≤ (a5 + 2) ∧ (a5 + 2) < (sn : Int) then (bnO (fn_Law_exchange c1 (sx (((a5 + 1)).toNat)) (sx (((a5 + 2)).toNat)) c3 S) fun p217 => bnO (fn_Mo_exchange c2 (sx (((a5 + 1)).toNat)) (sx (((a5 + 2)).toNat)) p217.2) fun p218 => bnO (fn_Mo_thrown c2 p218.2) fun p219 => if p219 = p217.1 then (if p217.1 = 0 then (if (gl p218.2 c3 0) = p218.1 then (jf_Law_law_3073 sx sn c1 c2 c3 c4 go a5 p218.2) else (some (.inl (false, p218.2)))) else (jf_Law_law_3073 sx sn c1 c2 c3 c4 go a5 p218.2)) else (some (.inl (false, p218.2)))) else none) else none
theorem tj_Law_law_1719 {E : EV} {X : XT} (hfl : X.2.2.2 = false) {sx : Nat → Int} {sn : Nat} (hsn : ScrE E sx sn) {c1 : Nat} (hc1 : HC X 10 c1) {c2 : Nat} (hc2 : HC X 11 c2) {c3 : Nat} (hc3 : HA X 3 1 c3) {c4 : Nat} (hc4 : HA X 4 1 c4) {mc ms : Nat} {K : RK → PS → Prop} {q : (Bool × St) ⊕ (St)} (hx : ∀ p, q = .inr p → ∀ kk nn, kk ≤ mc → nn ≤ ms → Go E M_Law_law mc ms 3079 [] [] (WX X p) kk nn K) (hr : ∀ p, q = .inl p → K (.inl (some (V (bi p.1)))) (WX X p.2)) {fu : Nat} {go : Int × St → Option ((Bool × St) ⊕ (St))} (ih : ∀ a, go a = some q → inR a.1 → ∀ kk nn, kk + 2 * fu ≤ mc → nn + 12 * fu ≤ ms → Go E M_Law_law mc ms 28 [(0, .ref (XB + 200)), (1, .ref c1), (2, .ref c2), (3, .ref c3), (4, .ref c4), (5, V a.1)] [] (WX X a.2) kk nn K) {a5 : Int} (ha5 : inR a5) {S : St} {kk nn : Nat} (hkk : kk + 2 + 2 * fu ≤ mc) (hnn : nn + 12 + 12 * fu ≤ ms) (h : jf_Law_law_1719 sx sn c1 c2 c3 c4 go a5 S = some q) : Go E M_Law_law mc ms 1719 [(0, .ref (XB + 200)), (1, .ref c1), (2, .ref c2), (3, .ref c3), (4, .ref c4), (5, V a5)] [] (WX X S) kk nn K := by
  unfold jf_Law_law_1719 at h
  refine g_aloadn (pc := 1719) (i0 := 1) (j := 1) (dK D_Law_law_19 17 rfl) rfl rfl ?_
  refine g_aloadn (pc := 1720) (i0 := 0) (j := 0) (dK D_Law_law_19 18 rfl) rfl rfl ?_
  refine g_iload (pc := 1721) (j := 5) (dK D_Law_law_19 19 rfl) rfl ?_
  refine vg_iconst (pc := 1723) (dK D_Law_law_19 20 rfl) ?_
  refine vg_iadd (pc := 1724) (dK D_Law_law_19 21 rfl) ?_
  refine gdE h (fun hi215 h => ?_)
  refine vg_sld (pc := 1725) (dK D_Law_law_19 22 rfl) hsn hi215 ?_
  refine g_aloadn (pc := 1726) (i0 := 0) (j := 0) (dK D_Law_law_19 23 rfl) rfl rfl ?_
  refine g_iload (pc := 1727) (j := 5) (dK D_Law_law_19 24 rfl) rfl ?_
  refine vg_iconst (pc := 1729) (dK D_Law_law_19 25 rfl) ?_
  refine vg_iadd (pc := 1730) (dK D_Law_law_19 26 rfl) ?_
  refine gdE h (fun hi216 h => ?_)
  refine vg_sld (pc := 1731) (dK D_Law_law_19 27 rfl) hsn hi216 ?_
  refine g_aloadn (pc := 1732) (i0 := 3) (j := 3) (dK D_Law_law_19 28 rfl) rfl rfl ?_
  refine bnE h (fun p217 e_p217 h => ?_)
  refine vg_cSX (pc := 1733) (As := [.ref c1, V (sx (((a5 + 1)).toNat)), V (sx (((a5 + 2)).toNat)), .ref c3]) (rest := []) (mc' := 2) (ms' := 12) (dK D_Law_law_19 29 rfl) K_Law_220 (fitK rfl) rfl (leK rfl) (by omega) (by omega) (tf_Law_exchange hfl hc1 (hsn.at _) (hsn.at _) hc3 e_p217) (kcI (fun h_p217 => ?_))
  refine g_istore (pc := 1736) (ls2 := [(6, V p217.1), (0, .ref (XB + 200)), (1, .ref c1), (2, .ref c2), (3, .ref c3), (4, .ref c4), (5, V a5)]) (dK D_Law_law_19 30 rfl) (ltK rfl) rfl ?_
  refine g_aloadn (pc := 1738) (i0 := 2) (j := 3) (dK D_Law_law_19 31 rfl) rfl rfl ?_
  refine g_aloadn (pc := 1739) (i0 := 0) (j := 1) (dK D_Law_law_19 32 rfl) rfl rfl ?_
  refine g_iload (pc := 1740) (j := 6) (dK D_Law_law_19 33 rfl) rfl ?_
  refine vg_iconst (pc := 1742) (dK D_Law_law_19 34 rfl) ?_
  refine vg_iadd (pc := 1743) (dK D_Law_law_19 35 rfl) ?_
  refine vg_sld (pc := 1744) (dK D_Law_law_19 36 rfl) hsn hi215 ?_
  refine g_aloadn (pc := 1745) (i0 := 0) (j := 1) (dK D_Law_law_19 37 rfl) rfl rfl ?_
  refine g_iload (pc := 1746) (j := 6) (dK D_Law_law_19 38 rfl) rfl ?_
  refine vg_iconst (pc := 1748) (dK D_Law_law_19 39 rfl) ?_
  refine vg_iadd (pc := 1749) (dK D_Law_law_19 40 rfl) ?_
  refine vg_sld (pc := 1750) (dK D_Law_law_19 41 rfl) hsn hi216 ?_
  refine bnE h (fun p218 e_p218 h => ?_)
  refine vg_cV (pc := 1751) (As := [V (sx (((a5 + 1)).toNat)), V (sx (((a5 + 2)).toNat))]) (rest := []) (mc' := 0) (ms' := 0) (dK D_Law_law_19 42 rfl) K_Law_222 (fitK rfl) (ltK rfl) hc2 rfl (leK rfl) (by omega) (by omega) (tf_Mo_exchange hc2 (hsn.at _) (hsn.at _) e_p218) (kcI (fun h_p218 => ?_))
  refine g_istore (pc := 1754) (ls2 := [(7, V p218.1), (6, V p217.1), (0, .ref (XB + 200)), (1, .ref c1), (2, .ref c2), (3, .ref c3), (4, .ref c4), (5, V a5)]) (dK D_Law_law_19 43 rfl) (ltK rfl) rfl ?_
  refine g_aloadn (pc := 1756) (i0 := 2) (j := 4) (dK D_Law_law_19 44 rfl) rfl rfl ?_
  refine bnE h (fun p219 e_p219 h => ?_)
  refine vg_cV (pc := 1757) (As := []) (rest := []) (mc' := 0) (ms' := 0) (dK D_Law_law_19 45 rfl) K_Law_163 (fitK rfl) (ltK rfl) hc2 rfl (leK rfl) (by omega) (by omega) (tf_Mo_thrown hc2 e_p219) (kcI (fun h_p219 => ?_))
  refine g_iload (pc := 1760) (j := 1) (dK D_Law_law_19 46 rfl) rfl ?_
  refine vg_icmp_eq (pc := 1762) (t := 1767) (dK D_Law_law_19 47 rfl) rfl h_p219 h_p217 (fun hc222 => ?_) (fun hc222 => ?_)
  · replace h := ifP h hc222
    refine g_iload (pc := 1767) (j := 1) (dK D_Law_law_20 0 rfl) rfl ?_
    refine vg_if_ne (pc := 1769) (t := 1784) (dK D_Law_law_20 1 rfl) rfl h_p217 (fun hc221 => ?_) (fun hc221 => ?_)
    · replace h := ifN h hc221
      refine g_goto (pc := 1784) (tgt := 3073) (dK D_Law_law_20 11 rfl) rfl ?_
      refine gL_weak (ls' := [(0, .ref (XB + 200)), (1, .ref c1), (2, .ref c2), (3, .ref c3), (4, .ref c4), (5, V a5)]) (sbc 2 rfl (sbc 3 rfl (sbc 4 rfl (sbc 5 rfl (sbc 6 rfl (sbc 7 rfl sbn)))))) ?_
      exact tj_Law_law_3073 hfl hsn hc1 hc2 hc3 hc4 hx hr ih ha5 (by omega) (by omega) h
    · replace h := ifP h hc221
      refine g_aloadn (pc := 1772) (i0 := 3) (j := 5) (dK D_Law_law_20 2 rfl) rfl rfl ?_
      refine vg_iconst (pc := 1773) (dK D_Law_law_20 3 rfl) ?_
      refine vg_laload (pc := 1774) (j := 0) (dK D_Law_law_20 4 rfl) hc3 rfl ⟨by decide, by decide⟩ rfl ?_
      refine g_iload (pc := 1775) (j := 0) (dK D_Law_law_20 5 rfl) rfl ?_
      refine vg_i2l (pc := 1777) (dK D_Law_law_20 6 rfl) h_p218 ?_
      refine vg_lcmp_eq (pc := 1778) (t := 1784) (dK D_Law_law_20 7 rfl) (dK D_Law_law_20 8 rfl) rfl (gl_in _ _ _) (inR_L h_p218) (fun hc220 => ?_) (fun hc220 => ?_)
      · replace h := ifP h hc220
        refine g_goto (pc := 1784) (tgt := 3073) (dK D_Law_law_20 11 rfl) rfl ?_
        refine gL_weak (ls' := [(0, .ref (XB + 200)), (1, .ref c1), (2, .ref c2), (3, .ref c3), (4, .ref c4), (5, V a5)]) (sbc 2 rfl (sbc 3 rfl (sbc 4 rfl (sbc 5 rfl (sbc 6 rfl (sbc 7 rfl sbn)))))) ?_
        exact tj_Law_law_3073 hfl hsn hc1 hc2 hc3 hc4 hx hr ih ha5 (by omega) (by omega) h
      · replace h := ifN h hc220
        refine vg_iconst (pc := 1782) (dK D_Law_law_20 9 rfl) ?_
        exact vg_iretB (pc := 1783) (b := false) (dK D_Law_law_20 10 rfl) rfl (by omega) (by omega) (xf hfl) (hr _ (Option.some.inj h).symm)
  · replace h := ifN h hc222
    refine vg_iconst (pc := 1765) (dK D_Law_law_19 48 rfl) ?_
    exact vg_iretB (pc := 1766) (b := false) (dK D_Law_law_19 49 rfl) rfl (by omega) (by omega) (xf hfl) (hr _ (Option.some.inj h).symm)
def jf_Law_law_1808 (sx : Nat → Int) (sn : Nat) (c1 : Nat) (c2 : Nat) (c3 : Nat) (c4 : Nat) (go : Int × St → Option ((Bool × St) ⊕ (St))) (a5 : Int) (t0 : Int) (t1 : Int) (d2 : Nat) (S : St) : Option ((Bool × St) ⊕ (St)) := bnO (fn_Law_setColor d2 t1 t0 c3 S) fun p226 => if 0 ≤ (a5 + 1) ∧ (a5 + 1) < (sn : Int) then (if 0 ≤ (a5 + 2) ∧ (a5 + 2) < (sn : Int) then (if (sx (((a5 + 2)).toNat)) = 0 then (bnO (fn_Mo_setColor c2 (sx (((a5 + 1)).toNat)) 0 p226.2) fun p229 => bnO (fn_Mo_thrown c2 p229.2) fun p230 => if p230 = p226.1 then (if p226.1 = 0 then (if (bi p229.1) = 0 then (if (gl p229.2 c3 0) = 0 then (jf_Law_law_3073 sx sn c1 c2 c3 c4 go a5 p229.2) else (some (.inl (false, p229.2)))) else (if (gl p229.2 c3 0) = 1 then (jf_Law_law_3073 sx sn c1 c2 c3 c4 go a5 p229.2) else (some (.inl (false, p229.2))))) else (jf_Law_law_3073 sx sn c1 c2 c3 c4 go a5 p229.2)) else (some (.inl (false, p229.2)))) else (bnO (fn_Mo_setColor c2 (sx (((a5 + 1)).toNat)) 1 p226.2) fun p236 => bnO (fn_Mo_thrown c2 p236.2) fun p237 => if p237 = p226.1 then (if p226.1 = 0 then (if (bi p236.1) = 0 then (if (gl p236.2 c3 0) = 0 then (jf_Law_law_3073 sx sn c1 c2 c3 c4 go a5 p236.2) else (some (.inl (false, p236.2)))) else (if (gl p236.2 c3 0) = 1 then (jf_Law_law_3073 sx sn c1 c2 c3 c4 go a5 p236.2) else (some (.inl (false, p236.2))))) else (jf_Law_law_3073 sx sn c1 c2 c3 c4 go a5 p236.2)) else (some (.inl (false, p236.2))))) else none) else none
theorem tj_Law_law_1808 {E : EV} {X : XT} (hfl : X.2.2.2 = false) {sx : Nat → Int} {sn : Nat} (hsn : ScrE E sx sn) {c1 : Nat} (hc1 : HC X 10 c1) {c2 : Nat} (hc2 : HC X 11 c2) {c3 : Nat} (hc3 : HA X 3 1 c3) {c4 : Nat} (hc4 : HA X 4 1 c4) {mc ms : Nat} {K : RK → PS → Prop} {q : (Bool × St) ⊕ (St)} (hx : ∀ p, q = .inr p → ∀ kk nn, kk ≤ mc → nn ≤ ms → Go E M_Law_law mc ms 3079 [] [] (WX X p) kk nn K) (hr : ∀ p, q = .inl p → K (.inl (some (V (bi p.1)))) (WX X p.2)) {fu : Nat} {go : Int × St → Option ((Bool × St) ⊕ (St))} (ih : ∀ a, go a = some q → inR a.1 → ∀ kk nn, kk + 2 * fu ≤ mc → nn + 12 * fu ≤ ms → Go E M_Law_law mc ms 28 [(0, .ref (XB + 200)), (1, .ref c1), (2, .ref c2), (3, .ref c3), (4, .ref c4), (5, V a.1)] [] (WX X a.2) kk nn K) {a5 : Int} (ha5 : inR a5) {t0 : Int} (ht0 : inR t0) {t1 : Int} (ht1 : inR t1) {d2 : Nat} (hd2 : HC X 10 d2) {S : St} {kk nn : Nat} (hkk : kk + 1 + 2 * fu ≤ mc) (hnn : nn + 6 + 12 * fu ≤ ms) (h : jf_Law_law_1808 sx sn c1 c2 c3 c4 go a5 t0 t1 d2 S = some q) : Go E M_Law_law mc ms 1808 [(0, .ref (XB + 200)), (1, .ref c1), (2, .ref c2), (3, .ref c3), (4, .ref c4), (5, V a5)] [V t0, V t1, .ref d2] (WX X S) kk nn K := by
  unfold jf_Law_law_1808 at h
  refine g_aloadn (pc := 1808) (i0 := 3) (j := 3) (dK D_Law_law_20 27 rfl) rfl rfl ?_
  refine bnE h (fun p226 e_p226 h => ?_)
  refine vg_cSX (pc := 1809) (As := [.ref d2, V t1, V t0, .ref c3]) (rest := []) (mc' := 1) (ms' := 6) (dK D_Law_law_20 28 rfl) K_Law_223 (fitK rfl) rfl (leK rfl) (by omega) (by omega) (tf_Law_setColor hfl hd2 ht1 ht0 hc3 e_p226) (kcI (fun h_p226 => ?_))
  refine g_istore (pc := 1812) (ls2 := [(6, V p226.1), (0, .ref (XB + 200)), (1, .ref c1), (2, .ref c2), (3, .ref c3), (4, .ref c4), (5, V a5)]) (dK D_Law_law_20 29 rfl) (ltK rfl) rfl ?_
  refine g_aloadn (pc := 1814) (i0 := 2) (j := 3) (dK D_Law_law_20 30 rfl) rfl rfl ?_
  refine g_aloadn (pc := 1815) (i0 := 0) (j := 1) (dK D_Law_law_20 31 rfl) rfl rfl ?_
  refine g_iload (pc := 1816) (j := 6) (dK D_Law_law_20 32 rfl) rfl ?_
  refine vg_iconst (pc := 1818) (dK D_Law_law_20 33 rfl) ?_
  refine vg_iadd (pc := 1819) (dK D_Law_law_20 34 rfl) ?_
  refine gdE h (fun hi227 h => ?_)
  refine vg_sld (pc := 1820) (dK D_Law_law_20 35 rfl) hsn hi227 ?_
  refine g_aloadn (pc := 1821) (i0 := 0) (j := 1) (dK D_Law_law_20 36 rfl) rfl rfl ?_
  refine g_iload (pc := 1822) (j := 6) (dK D_Law_law_20 37 rfl) rfl ?_
  refine vg_iconst (pc := 1824) (dK D_Law_law_20 38 rfl) ?_
  refine vg_iadd (pc := 1825) (dK D_Law_law_20 39 rfl) ?_
  refine gdE h (fun hi228 h => ?_)
  refine vg_sld (pc := 1826) (dK D_Law_law_20 40 rfl) hsn hi228 ?_
  refine vg_if_eq (pc := 1827) (t := 1834) (dK D_Law_law_20 41 rfl) rfl (hsn.at _) (fun hc243 => ?_) (fun hc243 => ?_)
  · replace h := ifP h hc243
    refine vg_iconst (pc := 1834) (dK D_Law_law_20 44 rfl) ?_
    refine bnE h (fun p229 e_p229 h => ?_)
    refine vg_cV (pc := 1835) (As := [V (sx (((a5 + 1)).toNat)), V 0]) (rest := []) (mc' := 0) (ms' := 0) (dK D_Law_law_20 45 rfl) K_Law_226 (fitK rfl) (ltK rfl) hc2 rfl (leK rfl) (by omega) (by omega) (tf_Mo_setColor hc2 (hsn.at _) (inRk rfl) e_p229) (kcB ?_)
    refine g_istore (pc := 1838) (ls2 := [(7, V (bi p229.1)), (6, V p226.1), (0, .ref (XB + 200)), (1, .ref c1), (2, .ref c2), (3, .ref c3), (4, .ref c4), (5, V a5)]) (dK D_Law_law_20 46 rfl) (ltK rfl) rfl ?_
    refine g_aloadn (pc := 1840) (i0 := 2) (j := 4) (dK D_Law_law_20 47 rfl) rfl rfl ?_
    refine bnE h (fun p230 e_p230 h => ?_)
    refine vg_cV (pc := 1841) (As := []) (rest := []) (mc' := 0) (ms' := 0) (dK D_Law_law_20 48 rfl) K_Law_163 (fitK rfl) (ltK rfl) hc2 rfl (leK rfl) (by omega) (by omega) (tf_Mo_thrown hc2 e_p230) (kcI (fun h_p230 => ?_))
    refine g_iload (pc := 1844) (j := 1) (dK D_Law_law_20 49 rfl) rfl ?_
    refine vg_icmp_eq (pc := 1846) (t := 1851) (dK D_Law_law_21 0 rfl) rfl h_p230 h_p226 (fun hc235 => ?_) (fun hc235 => ?_)
    · replace h := ifP h hc235
      refine g_iload (pc := 1851) (j := 1) (dK D_Law_law_21 3 rfl) rfl ?_
      refine vg_if_ne (pc := 1853) (t := 1875) (dK D_Law_law_21 4 rfl) rfl h_p226 (fun hc234 => ?_) (fun hc234 => ?_)
      · replace h := ifN h hc234
        refine g_goto (pc := 1875) (tgt := 3073) (dK D_Law_law_21 17 rfl) rfl ?_
        refine gL_weak (ls' := [(0, .ref (XB + 200)), (1, .ref c1), (2, .ref c2), (3, .ref c3), (4, .ref c4), (5, V a5)]) (sbc 2 rfl (sbc 3 rfl (sbc 4 rfl (sbc 5 rfl (sbc 6 rfl (sbc 7 rfl sbn)))))) ?_
        exact tj_Law_law_3073 hfl hsn hc1 hc2 hc3 hc4 hx hr ih ha5 (by omega) (by omega) h
      · replace h := ifP h hc234
        refine g_aloadn (pc := 1856) (i0 := 3) (j := 5) (dK D_Law_law_21 5 rfl) rfl rfl ?_
        refine vg_iconst (pc := 1857) (dK D_Law_law_21 6 rfl) ?_
        refine vg_laload (pc := 1858) (j := 0) (dK D_Law_law_21 7 rfl) hc3 rfl ⟨by decide, by decide⟩ rfl ?_
        refine g_iload (pc := 1859) (j := 0) (dK D_Law_law_21 8 rfl) rfl ?_
        refine vg_if_eq (pc := 1861) (t := 1868) (dK D_Law_law_21 9 rfl) rfl (bi_in _) (fun hc233 => ?_) (fun hc233 => ?_)
        · replace h := ifP h hc233
          refine vg_lconst (pc := 1868) (y := 0) (dK D_Law_law_21 12 rfl) rfl ?_
          refine vg_lcmp_eq (pc := 1869) (t := 1875) (dK D_Law_law_21 13 rfl) (dK D_Law_law_21 14 rfl) rfl (gl_in _ _ _) (inLk rfl) (fun hc231 => ?_) (fun hc231 => ?_)
          · replace h := ifP h hc231
            refine g_goto (pc := 1875) (tgt := 3073) (dK D_Law_law_21 17 rfl) rfl ?_
            refine gL_weak (ls' := [(0, .ref (XB + 200)), (1, .ref c1), (2, .ref c2), (3, .ref c3), (4, .ref c4), (5, V a5)]) (sbc 2 rfl (sbc 3 rfl (sbc 4 rfl (sbc 5 rfl (sbc 6 rfl (sbc 7 rfl sbn)))))) ?_
            exact tj_Law_law_3073 hfl hsn hc1 hc2 hc3 hc4 hx hr ih ha5 (by omega) (by omega) h
          · replace h := ifN h hc231
            refine vg_iconst (pc := 1873) (dK D_Law_law_21 15 rfl) ?_
            exact vg_iretB (pc := 1874) (b := false) (dK D_Law_law_21 16 rfl) rfl (by omega) (by omega) (xf hfl) (hr _ (Option.some.inj h).symm)
        · replace h := ifN h hc233
          refine vg_lconst (pc := 1864) (y := 1) (dK D_Law_law_21 10 rfl) rfl ?_
          refine g_goto (pc := 1865) (tgt := 1869) (dK D_Law_law_21 11 rfl) rfl ?_
          refine vg_lcmp_eq (pc := 1869) (t := 1875) (dK D_Law_law_21 13 rfl) (dK D_Law_law_21 14 rfl) rfl (gl_in _ _ _) (inLk rfl) (fun hc232 => ?_) (fun hc232 => ?_)
          · replace h := ifP h hc232
            refine g_goto (pc := 1875) (tgt := 3073) (dK D_Law_law_21 17 rfl) rfl ?_
            refine gL_weak (ls' := [(0, .ref (XB + 200)), (1, .ref c1), (2, .ref c2), (3, .ref c3), (4, .ref c4), (5, V a5)]) (sbc 2 rfl (sbc 3 rfl (sbc 4 rfl (sbc 5 rfl (sbc 6 rfl (sbc 7 rfl sbn)))))) ?_
            exact tj_Law_law_3073 hfl hsn hc1 hc2 hc3 hc4 hx hr ih ha5 (by omega) (by omega) h
          · replace h := ifN h hc232
            refine vg_iconst (pc := 1873) (dK D_Law_law_21 15 rfl) ?_
            exact vg_iretB (pc := 1874) (b := false) (dK D_Law_law_21 16 rfl) rfl (by omega) (by omega) (xf hfl) (hr _ (Option.some.inj h).symm)
    · replace h := ifN h hc235
      refine vg_iconst (pc := 1849) (dK D_Law_law_21 1 rfl) ?_
      exact vg_iretB (pc := 1850) (b := false) (dK D_Law_law_21 2 rfl) rfl (by omega) (by omega) (xf hfl) (hr _ (Option.some.inj h).symm)
  · replace h := ifN h hc243
    refine vg_iconst (pc := 1830) (dK D_Law_law_20 42 rfl) ?_
    refine g_goto (pc := 1831) (tgt := 1835) (dK D_Law_law_20 43 rfl) rfl ?_
    refine bnE h (fun p236 e_p236 h => ?_)
    refine vg_cV (pc := 1835) (As := [V (sx (((a5 + 1)).toNat)), V 1]) (rest := []) (mc' := 0) (ms' := 0) (dK D_Law_law_20 45 rfl) K_Law_226 (fitK rfl) (ltK rfl) hc2 rfl (leK rfl) (by omega) (by omega) (tf_Mo_setColor hc2 (hsn.at _) (inRk rfl) e_p236) (kcB ?_)
    refine g_istore (pc := 1838) (ls2 := [(7, V (bi p236.1)), (6, V p226.1), (0, .ref (XB + 200)), (1, .ref c1), (2, .ref c2), (3, .ref c3), (4, .ref c4), (5, V a5)]) (dK D_Law_law_20 46 rfl) (ltK rfl) rfl ?_
    refine g_aloadn (pc := 1840) (i0 := 2) (j := 4) (dK D_Law_law_20 47 rfl) rfl rfl ?_
    refine bnE h (fun p237 e_p237 h => ?_)
    refine vg_cV (pc := 1841) (As := []) (rest := []) (mc' := 0) (ms' := 0) (dK D_Law_law_20 48 rfl) K_Law_163 (fitK rfl) (ltK rfl) hc2 rfl (leK rfl) (by omega) (by omega) (tf_Mo_thrown hc2 e_p237) (kcI (fun h_p237 => ?_))
    refine g_iload (pc := 1844) (j := 1) (dK D_Law_law_20 49 rfl) rfl ?_
    refine vg_icmp_eq (pc := 1846) (t := 1851) (dK D_Law_law_21 0 rfl) rfl h_p237 h_p226 (fun hc242 => ?_) (fun hc242 => ?_)
    · replace h := ifP h hc242
      refine g_iload (pc := 1851) (j := 1) (dK D_Law_law_21 3 rfl) rfl ?_
      refine vg_if_ne (pc := 1853) (t := 1875) (dK D_Law_law_21 4 rfl) rfl h_p226 (fun hc241 => ?_) (fun hc241 => ?_)
      · replace h := ifN h hc241
        refine g_goto (pc := 1875) (tgt := 3073) (dK D_Law_law_21 17 rfl) rfl ?_
        refine gL_weak (ls' := [(0, .ref (XB + 200)), (1, .ref c1), (2, .ref c2), (3, .ref c3), (4, .ref c4), (5, V a5)]) (sbc 2 rfl (sbc 3 rfl (sbc 4 rfl (sbc 5 rfl (sbc 6 rfl (sbc 7 rfl sbn)))))) ?_
        exact tj_Law_law_3073 hfl hsn hc1 hc2 hc3 hc4 hx hr ih ha5 (by omega) (by omega) h
      · replace h := ifP h hc241
        refine g_aloadn (pc := 1856) (i0 := 3) (j := 5) (dK D_Law_law_21 5 rfl) rfl rfl ?_
        refine vg_iconst (pc := 1857) (dK D_Law_law_21 6 rfl) ?_
        refine vg_laload (pc := 1858) (j := 0) (dK D_Law_law_21 7 rfl) hc3 rfl ⟨by decide, by decide⟩ rfl ?_
        refine g_iload (pc := 1859) (j := 0) (dK D_Law_law_21 8 rfl) rfl ?_
        refine vg_if_eq (pc := 1861) (t := 1868) (dK D_Law_law_21 9 rfl) rfl (bi_in _) (fun hc240 => ?_) (fun hc240 => ?_)
        · replace h := ifP h hc240
          refine vg_lconst (pc := 1868) (y := 0) (dK D_Law_law_21 12 rfl) rfl ?_
          refine vg_lcmp_eq (pc := 1869) (t := 1875) (dK D_Law_law_21 13 rfl) (dK D_Law_law_21 14 rfl) rfl (gl_in _ _ _) (inLk rfl) (fun hc238 => ?_) (fun hc238 => ?_)
          · replace h := ifP h hc238
            refine g_goto (pc := 1875) (tgt := 3073) (dK D_Law_law_21 17 rfl) rfl ?_
            refine gL_weak (ls' := [(0, .ref (XB + 200)), (1, .ref c1), (2, .ref c2), (3, .ref c3), (4, .ref c4), (5, V a5)]) (sbc 2 rfl (sbc 3 rfl (sbc 4 rfl (sbc 5 rfl (sbc 6 rfl (sbc 7 rfl sbn)))))) ?_
            exact tj_Law_law_3073 hfl hsn hc1 hc2 hc3 hc4 hx hr ih ha5 (by omega) (by omega) h
          · replace h := ifN h hc238
            refine vg_iconst (pc := 1873) (dK D_Law_law_21 15 rfl) ?_
            exact vg_iretB (pc := 1874) (b := false) (dK D_Law_law_21 16 rfl) rfl (by omega) (by omega) (xf hfl) (hr _ (Option.some.inj h).symm)
        · replace h := ifN h hc240
          refine vg_lconst (pc := 1864) (y := 1) (dK D_Law_law_21 10 rfl) rfl ?_
          refine g_goto (pc := 1865) (tgt := 1869) (dK D_Law_law_21 11 rfl) rfl ?_
          refine vg_lcmp_eq (pc := 1869) (t := 1875) (dK D_Law_law_21 13 rfl) (dK D_Law_law_21 14 rfl) rfl (gl_in _ _ _) (inLk rfl) (fun hc239 => ?_) (fun hc239 => ?_)
          · replace h := ifP h hc239
            refine g_goto (pc := 1875) (tgt := 3073) (dK D_Law_law_21 17 rfl) rfl ?_
            refine gL_weak (ls' := [(0, .ref (XB + 200)), (1, .ref c1), (2, .ref c2), (3, .ref c3), (4, .ref c4), (5, V a5)]) (sbc 2 rfl (sbc 3 rfl (sbc 4 rfl (sbc 5 rfl (sbc 6 rfl (sbc 7 rfl sbn)))))) ?_
            exact tj_Law_law_3073 hfl hsn hc1 hc2 hc3 hc4 hx hr ih ha5 (by omega) (by omega) h
          · replace h := ifN h hc239
            refine vg_iconst (pc := 1873) (dK D_Law_law_21 15 rfl) ?_
            exact vg_iretB (pc := 1874) (b := false) (dK D_Law_law_21 16 rfl) rfl (by omega) (by omega) (xf hfl) (hr _ (Option.some.inj h).symm)
    · replace h := ifN h hc242
      refine vg_iconst (pc := 1849) (dK D_Law_law_21 1 rfl) ?_
      exact vg_iretB (pc := 1850) (b := false) (dK D_Law_law_21 2 rfl) rfl (by omega) (by omega) (xf hfl) (hr _ (Option.some.inj h).symm)
def jf_Law_law_1787 (sx : Nat → Int) (sn : Nat) (c1 : Nat) (c2 : Nat) (c3 : Nat) (c4 : Nat) (go : Int × St → Option ((Bool × St) ⊕ (St))) (a5 : Int) (S : St) : Option ((Bool × St) ⊕ (St)) := if 0 ≤ (a5 + 1) ∧ (a5 + 1) < (sn : Int) then (if 0 ≤ (a5 + 2) ∧ (a5 + 2) < (sn : Int) then (if (sx (((a5 + 2)).toNat)) = 0 then (jf_Law_law_1808 sx sn c1 c2 c3 c4 go a5 0 (sx (((a5 + 1)).toNat)) c1 S) else (jf_Law_law_1808 sx sn c1 c2 c3 c4 go a5 1 (sx (((a5 + 1)).toNat)) c1 S)) else none) else none
theorem tj_Law_law_1787 {E : EV} {X : XT} (hfl : X.2.2.2 = false) {sx : Nat → Int} {sn : Nat} (hsn : ScrE E sx sn) {c1 : Nat} (hc1 : HC X 10 c1) {c2 : Nat} (hc2 : HC X 11 c2) {c3 : Nat} (hc3 : HA X 3 1 c3) {c4 : Nat} (hc4 : HA X 4 1 c4) {mc ms : Nat} {K : RK → PS → Prop} {q : (Bool × St) ⊕ (St)} (hx : ∀ p, q = .inr p → ∀ kk nn, kk ≤ mc → nn ≤ ms → Go E M_Law_law mc ms 3079 [] [] (WX X p) kk nn K) (hr : ∀ p, q = .inl p → K (.inl (some (V (bi p.1)))) (WX X p.2)) {fu : Nat} {go : Int × St → Option ((Bool × St) ⊕ (St))} (ih : ∀ a, go a = some q → inR a.1 → ∀ kk nn, kk + 2 * fu ≤ mc → nn + 12 * fu ≤ ms → Go E M_Law_law mc ms 28 [(0, .ref (XB + 200)), (1, .ref c1), (2, .ref c2), (3, .ref c3), (4, .ref c4), (5, V a.1)] [] (WX X a.2) kk nn K) {a5 : Int} (ha5 : inR a5) {S : St} {kk nn : Nat} (hkk : kk + 1 + 2 * fu ≤ mc) (hnn : nn + 6 + 12 * fu ≤ ms) (h : jf_Law_law_1787 sx sn c1 c2 c3 c4 go a5 S = some q) : Go E M_Law_law mc ms 1787 [(0, .ref (XB + 200)), (1, .ref c1), (2, .ref c2), (3, .ref c3), (4, .ref c4), (5, V a5)] [] (WX X S) kk nn K := by
  unfold jf_Law_law_1787 at h
  refine g_aloadn (pc := 1787) (i0 := 1) (j := 1) (dK D_Law_law_20 12 rfl) rfl rfl ?_
  refine g_aloadn (pc := 1788) (i0 := 0) (j := 0) (dK D_Law_law_20 13 rfl) rfl rfl ?_
  refine g_iload (pc := 1789) (j := 5) (dK D_Law_law_20 14 rfl) rfl ?_
  refine vg_iconst (pc := 1791) (dK D_Law_law_20 15 rfl) ?_
  refine vg_iadd (pc := 1792) (dK D_Law_law_20 16 rfl) ?_
  refine gdE h (fun hi224 h => ?_)
  refine vg_sld (pc := 1793) (dK D_Law_law_20 17 rfl) hsn hi224 ?_
  refine g_aloadn (pc := 1794) (i0 := 0) (j := 0) (dK D_Law_law_20 18 rfl) rfl rfl ?_
  refine g_iload (pc := 1795) (j := 5) (dK D_Law_law_20 19 rfl) rfl ?_
  refine vg_iconst (pc := 1797) (dK D_Law_law_20 20 rfl) ?_
  refine vg_iadd (pc := 1798) (dK D_Law_law_20 21 rfl) ?_
  refine gdE h (fun hi225 h => ?_)
  refine vg_sld (pc := 1799) (dK D_Law_law_20 22 rfl) hsn hi225 ?_
  refine vg_if_eq (pc := 1800) (t := 1807) (dK D_Law_law_20 23 rfl) rfl (hsn.at _) (fun hc244 => ?_) (fun hc244 => ?_)
  · replace h := ifP h hc244
    refine vg_iconst (pc := 1807) (dK D_Law_law_20 26 rfl) ?_
    exact tj_Law_law_1808 hfl hsn hc1 hc2 hc3 hc4 hx hr ih ha5 (inRk rfl) (hsn.at _) hc1 (by omega) (by omega) h
  · replace h := ifN h hc244
    refine vg_iconst (pc := 1803) (dK D_Law_law_20 24 rfl) ?_
    refine g_goto (pc := 1804) (tgt := 1808) (dK D_Law_law_20 25 rfl) rfl ?_
    exact tj_Law_law_1808 hfl hsn hc1 hc2 hc3 hc4 hx hr ih ha5 (inRk rfl) (hsn.at _) hc1 (by omega) (by omega) h
def jf_Law_law_1878 (sx : Nat → Int) (sn : Nat) (c1 : Nat) (c2 : Nat) (c3 : Nat) (c4 : Nat) (go : Int × St → Option ((Bool × St) ⊕ (St))) (a5 : Int) (S : St) : Option ((Bool × St) ⊕ (St)) := if 0 ≤ (a5 + 1) ∧ (a5 + 1) < (sn : Int) then (if 0 ≤ (a5 + 2) ∧ (a5 + 2) < (sn : Int) then (bnO (fn_Law_setClosing c1 (sx (((a5 + 1)).toNat)) (sx (((a5 + 2)).toNat)) c3 S) fun p248 => bnO (fn_Mo_setClosing c2 (sx (((a5 + 1)).toNat)) (sx (((a5 + 2)).toNat)) p248.2) fun p249 => bnO (fn_Mo_thrown c2 p249.2) fun p250 => if p250 = p248.1 then (if p248.1 = 0 then (if (gl p249.2 c3 0) = p249.1 then (jf_Law_law_3073 sx sn c1 c2 c3 c4 go a5 p249.2) else (some (.inl (false, p249.2)))) else (jf_Law_law_3073 sx sn c1 c2 c3 c4 go a5 p249.2)) else (some (.inl (false, p249.2)))) else none) else none
theorem tj_Law_law_1878 {E : EV} {X : XT} (hfl : X.2.2.2 = false) {sx : Nat → Int} {sn : Nat} (hsn : ScrE E sx sn) {c1 : Nat} (hc1 : HC X 10 c1) {c2 : Nat} (hc2 : HC X 11 c2) {c3 : Nat} (hc3 : HA X 3 1 c3) {c4 : Nat} (hc4 : HA X 4 1 c4) {mc ms : Nat} {K : RK → PS → Prop} {q : (Bool × St) ⊕ (St)} (hx : ∀ p, q = .inr p → ∀ kk nn, kk ≤ mc → nn ≤ ms → Go E M_Law_law mc ms 3079 [] [] (WX X p) kk nn K) (hr : ∀ p, q = .inl p → K (.inl (some (V (bi p.1)))) (WX X p.2)) {fu : Nat} {go : Int × St → Option ((Bool × St) ⊕ (St))} (ih : ∀ a, go a = some q → inR a.1 → ∀ kk nn, kk + 2 * fu ≤ mc → nn + 12 * fu ≤ ms → Go E M_Law_law mc ms 28 [(0, .ref (XB + 200)), (1, .ref c1), (2, .ref c2), (3, .ref c3), (4, .ref c4), (5, V a.1)] [] (WX X a.2) kk nn K) {a5 : Int} (ha5 : inR a5) {S : St} {kk nn : Nat} (hkk : kk + 2 + 2 * fu ≤ mc) (hnn : nn + 12 + 12 * fu ≤ ms) (h : jf_Law_law_1878 sx sn c1 c2 c3 c4 go a5 S = some q) : Go E M_Law_law mc ms 1878 [(0, .ref (XB + 200)), (1, .ref c1), (2, .ref c2), (3, .ref c3), (4, .ref c4), (5, V a5)] [] (WX X S) kk nn K := by
  unfold jf_Law_law_1878 at h
  refine g_aloadn (pc := 1878) (i0 := 1) (j := 1) (dK D_Law_law_21 18 rfl) rfl rfl ?_
  refine g_aloadn (pc := 1879) (i0 := 0) (j := 0) (dK D_Law_law_21 19 rfl) rfl rfl ?_
  refine g_iload (pc := 1880) (j := 5) (dK D_Law_law_21 20 rfl) rfl ?_
  refine vg_iconst (pc := 1882) (dK D_Law_law_21 21 rfl) ?_
  refine vg_iadd (pc := 1883) (dK D_Law_law_21 22 rfl) ?_
  refine gdE h (fun hi246 h => ?_)
  refine vg_sld (pc := 1884) (dK D_Law_law_21 23 rfl) hsn hi246 ?_
  refine g_aloadn (pc := 1885) (i0 := 0) (j := 0) (dK D_Law_law_21 24 rfl) rfl rfl ?_
  refine g_iload (pc := 1886) (j := 5) (dK D_Law_law_21 25 rfl) rfl ?_
  refine vg_iconst (pc := 1888) (dK D_Law_law_21 26 rfl) ?_
  refine vg_iadd (pc := 1889) (dK D_Law_law_21 27 rfl) ?_
  refine gdE h (fun hi247 h => ?_)
  refine vg_sld (pc := 1890) (dK D_Law_law_21 28 rfl) hsn hi247 ?_
  refine g_aloadn (pc := 1891) (i0 := 3) (j := 3) (dK D_Law_law_21 29 rfl) rfl rfl ?_
  refine bnE h (fun p248 e_p248 h => ?_)
  refine vg_cSX (pc := 1892) (As := [.ref c1, V (sx (((a5 + 1)).toNat)), V (sx (((a5 + 2)).toNat)), .ref c3]) (rest := []) (mc' := 2) (ms' := 12) (dK D_Law_law_21 30 rfl) K_Law_227 (fitK rfl) rfl (leK rfl) (by omega) (by omega) (tf_Law_setClosing hfl hc1 (hsn.at _) (hsn.at _) hc3 e_p248) (kcI (fun h_p248 => ?_))
  refine g_istore (pc := 1895) (ls2 := [(6, V p248.1), (0, .ref (XB + 200)), (1, .ref c1), (2, .ref c2), (3, .ref c3), (4, .ref c4), (5, V a5)]) (dK D_Law_law_21 31 rfl) (ltK rfl) rfl ?_
  refine g_aloadn (pc := 1897) (i0 := 2) (j := 3) (dK D_Law_law_21 32 rfl) rfl rfl ?_
  refine g_aloadn (pc := 1898) (i0 := 0) (j := 1) (dK D_Law_law_21 33 rfl) rfl rfl ?_
  refine g_iload (pc := 1899) (j := 6) (dK D_Law_law_21 34 rfl) rfl ?_
  refine vg_iconst (pc := 1901) (dK D_Law_law_21 35 rfl) ?_
  refine vg_iadd (pc := 1902) (dK D_Law_law_21 36 rfl) ?_
  refine vg_sld (pc := 1903) (dK D_Law_law_21 37 rfl) hsn hi246 ?_
  refine g_aloadn (pc := 1904) (i0 := 0) (j := 1) (dK D_Law_law_21 38 rfl) rfl rfl ?_
  refine g_iload (pc := 1905) (j := 6) (dK D_Law_law_21 39 rfl) rfl ?_
  refine vg_iconst (pc := 1907) (dK D_Law_law_21 40 rfl) ?_
  refine vg_iadd (pc := 1908) (dK D_Law_law_21 41 rfl) ?_
  refine vg_sld (pc := 1909) (dK D_Law_law_21 42 rfl) hsn hi247 ?_
  refine bnE h (fun p249 e_p249 h => ?_)
  refine vg_cV (pc := 1910) (As := [V (sx (((a5 + 1)).toNat)), V (sx (((a5 + 2)).toNat))]) (rest := []) (mc' := 0) (ms' := 0) (dK D_Law_law_21 43 rfl) K_Law_229 (fitK rfl) (ltK rfl) hc2 rfl (leK rfl) (by omega) (by omega) (tf_Mo_setClosing hc2 (hsn.at _) (hsn.at _) e_p249) (kcI (fun h_p249 => ?_))
  refine g_istore (pc := 1913) (ls2 := [(7, V p249.1), (6, V p248.1), (0, .ref (XB + 200)), (1, .ref c1), (2, .ref c2), (3, .ref c3), (4, .ref c4), (5, V a5)]) (dK D_Law_law_21 44 rfl) (ltK rfl) rfl ?_
  refine g_aloadn (pc := 1915) (i0 := 2) (j := 4) (dK D_Law_law_21 45 rfl) rfl rfl ?_
  refine bnE h (fun p250 e_p250 h => ?_)
  refine vg_cV (pc := 1916) (As := []) (rest := []) (mc' := 0) (ms' := 0) (dK D_Law_law_21 46 rfl) K_Law_163 (fitK rfl) (ltK rfl) hc2 rfl (leK rfl) (by omega) (by omega) (tf_Mo_thrown hc2 e_p250) (kcI (fun h_p250 => ?_))
  refine g_iload (pc := 1919) (j := 1) (dK D_Law_law_21 47 rfl) rfl ?_
  refine vg_icmp_eq (pc := 1921) (t := 1926) (dK D_Law_law_21 48 rfl) rfl h_p250 h_p248 (fun hc253 => ?_) (fun hc253 => ?_)
  · replace h := ifP h hc253
    refine g_iload (pc := 1926) (j := 1) (dK D_Law_law_22 1 rfl) rfl ?_
    refine vg_if_ne (pc := 1928) (t := 1943) (dK D_Law_law_22 2 rfl) rfl h_p248 (fun hc252 => ?_) (fun hc252 => ?_)
    · replace h := ifN h hc252
      refine g_goto (pc := 1943) (tgt := 3073) (dK D_Law_law_22 12 rfl) rfl ?_
      refine gL_weak (ls' := [(0, .ref (XB + 200)), (1, .ref c1), (2, .ref c2), (3, .ref c3), (4, .ref c4), (5, V a5)]) (sbc 2 rfl (sbc 3 rfl (sbc 4 rfl (sbc 5 rfl (sbc 6 rfl (sbc 7 rfl sbn)))))) ?_
      exact tj_Law_law_3073 hfl hsn hc1 hc2 hc3 hc4 hx hr ih ha5 (by omega) (by omega) h
    · replace h := ifP h hc252
      refine g_aloadn (pc := 1931) (i0 := 3) (j := 5) (dK D_Law_law_22 3 rfl) rfl rfl ?_
      refine vg_iconst (pc := 1932) (dK D_Law_law_22 4 rfl) ?_
      refine vg_laload (pc := 1933) (j := 0) (dK D_Law_law_22 5 rfl) hc3 rfl ⟨by decide, by decide⟩ rfl ?_
      refine g_iload (pc := 1934) (j := 0) (dK D_Law_law_22 6 rfl) rfl ?_
      refine vg_i2l (pc := 1936) (dK D_Law_law_22 7 rfl) h_p249 ?_
      refine vg_lcmp_eq (pc := 1937) (t := 1943) (dK D_Law_law_22 8 rfl) (dK D_Law_law_22 9 rfl) rfl (gl_in _ _ _) (inR_L h_p249) (fun hc251 => ?_) (fun hc251 => ?_)
      · replace h := ifP h hc251
        refine g_goto (pc := 1943) (tgt := 3073) (dK D_Law_law_22 12 rfl) rfl ?_
        refine gL_weak (ls' := [(0, .ref (XB + 200)), (1, .ref c1), (2, .ref c2), (3, .ref c3), (4, .ref c4), (5, V a5)]) (sbc 2 rfl (sbc 3 rfl (sbc 4 rfl (sbc 5 rfl (sbc 6 rfl (sbc 7 rfl sbn)))))) ?_
        exact tj_Law_law_3073 hfl hsn hc1 hc2 hc3 hc4 hx hr ih ha5 (by omega) (by omega) h
      · replace h := ifN h hc251
        refine vg_iconst (pc := 1941) (dK D_Law_law_22 10 rfl) ?_
        exact vg_iretB (pc := 1942) (b := false) (dK D_Law_law_22 11 rfl) rfl (by omega) (by omega) (xf hfl) (hr _ (Option.some.inj h).symm)
  · replace h := ifN h hc253
    refine vg_iconst (pc := 1924) (dK D_Law_law_21 49 rfl) ?_
    exact vg_iretB (pc := 1925) (b := false) (dK D_Law_law_22 0 rfl) rfl (by omega) (by omega) (xf hfl) (hr _ (Option.some.inj h).symm)
def jf_Law_law_1946 (sx : Nat → Int) (sn : Nat) (c1 : Nat) (c2 : Nat) (c3 : Nat) (c4 : Nat) (go : Int × St → Option ((Bool × St) ⊕ (St))) (a5 : Int) (S : St) : Option ((Bool × St) ⊕ (St)) := if 0 ≤ (a5 + 1) ∧ (a5 + 1) < (sn : Int) then (bnO (fn_Law_pass c1 (sx (((a5 + 1)).toNat)) c3 S) fun p256 => bnO (fn_Mo_pass c2 (sx (((a5 + 1)).toNat)) p256.2) fun p257 => bnO (fn_Mo_thrown c2 p257.2) fun p258 => if p258 = p256.1 then (if p256.1 = 0 then (if (gl p257.2 c3 0) = p257.1 then (jf_Law_law_3073 sx sn c1 c2 c3 c4 go a5 p257.2) else (some (.inl (false, p257.2)))) else (jf_Law_law_3073 sx sn c1 c2 c3 c4 go a5 p257.2)) else (some (.inl (false, p257.2)))) else none
theorem tj_Law_law_1946 {E : EV} {X : XT} (hfl : X.2.2.2 = false) {sx : Nat → Int} {sn : Nat} (hsn : ScrE E sx sn) {c1 : Nat} (hc1 : HC X 10 c1) {c2 : Nat} (hc2 : HC X 11 c2) {c3 : Nat} (hc3 : HA X 3 1 c3) {c4 : Nat} (hc4 : HA X 4 1 c4) {mc ms : Nat} {K : RK → PS → Prop} {q : (Bool × St) ⊕ (St)} (hx : ∀ p, q = .inr p → ∀ kk nn, kk ≤ mc → nn ≤ ms → Go E M_Law_law mc ms 3079 [] [] (WX X p) kk nn K) (hr : ∀ p, q = .inl p → K (.inl (some (V (bi p.1)))) (WX X p.2)) {fu : Nat} {go : Int × St → Option ((Bool × St) ⊕ (St))} (ih : ∀ a, go a = some q → inR a.1 → ∀ kk nn, kk + 2 * fu ≤ mc → nn + 12 * fu ≤ ms → Go E M_Law_law mc ms 28 [(0, .ref (XB + 200)), (1, .ref c1), (2, .ref c2), (3, .ref c3), (4, .ref c4), (5, V a.1)] [] (WX X a.2) kk nn K) {a5 : Int} (ha5 : inR a5) {S : St} {kk nn : Nat} (hkk : kk + 1 + 2 * fu ≤ mc) (hnn : nn + 6 + 12 * fu ≤ ms) (h : jf_Law_law_1946 sx sn c1 c2 c3 c4 go a5 S = some q) : Go E M_Law_law mc ms 1946 [(0, .ref (XB + 200)), (1, .ref c1), (2, .ref c2), (3, .ref c3), (4, .ref c4), (5, V a5)] [] (WX X S) kk nn K := by
  unfold jf_Law_law_1946 at h
  refine g_aloadn (pc := 1946) (i0 := 1) (j := 1) (dK D_Law_law_22 13 rfl) rfl rfl ?_
  refine g_aloadn (pc := 1947) (i0 := 0) (j := 0) (dK D_Law_law_22 14 rfl) rfl rfl ?_
  refine g_iload (pc := 1948) (j := 5) (dK D_Law_law_22 15 rfl) rfl ?_
  refine vg_iconst (pc := 1950) (dK D_Law_law_22 16 rfl) ?_
  refine vg_iadd (pc := 1951) (dK D_Law_law_22 17 rfl) ?_
  refine gdE h (fun hi255 h => ?_)
  refine vg_sld (pc := 1952) (dK D_Law_law_22 18 rfl) hsn hi255 ?_
  refine g_aloadn (pc := 1953) (i0 := 3) (j := 3) (dK D_Law_law_22 19 rfl) rfl rfl ?_
  refine bnE h (fun p256 e_p256 h => ?_)
  refine vg_cSX (pc := 1954) (As := [.ref c1, V (sx (((a5 + 1)).toNat)), .ref c3]) (rest := []) (mc' := 1) (ms' := 6) (dK D_Law_law_22 20 rfl) K_Law_230 (fitK rfl) rfl (leK rfl) (by omega) (by omega) (tf_Law_pass hfl hc1 (hsn.at _) hc3 e_p256) (kcI (fun h_p256 => ?_))
  refine g_istore (pc := 1957) (ls2 := [(6, V p256.1), (0, .ref (XB + 200)), (1, .ref c1), (2, .ref c2), (3, .ref c3), (4, .ref c4), (5, V a5)]) (dK D_Law_law_22 21 rfl) (ltK rfl) rfl ?_
  refine g_aloadn (pc := 1959) (i0 := 2) (j := 3) (dK D_Law_law_22 22 rfl) rfl rfl ?_
  refine g_aloadn (pc := 1960) (i0 := 0) (j := 1) (dK D_Law_law_22 23 rfl) rfl rfl ?_
  refine g_iload (pc := 1961) (j := 6) (dK D_Law_law_22 24 rfl) rfl ?_
  refine vg_iconst (pc := 1963) (dK D_Law_law_22 25 rfl) ?_
  refine vg_iadd (pc := 1964) (dK D_Law_law_22 26 rfl) ?_
  refine vg_sld (pc := 1965) (dK D_Law_law_22 27 rfl) hsn hi255 ?_
  refine bnE h (fun p257 e_p257 h => ?_)
  refine vg_cV (pc := 1966) (As := [V (sx (((a5 + 1)).toNat))]) (rest := []) (mc' := 0) (ms' := 0) (dK D_Law_law_22 28 rfl) K_Law_232 (fitK rfl) (ltK rfl) hc2 rfl (leK rfl) (by omega) (by omega) (tf_Mo_pass hc2 (hsn.at _) e_p257) (kcI (fun h_p257 => ?_))
  refine g_istore (pc := 1969) (ls2 := [(7, V p257.1), (6, V p256.1), (0, .ref (XB + 200)), (1, .ref c1), (2, .ref c2), (3, .ref c3), (4, .ref c4), (5, V a5)]) (dK D_Law_law_22 29 rfl) (ltK rfl) rfl ?_
  refine g_aloadn (pc := 1971) (i0 := 2) (j := 4) (dK D_Law_law_22 30 rfl) rfl rfl ?_
  refine bnE h (fun p258 e_p258 h => ?_)
  refine vg_cV (pc := 1972) (As := []) (rest := []) (mc' := 0) (ms' := 0) (dK D_Law_law_22 31 rfl) K_Law_163 (fitK rfl) (ltK rfl) hc2 rfl (leK rfl) (by omega) (by omega) (tf_Mo_thrown hc2 e_p258) (kcI (fun h_p258 => ?_))
  refine g_iload (pc := 1975) (j := 1) (dK D_Law_law_22 32 rfl) rfl ?_
  refine vg_icmp_eq (pc := 1977) (t := 1982) (dK D_Law_law_22 33 rfl) rfl h_p258 h_p256 (fun hc261 => ?_) (fun hc261 => ?_)
  · replace h := ifP h hc261
    refine g_iload (pc := 1982) (j := 1) (dK D_Law_law_22 36 rfl) rfl ?_
    refine vg_if_ne (pc := 1984) (t := 1999) (dK D_Law_law_22 37 rfl) rfl h_p256 (fun hc260 => ?_) (fun hc260 => ?_)
    · replace h := ifN h hc260
      refine g_goto (pc := 1999) (tgt := 3073) (dK D_Law_law_22 47 rfl) rfl ?_
      refine gL_weak (ls' := [(0, .ref (XB + 200)), (1, .ref c1), (2, .ref c2), (3, .ref c3), (4, .ref c4), (5, V a5)]) (sbc 2 rfl (sbc 3 rfl (sbc 4 rfl (sbc 5 rfl (sbc 6 rfl (sbc 7 rfl sbn)))))) ?_
      exact tj_Law_law_3073 hfl hsn hc1 hc2 hc3 hc4 hx hr ih ha5 (by omega) (by omega) h
    · replace h := ifP h hc260
      refine g_aloadn (pc := 1987) (i0 := 3) (j := 5) (dK D_Law_law_22 38 rfl) rfl rfl ?_
      refine vg_iconst (pc := 1988) (dK D_Law_law_22 39 rfl) ?_
      refine vg_laload (pc := 1989) (j := 0) (dK D_Law_law_22 40 rfl) hc3 rfl ⟨by decide, by decide⟩ rfl ?_
      refine g_iload (pc := 1990) (j := 0) (dK D_Law_law_22 41 rfl) rfl ?_
      refine vg_i2l (pc := 1992) (dK D_Law_law_22 42 rfl) h_p257 ?_
      refine vg_lcmp_eq (pc := 1993) (t := 1999) (dK D_Law_law_22 43 rfl) (dK D_Law_law_22 44 rfl) rfl (gl_in _ _ _) (inR_L h_p257) (fun hc259 => ?_) (fun hc259 => ?_)
      · replace h := ifP h hc259
        refine g_goto (pc := 1999) (tgt := 3073) (dK D_Law_law_22 47 rfl) rfl ?_
        refine gL_weak (ls' := [(0, .ref (XB + 200)), (1, .ref c1), (2, .ref c2), (3, .ref c3), (4, .ref c4), (5, V a5)]) (sbc 2 rfl (sbc 3 rfl (sbc 4 rfl (sbc 5 rfl (sbc 6 rfl (sbc 7 rfl sbn)))))) ?_
        exact tj_Law_law_3073 hfl hsn hc1 hc2 hc3 hc4 hx hr ih ha5 (by omega) (by omega) h
      · replace h := ifN h hc259
        refine vg_iconst (pc := 1997) (dK D_Law_law_22 45 rfl) ?_
        exact vg_iretB (pc := 1998) (b := false) (dK D_Law_law_22 46 rfl) rfl (by omega) (by omega) (xf hfl) (hr _ (Option.some.inj h).symm)
  · replace h := ifN h hc261
    refine vg_iconst (pc := 1980) (dK D_Law_law_22 34 rfl) ?_
    exact vg_iretB (pc := 1981) (b := false) (dK D_Law_law_22 35 rfl) rfl (by omega) (by omega) (xf hfl) (hr _ (Option.some.inj h).symm)
def jf_Law_law_2002 (sx : Nat → Int) (sn : Nat) (c1 : Nat) (c2 : Nat) (c3 : Nat) (c4 : Nat) (go : Int × St → Option ((Bool × St) ⊕ (St))) (a5 : Int) (S : St) : Option ((Bool × St) ⊕ (St)) := if 0 ≤ (a5 + 1) ∧ (a5 + 1) < (sn : Int) then (bnO (fn_Law_print c1 (sx (((a5 + 1)).toNat)) c3 S) fun p264 => bnO (fn_Mo_print c2 (sx (((a5 + 1)).toNat)) p264.2) fun p265 => bnO (fn_Mo_thrown c2 p265.2) fun p266 => if p266 = p264.1 then (if p264.1 = 0 then (if (gl p265.2 c3 0) = p265.1 then (jf_Law_law_3073 sx sn c1 c2 c3 c4 go a5 p265.2) else (some (.inl (false, p265.2)))) else (jf_Law_law_3073 sx sn c1 c2 c3 c4 go a5 p265.2)) else (some (.inl (false, p265.2)))) else none
theorem tj_Law_law_2002 {E : EV} {X : XT} (hfl : X.2.2.2 = false) {sx : Nat → Int} {sn : Nat} (hsn : ScrE E sx sn) {c1 : Nat} (hc1 : HC X 10 c1) {c2 : Nat} (hc2 : HC X 11 c2) {c3 : Nat} (hc3 : HA X 3 1 c3) {c4 : Nat} (hc4 : HA X 4 1 c4) {mc ms : Nat} {K : RK → PS → Prop} {q : (Bool × St) ⊕ (St)} (hx : ∀ p, q = .inr p → ∀ kk nn, kk ≤ mc → nn ≤ ms → Go E M_Law_law mc ms 3079 [] [] (WX X p) kk nn K) (hr : ∀ p, q = .inl p → K (.inl (some (V (bi p.1)))) (WX X p.2)) {fu : Nat} {go : Int × St → Option ((Bool × St) ⊕ (St))} (ih : ∀ a, go a = some q → inR a.1 → ∀ kk nn, kk + 2 * fu ≤ mc → nn + 12 * fu ≤ ms → Go E M_Law_law mc ms 28 [(0, .ref (XB + 200)), (1, .ref c1), (2, .ref c2), (3, .ref c3), (4, .ref c4), (5, V a.1)] [] (WX X a.2) kk nn K) {a5 : Int} (ha5 : inR a5) {S : St} {kk nn : Nat} (hkk : kk + 1 + 2 * fu ≤ mc) (hnn : nn + 6 + 12 * fu ≤ ms) (h : jf_Law_law_2002 sx sn c1 c2 c3 c4 go a5 S = some q) : Go E M_Law_law mc ms 2002 [(0, .ref (XB + 200)), (1, .ref c1), (2, .ref c2), (3, .ref c3), (4, .ref c4), (5, V a5)] [] (WX X S) kk nn K := by
  unfold jf_Law_law_2002 at h
  refine g_aloadn (pc := 2002) (i0 := 1) (j := 1) (dK D_Law_law_22 48 rfl) rfl rfl ?_
  refine g_aloadn (pc := 2003) (i0 := 0) (j := 0) (dK D_Law_law_22 49 rfl) rfl rfl ?_
  refine g_iload (pc := 2004) (j := 5) (dK D_Law_law_23 0 rfl) rfl ?_
  refine vg_iconst (pc := 2006) (dK D_Law_law_23 1 rfl) ?_
  refine vg_iadd (pc := 2007) (dK D_Law_law_23 2 rfl) ?_
  refine gdE h (fun hi263 h => ?_)
  refine vg_sld (pc := 2008) (dK D_Law_law_23 3 rfl) hsn hi263 ?_
  refine g_aloadn (pc := 2009) (i0 := 3) (j := 3) (dK D_Law_law_23 4 rfl) rfl rfl ?_
  refine bnE h (fun p264 e_p264 h => ?_)
  refine vg_cSX (pc := 2010) (As := [.ref c1, V (sx (((a5 + 1)).toNat)), .ref c3]) (rest := []) (mc' := 1) (ms' := 6) (dK D_Law_law_23 5 rfl) K_Law_233 (fitK rfl) rfl (leK rfl) (by omega) (by omega) (tf_Law_print hfl hc1 (hsn.at _) hc3 e_p264) (kcI (fun h_p264 => ?_))
  refine g_istore (pc := 2013) (ls2 := [(6, V p264.1), (0, .ref (XB + 200)), (1, .ref c1), (2, .ref c2), (3, .ref c3), (4, .ref c4), (5, V a5)]) (dK D_Law_law_23 6 rfl) (ltK rfl) rfl ?_
  refine g_aloadn (pc := 2015) (i0 := 2) (j := 3) (dK D_Law_law_23 7 rfl) rfl rfl ?_
  refine g_aloadn (pc := 2016) (i0 := 0) (j := 1) (dK D_Law_law_23 8 rfl) rfl rfl ?_
  refine g_iload (pc := 2017) (j := 6) (dK D_Law_law_23 9 rfl) rfl ?_
  refine vg_iconst (pc := 2019) (dK D_Law_law_23 10 rfl) ?_
  refine vg_iadd (pc := 2020) (dK D_Law_law_23 11 rfl) ?_
  refine vg_sld (pc := 2021) (dK D_Law_law_23 12 rfl) hsn hi263 ?_
  refine bnE h (fun p265 e_p265 h => ?_)
  refine vg_cV (pc := 2022) (As := [V (sx (((a5 + 1)).toNat))]) (rest := []) (mc' := 0) (ms' := 0) (dK D_Law_law_23 13 rfl) K_Law_235 (fitK rfl) (ltK rfl) hc2 rfl (leK rfl) (by omega) (by omega) (tf_Mo_print hc2 (hsn.at _) e_p265) (kcI (fun h_p265 => ?_))
  refine g_istore (pc := 2025) (ls2 := [(7, V p265.1), (6, V p264.1), (0, .ref (XB + 200)), (1, .ref c1), (2, .ref c2), (3, .ref c3), (4, .ref c4), (5, V a5)]) (dK D_Law_law_23 14 rfl) (ltK rfl) rfl ?_
  refine g_aloadn (pc := 2027) (i0 := 2) (j := 4) (dK D_Law_law_23 15 rfl) rfl rfl ?_
  refine bnE h (fun p266 e_p266 h => ?_)
  refine vg_cV (pc := 2028) (As := []) (rest := []) (mc' := 0) (ms' := 0) (dK D_Law_law_23 16 rfl) K_Law_163 (fitK rfl) (ltK rfl) hc2 rfl (leK rfl) (by omega) (by omega) (tf_Mo_thrown hc2 e_p266) (kcI (fun h_p266 => ?_))
  refine g_iload (pc := 2031) (j := 1) (dK D_Law_law_23 17 rfl) rfl ?_
  refine vg_icmp_eq (pc := 2033) (t := 2038) (dK D_Law_law_23 18 rfl) rfl h_p266 h_p264 (fun hc269 => ?_) (fun hc269 => ?_)
  · replace h := ifP h hc269
    refine g_iload (pc := 2038) (j := 1) (dK D_Law_law_23 21 rfl) rfl ?_
    refine vg_if_ne (pc := 2040) (t := 2055) (dK D_Law_law_23 22 rfl) rfl h_p264 (fun hc268 => ?_) (fun hc268 => ?_)
    · replace h := ifN h hc268
      refine g_goto (pc := 2055) (tgt := 3073) (dK D_Law_law_23 32 rfl) rfl ?_
      refine gL_weak (ls' := [(0, .ref (XB + 200)), (1, .ref c1), (2, .ref c2), (3, .ref c3), (4, .ref c4), (5, V a5)]) (sbc 2 rfl (sbc 3 rfl (sbc 4 rfl (sbc 5 rfl (sbc 6 rfl (sbc 7 rfl sbn)))))) ?_
      exact tj_Law_law_3073 hfl hsn hc1 hc2 hc3 hc4 hx hr ih ha5 (by omega) (by omega) h
    · replace h := ifP h hc268
      refine g_aloadn (pc := 2043) (i0 := 3) (j := 5) (dK D_Law_law_23 23 rfl) rfl rfl ?_
      refine vg_iconst (pc := 2044) (dK D_Law_law_23 24 rfl) ?_
      refine vg_laload (pc := 2045) (j := 0) (dK D_Law_law_23 25 rfl) hc3 rfl ⟨by decide, by decide⟩ rfl ?_
      refine g_iload (pc := 2046) (j := 0) (dK D_Law_law_23 26 rfl) rfl ?_
      refine vg_i2l (pc := 2048) (dK D_Law_law_23 27 rfl) h_p265 ?_
      refine vg_lcmp_eq (pc := 2049) (t := 2055) (dK D_Law_law_23 28 rfl) (dK D_Law_law_23 29 rfl) rfl (gl_in _ _ _) (inR_L h_p265) (fun hc267 => ?_) (fun hc267 => ?_)
      · replace h := ifP h hc267
        refine g_goto (pc := 2055) (tgt := 3073) (dK D_Law_law_23 32 rfl) rfl ?_
        refine gL_weak (ls' := [(0, .ref (XB + 200)), (1, .ref c1), (2, .ref c2), (3, .ref c3), (4, .ref c4), (5, V a5)]) (sbc 2 rfl (sbc 3 rfl (sbc 4 rfl (sbc 5 rfl (sbc 6 rfl (sbc 7 rfl sbn)))))) ?_
        exact tj_Law_law_3073 hfl hsn hc1 hc2 hc3 hc4 hx hr ih ha5 (by omega) (by omega) h
      · replace h := ifN h hc267
        refine vg_iconst (pc := 2053) (dK D_Law_law_23 30 rfl) ?_
        exact vg_iretB (pc := 2054) (b := false) (dK D_Law_law_23 31 rfl) rfl (by omega) (by omega) (xf hfl) (hr _ (Option.some.inj h).symm)
  · replace h := ifN h hc269
    refine vg_iconst (pc := 2036) (dK D_Law_law_23 19 rfl) ?_
    exact vg_iretB (pc := 2037) (b := false) (dK D_Law_law_23 20 rfl) rfl (by omega) (by omega) (xf hfl) (hr _ (Option.some.inj h).symm)
def jf_Law_law_2058 (sx : Nat → Int) (sn : Nat) (c1 : Nat) (c2 : Nat) (c3 : Nat) (c4 : Nat) (go : Int × St → Option ((Bool × St) ⊕ (St))) (a5 : Int) (S : St) : Option ((Bool × St) ⊕ (St)) := bnO (fn_FP_nextClosing c1 S) fun p271 => bnO (fn_Mo_nextClosing c2 S) fun p272 => if p271 = p272.1 then (jf_Law_law_3073 sx sn c1 c2 c3 c4 go a5 p272.2) else (some (.inl (false, p272.2)))
theorem tj_Law_law_2058 {E : EV} {X : XT} (hfl : X.2.2.2 = false) {sx : Nat → Int} {sn : Nat} (hsn : ScrE E sx sn) {c1 : Nat} (hc1 : HC X 10 c1) {c2 : Nat} (hc2 : HC X 11 c2) {c3 : Nat} (hc3 : HA X 3 1 c3) {c4 : Nat} (hc4 : HA X 4 1 c4) {mc ms : Nat} {K : RK → PS → Prop} {q : (Bool × St) ⊕ (St)} (hx : ∀ p, q = .inr p → ∀ kk nn, kk ≤ mc → nn ≤ ms → Go E M_Law_law mc ms 3079 [] [] (WX X p) kk nn K) (hr : ∀ p, q = .inl p → K (.inl (some (V (bi p.1)))) (WX X p.2)) {fu : Nat} {go : Int × St → Option ((Bool × St) ⊕ (St))} (ih : ∀ a, go a = some q → inR a.1 → ∀ kk nn, kk + 2 * fu ≤ mc → nn + 12 * fu ≤ ms → Go E M_Law_law mc ms 28 [(0, .ref (XB + 200)), (1, .ref c1), (2, .ref c2), (3, .ref c3), (4, .ref c4), (5, V a.1)] [] (WX X a.2) kk nn K) {a5 : Int} (ha5 : inR a5) {S : St} {kk nn : Nat} (hkk : kk + 0 + 2 * fu ≤ mc) (hnn : nn + 0 + 12 * fu ≤ ms) (h : jf_Law_law_2058 sx sn c1 c2 c3 c4 go a5 S = some q) : Go E M_Law_law mc ms 2058 [(0, .ref (XB + 200)), (1, .ref c1), (2, .ref c2), (3, .ref c3), (4, .ref c4), (5, V a5)] [] (WX X S) kk nn K := by
  unfold jf_Law_law_2058 at h
  refine g_aloadn (pc := 2058) (i0 := 1) (j := 1) (dK D_Law_law_23 33 rfl) rfl rfl ?_
  refine bnE h (fun p271 e_p271 h => ?_)
  refine vg_cV (pc := 2059) (As := []) (rest := []) (mc' := 0) (ms' := 0) (dK D_Law_law_23 34 rfl) K_Law_236 (fitK rfl) (ltK rfl) hc1 rfl (leK rfl) (by omega) (by omega) (tf_FP_nextClosing hc1 e_p271) (kcI (fun h_p271 => ?_))
  refine g_aloadn (pc := 2062) (i0 := 2) (j := 2) (dK D_Law_law_23 35 rfl) rfl rfl ?_
  refine bnE h (fun p272 e_p272 h => ?_)
  refine vg_cV (pc := 2063) (As := []) (rest := [V p271]) (mc' := 0) (ms' := 0) (dK D_Law_law_23 36 rfl) K_Law_239 (fitK rfl) (ltK rfl) hc2 rfl (leK rfl) (by omega) (by omega) (tf_Mo_nextClosing hc2 e_p272) (kcI (fun h_p272 => ?_))
  refine vg_icmp_eq (pc := 2066) (t := 3073) (dK D_Law_law_23 37 rfl) rfl h_p271 h_p272 (fun hc273 => ?_) (fun hc273 => ?_)
  · replace h := ifP h hc273
    exact tj_Law_law_3073 hfl hsn hc1 hc2 hc3 hc4 hx hr ih ha5 (by omega) (by omega) h
  · replace h := ifN h hc273
    refine vg_iconst (pc := 2069) (dK D_Law_law_23 38 rfl) ?_
    exact vg_iretB (pc := 2070) (b := false) (dK D_Law_law_23 39 rfl) rfl (by omega) (by omega) (xf hfl) (hr _ (Option.some.inj h).symm)
def jf_Law_law_2071 (sx : Nat → Int) (sn : Nat) (c1 : Nat) (c2 : Nat) (c3 : Nat) (c4 : Nat) (go : Int × St → Option ((Bool × St) ⊕ (St))) (a5 : Int) (S : St) : Option ((Bool × St) ⊕ (St)) := bnO (fn_FP_placeAds c1 S) fun p275 => bnO (fn_Mo_placeAds c2 p275.2) fun p276 => if p275.1 = p276.1 then (jf_Law_law_3073 sx sn c1 c2 c3 c4 go a5 p276.2) else (some (.inl (false, p276.2)))
theorem tj_Law_law_2071 {E : EV} {X : XT} (hfl : X.2.2.2 = false) {sx : Nat → Int} {sn : Nat} (hsn : ScrE E sx sn) {c1 : Nat} (hc1 : HC X 10 c1) {c2 : Nat} (hc2 : HC X 11 c2) {c3 : Nat} (hc3 : HA X 3 1 c3) {c4 : Nat} (hc4 : HA X 4 1 c4) {mc ms : Nat} {K : RK → PS → Prop} {q : (Bool × St) ⊕ (St)} (hx : ∀ p, q = .inr p → ∀ kk nn, kk ≤ mc → nn ≤ ms → Go E M_Law_law mc ms 3079 [] [] (WX X p) kk nn K) (hr : ∀ p, q = .inl p → K (.inl (some (V (bi p.1)))) (WX X p.2)) {fu : Nat} {go : Int × St → Option ((Bool × St) ⊕ (St))} (ih : ∀ a, go a = some q → inR a.1 → ∀ kk nn, kk + 2 * fu ≤ mc → nn + 12 * fu ≤ ms → Go E M_Law_law mc ms 28 [(0, .ref (XB + 200)), (1, .ref c1), (2, .ref c2), (3, .ref c3), (4, .ref c4), (5, V a.1)] [] (WX X a.2) kk nn K) {a5 : Int} (ha5 : inR a5) {S : St} {kk nn : Nat} (hkk : kk + 0 + 2 * fu ≤ mc) (hnn : nn + 0 + 12 * fu ≤ ms) (h : jf_Law_law_2071 sx sn c1 c2 c3 c4 go a5 S = some q) : Go E M_Law_law mc ms 2071 [(0, .ref (XB + 200)), (1, .ref c1), (2, .ref c2), (3, .ref c3), (4, .ref c4), (5, V a5)] [] (WX X S) kk nn K := by
  unfold jf_Law_law_2071 at h
  refine g_aloadn (pc := 2071) (i0 := 1) (j := 1) (dK D_Law_law_23 40 rfl) rfl rfl ?_
  refine bnE h (fun p275 e_p275 h => ?_)
  refine vg_cV (pc := 2072) (As := []) (rest := []) (mc' := 0) (ms' := 0) (dK D_Law_law_23 41 rfl) K_Law_240 (fitK rfl) (ltK rfl) hc1 rfl (leK rfl) (by omega) (by omega) (tf_FP_placeAds hc1 e_p275) (kcI (fun h_p275 => ?_))
  refine g_aloadn (pc := 2075) (i0 := 2) (j := 2) (dK D_Law_law_23 42 rfl) rfl rfl ?_
  refine bnE h (fun p276 e_p276 h => ?_)
  refine vg_cV (pc := 2076) (As := []) (rest := [V p275.1]) (mc' := 0) (ms' := 0) (dK D_Law_law_23 43 rfl) K_Law_243 (fitK rfl) (ltK rfl) hc2 rfl (leK rfl) (by omega) (by omega) (tf_Mo_placeAds hc2 e_p276) (kcI (fun h_p276 => ?_))
  refine vg_icmp_eq (pc := 2079) (t := 3073) (dK D_Law_law_23 44 rfl) rfl h_p275 h_p276 (fun hc277 => ?_) (fun hc277 => ?_)
  · replace h := ifP h hc277
    exact tj_Law_law_3073 hfl hsn hc1 hc2 hc3 hc4 hx hr ih ha5 (by omega) (by omega) h
  · replace h := ifN h hc277
    refine vg_iconst (pc := 2082) (dK D_Law_law_23 45 rfl) ?_
    exact vg_iretB (pc := 2083) (b := false) (dK D_Law_law_23 46 rfl) rfl (by omega) (by omega) (xf hfl) (hr _ (Option.some.inj h).symm)
def jf_Law_law_2084 (sx : Nat → Int) (sn : Nat) (c1 : Nat) (c2 : Nat) (c3 : Nat) (c4 : Nat) (go : Int × St → Option ((Bool × St) ⊕ (St))) (a5 : Int) (S : St) : Option ((Bool × St) ⊕ (St)) := bnO (fn_FP_layStories c1 S) fun p279 => bnO (fn_Mo_layStories c2 p279.2) fun p280 => if p279.1 = p280.1 then (jf_Law_law_3073 sx sn c1 c2 c3 c4 go a5 p280.2) else (some (.inl (false, p280.2)))
theorem tj_Law_law_2084 {E : EV} {X : XT} (hfl : X.2.2.2 = false) {sx : Nat → Int} {sn : Nat} (hsn : ScrE E sx sn) {c1 : Nat} (hc1 : HC X 10 c1) {c2 : Nat} (hc2 : HC X 11 c2) {c3 : Nat} (hc3 : HA X 3 1 c3) {c4 : Nat} (hc4 : HA X 4 1 c4) {mc ms : Nat} {K : RK → PS → Prop} {q : (Bool × St) ⊕ (St)} (hx : ∀ p, q = .inr p → ∀ kk nn, kk ≤ mc → nn ≤ ms → Go E M_Law_law mc ms 3079 [] [] (WX X p) kk nn K) (hr : ∀ p, q = .inl p → K (.inl (some (V (bi p.1)))) (WX X p.2)) {fu : Nat} {go : Int × St → Option ((Bool × St) ⊕ (St))} (ih : ∀ a, go a = some q → inR a.1 → ∀ kk nn, kk + 2 * fu ≤ mc → nn + 12 * fu ≤ ms → Go E M_Law_law mc ms 28 [(0, .ref (XB + 200)), (1, .ref c1), (2, .ref c2), (3, .ref c3), (4, .ref c4), (5, V a.1)] [] (WX X a.2) kk nn K) {a5 : Int} (ha5 : inR a5) {S : St} {kk nn : Nat} (hkk : kk + 0 + 2 * fu ≤ mc) (hnn : nn + 0 + 12 * fu ≤ ms) (h : jf_Law_law_2084 sx sn c1 c2 c3 c4 go a5 S = some q) : Go E M_Law_law mc ms 2084 [(0, .ref (XB + 200)), (1, .ref c1), (2, .ref c2), (3, .ref c3), (4, .ref c4), (5, V a5)] [] (WX X S) kk nn K := by
  unfold jf_Law_law_2084 at h
  refine g_aloadn (pc := 2084) (i0 := 1) (j := 1) (dK D_Law_law_23 47 rfl) rfl rfl ?_
  refine bnE h (fun p279 e_p279 h => ?_)
  refine vg_cV (pc := 2085) (As := []) (rest := []) (mc' := 0) (ms' := 0) (dK D_Law_law_23 48 rfl) K_Law_244 (fitK rfl) (ltK rfl) hc1 rfl (leK rfl) (by omega) (by omega) (tf_FP_layStories hc1 e_p279) (kcI (fun h_p279 => ?_))
  refine g_aloadn (pc := 2088) (i0 := 2) (j := 2) (dK D_Law_law_23 49 rfl) rfl rfl ?_
  refine bnE h (fun p280 e_p280 h => ?_)
  refine vg_cV (pc := 2089) (As := []) (rest := [V p279.1]) (mc' := 0) (ms' := 0) (dK D_Law_law_24 0 rfl) K_Law_247 (fitK rfl) (ltK rfl) hc2 rfl (leK rfl) (by omega) (by omega) (tf_Mo_layStories hc2 e_p280) (kcI (fun h_p280 => ?_))
  refine vg_icmp_eq (pc := 2092) (t := 3073) (dK D_Law_law_24 1 rfl) rfl h_p279 h_p280 (fun hc281 => ?_) (fun hc281 => ?_)
  · replace h := ifP h hc281
    exact tj_Law_law_3073 hfl hsn hc1 hc2 hc3 hc4 hx hr ih ha5 (by omega) (by omega) h
  · replace h := ifN h hc281
    refine vg_iconst (pc := 2095) (dK D_Law_law_24 2 rfl) ?_
    exact vg_iretB (pc := 2096) (b := false) (dK D_Law_law_24 3 rfl) rfl (by omega) (by omega) (xf hfl) (hr _ (Option.some.inj h).symm)
def jf_Law_law_2097 (sx : Nat → Int) (sn : Nat) (c1 : Nat) (c2 : Nat) (c3 : Nat) (c4 : Nat) (go : Int × St → Option ((Bool × St) ⊕ (St))) (a5 : Int) (S : St) : Option ((Bool × St) ⊕ (St)) := if 0 ≤ (a5 + 1) ∧ (a5 + 1) < (sn : Int) then (bnO (fn_Law_choices c1 (sx (((a5 + 1)).toNat)) c3 S) fun p284 => bnO (fn_Mo_choices c2 (sx (((a5 + 1)).toNat)) p284.2) fun p285 => bnO (fn_Mo_thrown c2 p285.2) fun p286 => if p286 = p284.1 then (if p284.1 = 0 then (if (gl p285.2 c3 0) = p285.1 then (jf_Law_law_3073 sx sn c1 c2 c3 c4 go a5 p285.2) else (some (.inl (false, p285.2)))) else (jf_Law_law_3073 sx sn c1 c2 c3 c4 go a5 p285.2)) else (some (.inl (false, p285.2)))) else none
theorem tj_Law_law_2097 {E : EV} {X : XT} (hfl : X.2.2.2 = false) {sx : Nat → Int} {sn : Nat} (hsn : ScrE E sx sn) {c1 : Nat} (hc1 : HC X 10 c1) {c2 : Nat} (hc2 : HC X 11 c2) {c3 : Nat} (hc3 : HA X 3 1 c3) {c4 : Nat} (hc4 : HA X 4 1 c4) {mc ms : Nat} {K : RK → PS → Prop} {q : (Bool × St) ⊕ (St)} (hx : ∀ p, q = .inr p → ∀ kk nn, kk ≤ mc → nn ≤ ms → Go E M_Law_law mc ms 3079 [] [] (WX X p) kk nn K) (hr : ∀ p, q = .inl p → K (.inl (some (V (bi p.1)))) (WX X p.2)) {fu : Nat} {go : Int × St → Option ((Bool × St) ⊕ (St))} (ih : ∀ a, go a = some q → inR a.1 → ∀ kk nn, kk + 2 * fu ≤ mc → nn + 12 * fu ≤ ms → Go E M_Law_law mc ms 28 [(0, .ref (XB + 200)), (1, .ref c1), (2, .ref c2), (3, .ref c3), (4, .ref c4), (5, V a.1)] [] (WX X a.2) kk nn K) {a5 : Int} (ha5 : inR a5) {S : St} {kk nn : Nat} (hkk : kk + 1 + 2 * fu ≤ mc) (hnn : nn + 6 + 12 * fu ≤ ms) (h : jf_Law_law_2097 sx sn c1 c2 c3 c4 go a5 S = some q) : Go E M_Law_law mc ms 2097 [(0, .ref (XB + 200)), (1, .ref c1), (2, .ref c2), (3, .ref c3), (4, .ref c4), (5, V a5)] [] (WX X S) kk nn K := by
  unfold jf_Law_law_2097 at h
  refine g_aloadn (pc := 2097) (i0 := 1) (j := 1) (dK D_Law_law_24 4 rfl) rfl rfl ?_
  refine g_aloadn (pc := 2098) (i0 := 0) (j := 0) (dK D_Law_law_24 5 rfl) rfl rfl ?_
  refine g_iload (pc := 2099) (j := 5) (dK D_Law_law_24 6 rfl) rfl ?_
  refine vg_iconst (pc := 2101) (dK D_Law_law_24 7 rfl) ?_
  refine vg_iadd (pc := 2102) (dK D_Law_law_24 8 rfl) ?_
  refine gdE h (fun hi283 h => ?_)
  refine vg_sld (pc := 2103) (dK D_Law_law_24 9 rfl) hsn hi283 ?_
  refine g_aloadn (pc := 2104) (i0 := 3) (j := 3) (dK D_Law_law_24 10 rfl) rfl rfl ?_
  refine bnE h (fun p284 e_p284 h => ?_)
  refine vg_cSX (pc := 2105) (As := [.ref c1, V (sx (((a5 + 1)).toNat)), .ref c3]) (rest := []) (mc' := 1) (ms' := 6) (dK D_Law_law_24 11 rfl) K_Law_248 (fitK rfl) rfl (leK rfl) (by omega) (by omega) (tf_Law_choices hfl hc1 (hsn.at _) hc3 e_p284) (kcI (fun h_p284 => ?_))
  refine g_istore (pc := 2108) (ls2 := [(6, V p284.1), (0, .ref (XB + 200)), (1, .ref c1), (2, .ref c2), (3, .ref c3), (4, .ref c4), (5, V a5)]) (dK D_Law_law_24 12 rfl) (ltK rfl) rfl ?_
  refine g_aloadn (pc := 2110) (i0 := 2) (j := 3) (dK D_Law_law_24 13 rfl) rfl rfl ?_
  refine g_aloadn (pc := 2111) (i0 := 0) (j := 1) (dK D_Law_law_24 14 rfl) rfl rfl ?_
  refine g_iload (pc := 2112) (j := 6) (dK D_Law_law_24 15 rfl) rfl ?_
  refine vg_iconst (pc := 2114) (dK D_Law_law_24 16 rfl) ?_
  refine vg_iadd (pc := 2115) (dK D_Law_law_24 17 rfl) ?_
  refine vg_sld (pc := 2116) (dK D_Law_law_24 18 rfl) hsn hi283 ?_
  refine bnE h (fun p285 e_p285 h => ?_)
  refine vg_cV (pc := 2117) (As := [V (sx (((a5 + 1)).toNat))]) (rest := []) (mc' := 0) (ms' := 0) (dK D_Law_law_24 19 rfl) K_Law_250 (fitK rfl) (ltK rfl) hc2 rfl (leK rfl) (by omega) (by omega) (tf_Mo_choices hc2 (hsn.at _) e_p285) (kcI (fun h_p285 => ?_))
  refine g_istore (pc := 2120) (ls2 := [(7, V p285.1), (6, V p284.1), (0, .ref (XB + 200)), (1, .ref c1), (2, .ref c2), (3, .ref c3), (4, .ref c4), (5, V a5)]) (dK D_Law_law_24 20 rfl) (ltK rfl) rfl ?_
  refine g_aloadn (pc := 2122) (i0 := 2) (j := 4) (dK D_Law_law_24 21 rfl) rfl rfl ?_
  refine bnE h (fun p286 e_p286 h => ?_)
  refine vg_cV (pc := 2123) (As := []) (rest := []) (mc' := 0) (ms' := 0) (dK D_Law_law_24 22 rfl) K_Law_163 (fitK rfl) (ltK rfl) hc2 rfl (leK rfl) (by omega) (by omega) (tf_Mo_thrown hc2 e_p286) (kcI (fun h_p286 => ?_))
  refine g_iload (pc := 2126) (j := 1) (dK D_Law_law_24 23 rfl) rfl ?_
  refine vg_icmp_eq (pc := 2128) (t := 2133) (dK D_Law_law_24 24 rfl) rfl h_p286 h_p284 (fun hc289 => ?_) (fun hc289 => ?_)
  · replace h := ifP h hc289
    refine g_iload (pc := 2133) (j := 1) (dK D_Law_law_24 27 rfl) rfl ?_
    refine vg_if_ne (pc := 2135) (t := 2150) (dK D_Law_law_24 28 rfl) rfl h_p284 (fun hc288 => ?_) (fun hc288 => ?_)
    · replace h := ifN h hc288
      refine g_goto (pc := 2150) (tgt := 3073) (dK D_Law_law_24 38 rfl) rfl ?_
      refine gL_weak (ls' := [(0, .ref (XB + 200)), (1, .ref c1), (2, .ref c2), (3, .ref c3), (4, .ref c4), (5, V a5)]) (sbc 2 rfl (sbc 3 rfl (sbc 4 rfl (sbc 5 rfl (sbc 6 rfl (sbc 7 rfl sbn)))))) ?_
      exact tj_Law_law_3073 hfl hsn hc1 hc2 hc3 hc4 hx hr ih ha5 (by omega) (by omega) h
    · replace h := ifP h hc288
      refine g_aloadn (pc := 2138) (i0 := 3) (j := 5) (dK D_Law_law_24 29 rfl) rfl rfl ?_
      refine vg_iconst (pc := 2139) (dK D_Law_law_24 30 rfl) ?_
      refine vg_laload (pc := 2140) (j := 0) (dK D_Law_law_24 31 rfl) hc3 rfl ⟨by decide, by decide⟩ rfl ?_
      refine g_iload (pc := 2141) (j := 0) (dK D_Law_law_24 32 rfl) rfl ?_
      refine vg_i2l (pc := 2143) (dK D_Law_law_24 33 rfl) h_p285 ?_
      refine vg_lcmp_eq (pc := 2144) (t := 2150) (dK D_Law_law_24 34 rfl) (dK D_Law_law_24 35 rfl) rfl (gl_in _ _ _) (inR_L h_p285) (fun hc287 => ?_) (fun hc287 => ?_)
      · replace h := ifP h hc287
        refine g_goto (pc := 2150) (tgt := 3073) (dK D_Law_law_24 38 rfl) rfl ?_
        refine gL_weak (ls' := [(0, .ref (XB + 200)), (1, .ref c1), (2, .ref c2), (3, .ref c3), (4, .ref c4), (5, V a5)]) (sbc 2 rfl (sbc 3 rfl (sbc 4 rfl (sbc 5 rfl (sbc 6 rfl (sbc 7 rfl sbn)))))) ?_
        exact tj_Law_law_3073 hfl hsn hc1 hc2 hc3 hc4 hx hr ih ha5 (by omega) (by omega) h
      · replace h := ifN h hc287
        refine vg_iconst (pc := 2148) (dK D_Law_law_24 36 rfl) ?_
        exact vg_iretB (pc := 2149) (b := false) (dK D_Law_law_24 37 rfl) rfl (by omega) (by omega) (xf hfl) (hr _ (Option.some.inj h).symm)
  · replace h := ifN h hc289
    refine vg_iconst (pc := 2131) (dK D_Law_law_24 25 rfl) ?_
    exact vg_iretB (pc := 2132) (b := false) (dK D_Law_law_24 26 rfl) rfl (by omega) (by omega) (xf hfl) (hr _ (Option.some.inj h).symm)
def jf_Law_law_2153 (sx : Nat → Int) (sn : Nat) (c1 : Nat) (c2 : Nat) (c3 : Nat) (c4 : Nat) (go : Int × St → Option ((Bool × St) ⊕ (St))) (a5 : Int) (S : St) : Option ((Bool × St) ⊕ (St)) := if 0 ≤ (a5 + 1) ∧ (a5 + 1) < (sn : Int) then (if 0 ≤ (a5 + 2) ∧ (a5 + 2) < (sn : Int) then (bnO (fn_Law_firstPage c1 (sx (((a5 + 1)).toNat)) (sx (((a5 + 2)).toNat)) c3 S) fun p293 => bnO (fn_Mo_firstPage c2 (sx (((a5 + 1)).toNat)) (sx (((a5 + 2)).toNat)) p293.2) fun p294 => bnO (fn_Mo_thrown c2 p294.2) fun p295 => if p295 = p293.1 then (if p293.1 = 0 then (if (gl p294.2 c3 0) = p294.1 then (jf_Law_law_3073 sx sn c1 c2 c3 c4 go a5 p294.2) else (some (.inl (false, p294.2)))) else (jf_Law_law_3073 sx sn c1 c2 c3 c4 go a5 p294.2)) else (some (.inl (false, p294.2)))) else none) else none
theorem tj_Law_law_2153 {E : EV} {X : XT} (hfl : X.2.2.2 = false) {sx : Nat → Int} {sn : Nat} (hsn : ScrE E sx sn) {c1 : Nat} (hc1 : HC X 10 c1) {c2 : Nat} (hc2 : HC X 11 c2) {c3 : Nat} (hc3 : HA X 3 1 c3) {c4 : Nat} (hc4 : HA X 4 1 c4) {mc ms : Nat} {K : RK → PS → Prop} {q : (Bool × St) ⊕ (St)} (hx : ∀ p, q = .inr p → ∀ kk nn, kk ≤ mc → nn ≤ ms → Go E M_Law_law mc ms 3079 [] [] (WX X p) kk nn K) (hr : ∀ p, q = .inl p → K (.inl (some (V (bi p.1)))) (WX X p.2)) {fu : Nat} {go : Int × St → Option ((Bool × St) ⊕ (St))} (ih : ∀ a, go a = some q → inR a.1 → ∀ kk nn, kk + 2 * fu ≤ mc → nn + 12 * fu ≤ ms → Go E M_Law_law mc ms 28 [(0, .ref (XB + 200)), (1, .ref c1), (2, .ref c2), (3, .ref c3), (4, .ref c4), (5, V a.1)] [] (WX X a.2) kk nn K) {a5 : Int} (ha5 : inR a5) {S : St} {kk nn : Nat} (hkk : kk + 1 + 2 * fu ≤ mc) (hnn : nn + 6 + 12 * fu ≤ ms) (h : jf_Law_law_2153 sx sn c1 c2 c3 c4 go a5 S = some q) : Go E M_Law_law mc ms 2153 [(0, .ref (XB + 200)), (1, .ref c1), (2, .ref c2), (3, .ref c3), (4, .ref c4), (5, V a5)] [] (WX X S) kk nn K := by
  unfold jf_Law_law_2153 at h
  refine g_aloadn (pc := 2153) (i0 := 1) (j := 1) (dK D_Law_law_24 39 rfl) rfl rfl ?_
  refine g_aloadn (pc := 2154) (i0 := 0) (j := 0) (dK D_Law_law_24 40 rfl) rfl rfl ?_
  refine g_iload (pc := 2155) (j := 5) (dK D_Law_law_24 41 rfl) rfl ?_
  refine vg_iconst (pc := 2157) (dK D_Law_law_24 42 rfl) ?_
  refine vg_iadd (pc := 2158) (dK D_Law_law_24 43 rfl) ?_
  refine gdE h (fun hi291 h => ?_)
  refine vg_sld (pc := 2159) (dK D_Law_law_24 44 rfl) hsn hi291 ?_
  refine g_aloadn (pc := 2160) (i0 := 0) (j := 0) (dK D_Law_law_24 45 rfl) rfl rfl ?_
  refine g_iload (pc := 2161) (j := 5) (dK D_Law_law_24 46 rfl) rfl ?_
  refine vg_iconst (pc := 2163) (dK D_Law_law_24 47 rfl) ?_
  refine vg_iadd (pc := 2164) (dK D_Law_law_24 48 rfl) ?_
  refine gdE h (fun hi292 h => ?_)
  refine vg_sld (pc := 2165) (dK D_Law_law_24 49 rfl) hsn hi292 ?_
  refine g_aloadn (pc := 2166) (i0 := 3) (j := 3) (dK D_Law_law_25 0 rfl) rfl rfl ?_
  refine bnE h (fun p293 e_p293 h => ?_)
  refine vg_cSX (pc := 2167) (As := [.ref c1, V (sx (((a5 + 1)).toNat)), V (sx (((a5 + 2)).toNat)), .ref c3]) (rest := []) (mc' := 1) (ms' := 6) (dK D_Law_law_25 1 rfl) K_Law_251 (fitK rfl) rfl (leK rfl) (by omega) (by omega) (tf_Law_firstPage hfl hc1 (hsn.at _) (hsn.at _) hc3 e_p293) (kcI (fun h_p293 => ?_))
  refine g_istore (pc := 2170) (ls2 := [(6, V p293.1), (0, .ref (XB + 200)), (1, .ref c1), (2, .ref c2), (3, .ref c3), (4, .ref c4), (5, V a5)]) (dK D_Law_law_25 2 rfl) (ltK rfl) rfl ?_
  refine g_aloadn (pc := 2172) (i0 := 2) (j := 3) (dK D_Law_law_25 3 rfl) rfl rfl ?_
  refine g_aloadn (pc := 2173) (i0 := 0) (j := 1) (dK D_Law_law_25 4 rfl) rfl rfl ?_
  refine g_iload (pc := 2174) (j := 6) (dK D_Law_law_25 5 rfl) rfl ?_
  refine vg_iconst (pc := 2176) (dK D_Law_law_25 6 rfl) ?_
  refine vg_iadd (pc := 2177) (dK D_Law_law_25 7 rfl) ?_
  refine vg_sld (pc := 2178) (dK D_Law_law_25 8 rfl) hsn hi291 ?_
  refine g_aloadn (pc := 2179) (i0 := 0) (j := 1) (dK D_Law_law_25 9 rfl) rfl rfl ?_
  refine g_iload (pc := 2180) (j := 6) (dK D_Law_law_25 10 rfl) rfl ?_
  refine vg_iconst (pc := 2182) (dK D_Law_law_25 11 rfl) ?_
  refine vg_iadd (pc := 2183) (dK D_Law_law_25 12 rfl) ?_
  refine vg_sld (pc := 2184) (dK D_Law_law_25 13 rfl) hsn hi292 ?_
  refine bnE h (fun p294 e_p294 h => ?_)
  refine vg_cV (pc := 2185) (As := [V (sx (((a5 + 1)).toNat)), V (sx (((a5 + 2)).toNat))]) (rest := []) (mc' := 0) (ms' := 0) (dK D_Law_law_25 14 rfl) K_Law_253 (fitK rfl) (ltK rfl) hc2 rfl (leK rfl) (by omega) (by omega) (tf_Mo_firstPage hc2 (hsn.at _) (hsn.at _) e_p294) (kcI (fun h_p294 => ?_))
  refine g_istore (pc := 2188) (ls2 := [(7, V p294.1), (6, V p293.1), (0, .ref (XB + 200)), (1, .ref c1), (2, .ref c2), (3, .ref c3), (4, .ref c4), (5, V a5)]) (dK D_Law_law_25 15 rfl) (ltK rfl) rfl ?_
  refine g_aloadn (pc := 2190) (i0 := 2) (j := 4) (dK D_Law_law_25 16 rfl) rfl rfl ?_
  refine bnE h (fun p295 e_p295 h => ?_)
  refine vg_cV (pc := 2191) (As := []) (rest := []) (mc' := 0) (ms' := 0) (dK D_Law_law_25 17 rfl) K_Law_163 (fitK rfl) (ltK rfl) hc2 rfl (leK rfl) (by omega) (by omega) (tf_Mo_thrown hc2 e_p295) (kcI (fun h_p295 => ?_))
  refine g_iload (pc := 2194) (j := 1) (dK D_Law_law_25 18 rfl) rfl ?_
  refine vg_icmp_eq (pc := 2196) (t := 2201) (dK D_Law_law_25 19 rfl) rfl h_p295 h_p293 (fun hc298 => ?_) (fun hc298 => ?_)
  · replace h := ifP h hc298
    refine g_iload (pc := 2201) (j := 1) (dK D_Law_law_25 22 rfl) rfl ?_
    refine vg_if_ne (pc := 2203) (t := 2218) (dK D_Law_law_25 23 rfl) rfl h_p293 (fun hc297 => ?_) (fun hc297 => ?_)
    · replace h := ifN h hc297
      refine g_goto (pc := 2218) (tgt := 3073) (dK D_Law_law_25 33 rfl) rfl ?_
      refine gL_weak (ls' := [(0, .ref (XB + 200)), (1, .ref c1), (2, .ref c2), (3, .ref c3), (4, .ref c4), (5, V a5)]) (sbc 2 rfl (sbc 3 rfl (sbc 4 rfl (sbc 5 rfl (sbc 6 rfl (sbc 7 rfl sbn)))))) ?_
      exact tj_Law_law_3073 hfl hsn hc1 hc2 hc3 hc4 hx hr ih ha5 (by omega) (by omega) h
    · replace h := ifP h hc297
      refine g_aloadn (pc := 2206) (i0 := 3) (j := 5) (dK D_Law_law_25 24 rfl) rfl rfl ?_
      refine vg_iconst (pc := 2207) (dK D_Law_law_25 25 rfl) ?_
      refine vg_laload (pc := 2208) (j := 0) (dK D_Law_law_25 26 rfl) hc3 rfl ⟨by decide, by decide⟩ rfl ?_
      refine g_iload (pc := 2209) (j := 0) (dK D_Law_law_25 27 rfl) rfl ?_
      refine vg_i2l (pc := 2211) (dK D_Law_law_25 28 rfl) h_p294 ?_
      refine vg_lcmp_eq (pc := 2212) (t := 2218) (dK D_Law_law_25 29 rfl) (dK D_Law_law_25 30 rfl) rfl (gl_in _ _ _) (inR_L h_p294) (fun hc296 => ?_) (fun hc296 => ?_)
      · replace h := ifP h hc296
        refine g_goto (pc := 2218) (tgt := 3073) (dK D_Law_law_25 33 rfl) rfl ?_
        refine gL_weak (ls' := [(0, .ref (XB + 200)), (1, .ref c1), (2, .ref c2), (3, .ref c3), (4, .ref c4), (5, V a5)]) (sbc 2 rfl (sbc 3 rfl (sbc 4 rfl (sbc 5 rfl (sbc 6 rfl (sbc 7 rfl sbn)))))) ?_
        exact tj_Law_law_3073 hfl hsn hc1 hc2 hc3 hc4 hx hr ih ha5 (by omega) (by omega) h
      · replace h := ifN h hc296
        refine vg_iconst (pc := 2216) (dK D_Law_law_25 31 rfl) ?_
        exact vg_iretB (pc := 2217) (b := false) (dK D_Law_law_25 32 rfl) rfl (by omega) (by omega) (xf hfl) (hr _ (Option.some.inj h).symm)
  · replace h := ifN h hc298
    refine vg_iconst (pc := 2199) (dK D_Law_law_25 20 rfl) ?_
    exact vg_iretB (pc := 2200) (b := false) (dK D_Law_law_25 21 rfl) rfl (by omega) (by omega) (xf hfl) (hr _ (Option.some.inj h).symm)
def jf_Law_law_2221 (sx : Nat → Int) (sn : Nat) (c1 : Nat) (c2 : Nat) (c3 : Nat) (c4 : Nat) (go : Int × St → Option ((Bool × St) ⊕ (St))) (a5 : Int) (S : St) : Option ((Bool × St) ⊕ (St)) := bnO (fn_FP_tightest c1 S) fun p300 => bnO (fn_Mo_tightest c2 S) fun p301 => if p300 = p301.1 then (jf_Law_law_3073 sx sn c1 c2 c3 c4 go a5 p301.2) else (some (.inl (false, p301.2)))
theorem tj_Law_law_2221 {E : EV} {X : XT} (hfl : X.2.2.2 = false) {sx : Nat → Int} {sn : Nat} (hsn : ScrE E sx sn) {c1 : Nat} (hc1 : HC X 10 c1) {c2 : Nat} (hc2 : HC X 11 c2) {c3 : Nat} (hc3 : HA X 3 1 c3) {c4 : Nat} (hc4 : HA X 4 1 c4) {mc ms : Nat} {K : RK → PS → Prop} {q : (Bool × St) ⊕ (St)} (hx : ∀ p, q = .inr p → ∀ kk nn, kk ≤ mc → nn ≤ ms → Go E M_Law_law mc ms 3079 [] [] (WX X p) kk nn K) (hr : ∀ p, q = .inl p → K (.inl (some (V (bi p.1)))) (WX X p.2)) {fu : Nat} {go : Int × St → Option ((Bool × St) ⊕ (St))} (ih : ∀ a, go a = some q → inR a.1 → ∀ kk nn, kk + 2 * fu ≤ mc → nn + 12 * fu ≤ ms → Go E M_Law_law mc ms 28 [(0, .ref (XB + 200)), (1, .ref c1), (2, .ref c2), (3, .ref c3), (4, .ref c4), (5, V a.1)] [] (WX X a.2) kk nn K) {a5 : Int} (ha5 : inR a5) {S : St} {kk nn : Nat} (hkk : kk + 0 + 2 * fu ≤ mc) (hnn : nn + 0 + 12 * fu ≤ ms) (h : jf_Law_law_2221 sx sn c1 c2 c3 c4 go a5 S = some q) : Go E M_Law_law mc ms 2221 [(0, .ref (XB + 200)), (1, .ref c1), (2, .ref c2), (3, .ref c3), (4, .ref c4), (5, V a5)] [] (WX X S) kk nn K := by
  unfold jf_Law_law_2221 at h
  refine g_aloadn (pc := 2221) (i0 := 1) (j := 1) (dK D_Law_law_25 34 rfl) rfl rfl ?_
  refine bnE h (fun p300 e_p300 h => ?_)
  refine vg_cV (pc := 2222) (As := []) (rest := []) (mc' := 0) (ms' := 0) (dK D_Law_law_25 35 rfl) K_Law_254 (fitK rfl) (ltK rfl) hc1 rfl (leK rfl) (by omega) (by omega) (tf_FP_tightest hc1 e_p300) (kcI (fun h_p300 => ?_))
  refine g_aloadn (pc := 2225) (i0 := 2) (j := 2) (dK D_Law_law_25 36 rfl) rfl rfl ?_
  refine bnE h (fun p301 e_p301 h => ?_)
  refine vg_cV (pc := 2226) (As := []) (rest := [V p300]) (mc' := 0) (ms' := 0) (dK D_Law_law_25 37 rfl) K_Law_257 (fitK rfl) (ltK rfl) hc2 rfl (leK rfl) (by omega) (by omega) (tf_Mo_tightest hc2 e_p301) (kcI (fun h_p301 => ?_))
  refine vg_icmp_eq (pc := 2229) (t := 3073) (dK D_Law_law_25 38 rfl) rfl h_p300 h_p301 (fun hc302 => ?_) (fun hc302 => ?_)
  · replace h := ifP h hc302
    exact tj_Law_law_3073 hfl hsn hc1 hc2 hc3 hc4 hx hr ih ha5 (by omega) (by omega) h
  · replace h := ifN h hc302
    refine vg_iconst (pc := 2232) (dK D_Law_law_25 39 rfl) ?_
    exact vg_iretB (pc := 2233) (b := false) (dK D_Law_law_25 40 rfl) rfl (by omega) (by omega) (xf hfl) (hr _ (Option.some.inj h).symm)
def jf_Law_law_2234 (sx : Nat → Int) (sn : Nat) (c1 : Nat) (c2 : Nat) (c3 : Nat) (c4 : Nat) (go : Int × St → Option ((Bool × St) ⊕ (St))) (a5 : Int) (S : St) : Option ((Bool × St) ⊕ (St)) := if 0 ≤ (a5 + 1) ∧ (a5 + 1) < (sn : Int) then (if 0 ≤ (a5 + 2) ∧ (a5 + 2) < (sn : Int) then (bnO (fn_Law_eviction c1 (sx (((a5 + 1)).toNat)) (sx (((a5 + 2)).toNat)) c3 S) fun p306 => bnO (fn_Mo_eviction c2 (sx (((a5 + 1)).toNat)) (sx (((a5 + 2)).toNat)) p306.2) fun p307 => bnO (fn_Mo_thrown c2 p307.2) fun p308 => if p308 = p306.1 then (if p306.1 = 0 then (if (gl p307.2 c3 0) = p307.1 then (jf_Law_law_3073 sx sn c1 c2 c3 c4 go a5 p307.2) else (some (.inl (false, p307.2)))) else (jf_Law_law_3073 sx sn c1 c2 c3 c4 go a5 p307.2)) else (some (.inl (false, p307.2)))) else none) else none
theorem tj_Law_law_2234 {E : EV} {X : XT} (hfl : X.2.2.2 = false) {sx : Nat → Int} {sn : Nat} (hsn : ScrE E sx sn) {c1 : Nat} (hc1 : HC X 10 c1) {c2 : Nat} (hc2 : HC X 11 c2) {c3 : Nat} (hc3 : HA X 3 1 c3) {c4 : Nat} (hc4 : HA X 4 1 c4) {mc ms : Nat} {K : RK → PS → Prop} {q : (Bool × St) ⊕ (St)} (hx : ∀ p, q = .inr p → ∀ kk nn, kk ≤ mc → nn ≤ ms → Go E M_Law_law mc ms 3079 [] [] (WX X p) kk nn K) (hr : ∀ p, q = .inl p → K (.inl (some (V (bi p.1)))) (WX X p.2)) {fu : Nat} {go : Int × St → Option ((Bool × St) ⊕ (St))} (ih : ∀ a, go a = some q → inR a.1 → ∀ kk nn, kk + 2 * fu ≤ mc → nn + 12 * fu ≤ ms → Go E M_Law_law mc ms 28 [(0, .ref (XB + 200)), (1, .ref c1), (2, .ref c2), (3, .ref c3), (4, .ref c4), (5, V a.1)] [] (WX X a.2) kk nn K) {a5 : Int} (ha5 : inR a5) {S : St} {kk nn : Nat} (hkk : kk + 2 + 2 * fu ≤ mc) (hnn : nn + 12 + 12 * fu ≤ ms) (h : jf_Law_law_2234 sx sn c1 c2 c3 c4 go a5 S = some q) : Go E M_Law_law mc ms 2234 [(0, .ref (XB + 200)), (1, .ref c1), (2, .ref c2), (3, .ref c3), (4, .ref c4), (5, V a5)] [] (WX X S) kk nn K := by
  unfold jf_Law_law_2234 at h
  refine g_aloadn (pc := 2234) (i0 := 1) (j := 1) (dK D_Law_law_25 41 rfl) rfl rfl ?_
  refine g_aloadn (pc := 2235) (i0 := 0) (j := 0) (dK D_Law_law_25 42 rfl) rfl rfl ?_
  refine g_iload (pc := 2236) (j := 5) (dK D_Law_law_25 43 rfl) rfl ?_
  refine vg_iconst (pc := 2238) (dK D_Law_law_25 44 rfl) ?_
  refine vg_iadd (pc := 2239) (dK D_Law_law_25 45 rfl) ?_
  refine gdE h (fun hi304 h => ?_)
  refine vg_sld (pc := 2240) (dK D_Law_law_25 46 rfl) hsn hi304 ?_
  refine g_aloadn (pc := 2241) (i0 := 0) (j := 0) (dK D_Law_law_25 47 rfl) rfl rfl ?_
  refine g_iload (pc := 2242) (j := 5) (dK D_Law_law_25 48 rfl) rfl ?_
  refine vg_iconst (pc := 2244) (dK D_Law_law_25 49 rfl) ?_
  refine vg_iadd (pc := 2245) (dK D_Law_law_26 0 rfl) ?_
  refine gdE h (fun hi305 h => ?_)
  refine vg_sld (pc := 2246) (dK D_Law_law_26 1 rfl) hsn hi305 ?_
  refine g_aloadn (pc := 2247) (i0 := 3) (j := 3) (dK D_Law_law_26 2 rfl) rfl rfl ?_
  refine bnE h (fun p306 e_p306 h => ?_)
  refine vg_cSX (pc := 2248) (As := [.ref c1, V (sx (((a5 + 1)).toNat)), V (sx (((a5 + 2)).toNat)), .ref c3]) (rest := []) (mc' := 2) (ms' := 12) (dK D_Law_law_26 3 rfl) K_Law_258 (fitK rfl) rfl (leK rfl) (by omega) (by omega) (tf_Law_eviction hfl hc1 (hsn.at _) (hsn.at _) hc3 e_p306) (kcI (fun h_p306 => ?_))
  refine g_istore (pc := 2251) (ls2 := [(6, V p306.1), (0, .ref (XB + 200)), (1, .ref c1), (2, .ref c2), (3, .ref c3), (4, .ref c4), (5, V a5)]) (dK D_Law_law_26 4 rfl) (ltK rfl) rfl ?_
  refine g_aloadn (pc := 2253) (i0 := 2) (j := 3) (dK D_Law_law_26 5 rfl) rfl rfl ?_
  refine g_aloadn (pc := 2254) (i0 := 0) (j := 1) (dK D_Law_law_26 6 rfl) rfl rfl ?_
  refine g_iload (pc := 2255) (j := 6) (dK D_Law_law_26 7 rfl) rfl ?_
  refine vg_iconst (pc := 2257) (dK D_Law_law_26 8 rfl) ?_
  refine vg_iadd (pc := 2258) (dK D_Law_law_26 9 rfl) ?_
  refine vg_sld (pc := 2259) (dK D_Law_law_26 10 rfl) hsn hi304 ?_
  refine g_aloadn (pc := 2260) (i0 := 0) (j := 1) (dK D_Law_law_26 11 rfl) rfl rfl ?_
  refine g_iload (pc := 2261) (j := 6) (dK D_Law_law_26 12 rfl) rfl ?_
  refine vg_iconst (pc := 2263) (dK D_Law_law_26 13 rfl) ?_
  refine vg_iadd (pc := 2264) (dK D_Law_law_26 14 rfl) ?_
  refine vg_sld (pc := 2265) (dK D_Law_law_26 15 rfl) hsn hi305 ?_
  refine bnE h (fun p307 e_p307 h => ?_)
  refine vg_cV (pc := 2266) (As := [V (sx (((a5 + 1)).toNat)), V (sx (((a5 + 2)).toNat))]) (rest := []) (mc' := 0) (ms' := 0) (dK D_Law_law_26 16 rfl) K_Law_260 (fitK rfl) (ltK rfl) hc2 rfl (leK rfl) (by omega) (by omega) (tf_Mo_eviction hc2 (hsn.at _) (hsn.at _) e_p307) (kcI (fun h_p307 => ?_))
  refine g_istore (pc := 2269) (ls2 := [(7, V p307.1), (6, V p306.1), (0, .ref (XB + 200)), (1, .ref c1), (2, .ref c2), (3, .ref c3), (4, .ref c4), (5, V a5)]) (dK D_Law_law_26 17 rfl) (ltK rfl) rfl ?_
  refine g_aloadn (pc := 2271) (i0 := 2) (j := 4) (dK D_Law_law_26 18 rfl) rfl rfl ?_
  refine bnE h (fun p308 e_p308 h => ?_)
  refine vg_cV (pc := 2272) (As := []) (rest := []) (mc' := 0) (ms' := 0) (dK D_Law_law_26 19 rfl) K_Law_163 (fitK rfl) (ltK rfl) hc2 rfl (leK rfl) (by omega) (by omega) (tf_Mo_thrown hc2 e_p308) (kcI (fun h_p308 => ?_))
  refine g_iload (pc := 2275) (j := 1) (dK D_Law_law_26 20 rfl) rfl ?_
  refine vg_icmp_eq (pc := 2277) (t := 2282) (dK D_Law_law_26 21 rfl) rfl h_p308 h_p306 (fun hc311 => ?_) (fun hc311 => ?_)
  · replace h := ifP h hc311
    refine g_iload (pc := 2282) (j := 1) (dK D_Law_law_26 24 rfl) rfl ?_
    refine vg_if_ne (pc := 2284) (t := 2299) (dK D_Law_law_26 25 rfl) rfl h_p306 (fun hc310 => ?_) (fun hc310 => ?_)
    · replace h := ifN h hc310
      refine g_goto (pc := 2299) (tgt := 3073) (dK D_Law_law_26 35 rfl) rfl ?_
      refine gL_weak (ls' := [(0, .ref (XB + 200)), (1, .ref c1), (2, .ref c2), (3, .ref c3), (4, .ref c4), (5, V a5)]) (sbc 2 rfl (sbc 3 rfl (sbc 4 rfl (sbc 5 rfl (sbc 6 rfl (sbc 7 rfl sbn)))))) ?_
      exact tj_Law_law_3073 hfl hsn hc1 hc2 hc3 hc4 hx hr ih ha5 (by omega) (by omega) h
    · replace h := ifP h hc310
      refine g_aloadn (pc := 2287) (i0 := 3) (j := 5) (dK D_Law_law_26 26 rfl) rfl rfl ?_
      refine vg_iconst (pc := 2288) (dK D_Law_law_26 27 rfl) ?_
      refine vg_laload (pc := 2289) (j := 0) (dK D_Law_law_26 28 rfl) hc3 rfl ⟨by decide, by decide⟩ rfl ?_
      refine g_iload (pc := 2290) (j := 0) (dK D_Law_law_26 29 rfl) rfl ?_
      refine vg_i2l (pc := 2292) (dK D_Law_law_26 30 rfl) h_p307 ?_
      refine vg_lcmp_eq (pc := 2293) (t := 2299) (dK D_Law_law_26 31 rfl) (dK D_Law_law_26 32 rfl) rfl (gl_in _ _ _) (inR_L h_p307) (fun hc309 => ?_) (fun hc309 => ?_)
      · replace h := ifP h hc309
        refine g_goto (pc := 2299) (tgt := 3073) (dK D_Law_law_26 35 rfl) rfl ?_
        refine gL_weak (ls' := [(0, .ref (XB + 200)), (1, .ref c1), (2, .ref c2), (3, .ref c3), (4, .ref c4), (5, V a5)]) (sbc 2 rfl (sbc 3 rfl (sbc 4 rfl (sbc 5 rfl (sbc 6 rfl (sbc 7 rfl sbn)))))) ?_
        exact tj_Law_law_3073 hfl hsn hc1 hc2 hc3 hc4 hx hr ih ha5 (by omega) (by omega) h
      · replace h := ifN h hc309
        refine vg_iconst (pc := 2297) (dK D_Law_law_26 33 rfl) ?_
        exact vg_iretB (pc := 2298) (b := false) (dK D_Law_law_26 34 rfl) rfl (by omega) (by omega) (xf hfl) (hr _ (Option.some.inj h).symm)
  · replace h := ifN h hc311
    refine vg_iconst (pc := 2280) (dK D_Law_law_26 22 rfl) ?_
    exact vg_iretB (pc := 2281) (b := false) (dK D_Law_law_26 23 rfl) rfl (by omega) (by omega) (xf hfl) (hr _ (Option.some.inj h).symm)
def jf_Law_law_2302 (sx : Nat → Int) (sn : Nat) (c1 : Nat) (c2 : Nat) (c3 : Nat) (c4 : Nat) (go : Int × St → Option ((Bool × St) ⊕ (St))) (a5 : Int) (S : St) : Option ((Bool × St) ⊕ (St)) := if 0 ≤ (a5 + 1) ∧ (a5 + 1) < (sn : Int) then (bnO (fn_Law_cheapestPage c1 (sx (((a5 + 1)).toNat)) c3 S) fun p314 => bnO (fn_Mo_cheapestPage c2 (sx (((a5 + 1)).toNat)) p314.2) fun p315 => bnO (fn_Mo_thrown c2 p315.2) fun p316 => if p316 = p314.1 then (if p314.1 = 0 then (if (gl p315.2 c3 0) = p315.1 then (jf_Law_law_3073 sx sn c1 c2 c3 c4 go a5 p315.2) else (some (.inl (false, p315.2)))) else (jf_Law_law_3073 sx sn c1 c2 c3 c4 go a5 p315.2)) else (some (.inl (false, p315.2)))) else none
theorem tj_Law_law_2302 {E : EV} {X : XT} (hfl : X.2.2.2 = false) {sx : Nat → Int} {sn : Nat} (hsn : ScrE E sx sn) {c1 : Nat} (hc1 : HC X 10 c1) {c2 : Nat} (hc2 : HC X 11 c2) {c3 : Nat} (hc3 : HA X 3 1 c3) {c4 : Nat} (hc4 : HA X 4 1 c4) {mc ms : Nat} {K : RK → PS → Prop} {q : (Bool × St) ⊕ (St)} (hx : ∀ p, q = .inr p → ∀ kk nn, kk ≤ mc → nn ≤ ms → Go E M_Law_law mc ms 3079 [] [] (WX X p) kk nn K) (hr : ∀ p, q = .inl p → K (.inl (some (V (bi p.1)))) (WX X p.2)) {fu : Nat} {go : Int × St → Option ((Bool × St) ⊕ (St))} (ih : ∀ a, go a = some q → inR a.1 → ∀ kk nn, kk + 2 * fu ≤ mc → nn + 12 * fu ≤ ms → Go E M_Law_law mc ms 28 [(0, .ref (XB + 200)), (1, .ref c1), (2, .ref c2), (3, .ref c3), (4, .ref c4), (5, V a.1)] [] (WX X a.2) kk nn K) {a5 : Int} (ha5 : inR a5) {S : St} {kk nn : Nat} (hkk : kk + 1 + 2 * fu ≤ mc) (hnn : nn + 6 + 12 * fu ≤ ms) (h : jf_Law_law_2302 sx sn c1 c2 c3 c4 go a5 S = some q) : Go E M_Law_law mc ms 2302 [(0, .ref (XB + 200)), (1, .ref c1), (2, .ref c2), (3, .ref c3), (4, .ref c4), (5, V a5)] [] (WX X S) kk nn K := by
  unfold jf_Law_law_2302 at h
  refine g_aloadn (pc := 2302) (i0 := 1) (j := 1) (dK D_Law_law_26 36 rfl) rfl rfl ?_
  refine g_aloadn (pc := 2303) (i0 := 0) (j := 0) (dK D_Law_law_26 37 rfl) rfl rfl ?_
  refine g_iload (pc := 2304) (j := 5) (dK D_Law_law_26 38 rfl) rfl ?_
  refine vg_iconst (pc := 2306) (dK D_Law_law_26 39 rfl) ?_
  refine vg_iadd (pc := 2307) (dK D_Law_law_26 40 rfl) ?_
  refine gdE h (fun hi313 h => ?_)
  refine vg_sld (pc := 2308) (dK D_Law_law_26 41 rfl) hsn hi313 ?_
  refine g_aloadn (pc := 2309) (i0 := 3) (j := 3) (dK D_Law_law_26 42 rfl) rfl rfl ?_
  refine bnE h (fun p314 e_p314 h => ?_)
  refine vg_cSX (pc := 2310) (As := [.ref c1, V (sx (((a5 + 1)).toNat)), .ref c3]) (rest := []) (mc' := 1) (ms' := 6) (dK D_Law_law_26 43 rfl) K_Law_261 (fitK rfl) rfl (leK rfl) (by omega) (by omega) (tf_Law_cheapestPage hfl hc1 (hsn.at _) hc3 e_p314) (kcI (fun h_p314 => ?_))
  refine g_istore (pc := 2313) (ls2 := [(6, V p314.1), (0, .ref (XB + 200)), (1, .ref c1), (2, .ref c2), (3, .ref c3), (4, .ref c4), (5, V a5)]) (dK D_Law_law_26 44 rfl) (ltK rfl) rfl ?_
  refine g_aloadn (pc := 2315) (i0 := 2) (j := 3) (dK D_Law_law_26 45 rfl) rfl rfl ?_
  refine g_aloadn (pc := 2316) (i0 := 0) (j := 1) (dK D_Law_law_26 46 rfl) rfl rfl ?_
  refine g_iload (pc := 2317) (j := 6) (dK D_Law_law_26 47 rfl) rfl ?_
  refine vg_iconst (pc := 2319) (dK D_Law_law_26 48 rfl) ?_
  refine vg_iadd (pc := 2320) (dK D_Law_law_26 49 rfl) ?_
  refine vg_sld (pc := 2321) (dK D_Law_law_27 0 rfl) hsn hi313 ?_
  refine bnE h (fun p315 e_p315 h => ?_)
  refine vg_cV (pc := 2322) (As := [V (sx (((a5 + 1)).toNat))]) (rest := []) (mc' := 0) (ms' := 0) (dK D_Law_law_27 1 rfl) K_Law_263 (fitK rfl) (ltK rfl) hc2 rfl (leK rfl) (by omega) (by omega) (tf_Mo_cheapestPage hc2 (hsn.at _) e_p315) (kcI (fun h_p315 => ?_))
  refine g_istore (pc := 2325) (ls2 := [(7, V p315.1), (6, V p314.1), (0, .ref (XB + 200)), (1, .ref c1), (2, .ref c2), (3, .ref c3), (4, .ref c4), (5, V a5)]) (dK D_Law_law_27 2 rfl) (ltK rfl) rfl ?_
  refine g_aloadn (pc := 2327) (i0 := 2) (j := 4) (dK D_Law_law_27 3 rfl) rfl rfl ?_
  refine bnE h (fun p316 e_p316 h => ?_)
  refine vg_cV (pc := 2328) (As := []) (rest := []) (mc' := 0) (ms' := 0) (dK D_Law_law_27 4 rfl) K_Law_163 (fitK rfl) (ltK rfl) hc2 rfl (leK rfl) (by omega) (by omega) (tf_Mo_thrown hc2 e_p316) (kcI (fun h_p316 => ?_))
  refine g_iload (pc := 2331) (j := 1) (dK D_Law_law_27 5 rfl) rfl ?_
  refine vg_icmp_eq (pc := 2333) (t := 2338) (dK D_Law_law_27 6 rfl) rfl h_p316 h_p314 (fun hc319 => ?_) (fun hc319 => ?_)
  · replace h := ifP h hc319
    refine g_iload (pc := 2338) (j := 1) (dK D_Law_law_27 9 rfl) rfl ?_
    refine vg_if_ne (pc := 2340) (t := 2355) (dK D_Law_law_27 10 rfl) rfl h_p314 (fun hc318 => ?_) (fun hc318 => ?_)
    · replace h := ifN h hc318
      refine g_goto (pc := 2355) (tgt := 3073) (dK D_Law_law_27 20 rfl) rfl ?_
      refine gL_weak (ls' := [(0, .ref (XB + 200)), (1, .ref c1), (2, .ref c2), (3, .ref c3), (4, .ref c4), (5, V a5)]) (sbc 2 rfl (sbc 3 rfl (sbc 4 rfl (sbc 5 rfl (sbc 6 rfl (sbc 7 rfl sbn)))))) ?_
      exact tj_Law_law_3073 hfl hsn hc1 hc2 hc3 hc4 hx hr ih ha5 (by omega) (by omega) h
    · replace h := ifP h hc318
      refine g_aloadn (pc := 2343) (i0 := 3) (j := 5) (dK D_Law_law_27 11 rfl) rfl rfl ?_
      refine vg_iconst (pc := 2344) (dK D_Law_law_27 12 rfl) ?_
      refine vg_laload (pc := 2345) (j := 0) (dK D_Law_law_27 13 rfl) hc3 rfl ⟨by decide, by decide⟩ rfl ?_
      refine g_iload (pc := 2346) (j := 0) (dK D_Law_law_27 14 rfl) rfl ?_
      refine vg_i2l (pc := 2348) (dK D_Law_law_27 15 rfl) h_p315 ?_
      refine vg_lcmp_eq (pc := 2349) (t := 2355) (dK D_Law_law_27 16 rfl) (dK D_Law_law_27 17 rfl) rfl (gl_in _ _ _) (inR_L h_p315) (fun hc317 => ?_) (fun hc317 => ?_)
      · replace h := ifP h hc317
        refine g_goto (pc := 2355) (tgt := 3073) (dK D_Law_law_27 20 rfl) rfl ?_
        refine gL_weak (ls' := [(0, .ref (XB + 200)), (1, .ref c1), (2, .ref c2), (3, .ref c3), (4, .ref c4), (5, V a5)]) (sbc 2 rfl (sbc 3 rfl (sbc 4 rfl (sbc 5 rfl (sbc 6 rfl (sbc 7 rfl sbn)))))) ?_
        exact tj_Law_law_3073 hfl hsn hc1 hc2 hc3 hc4 hx hr ih ha5 (by omega) (by omega) h
      · replace h := ifN h hc317
        refine vg_iconst (pc := 2353) (dK D_Law_law_27 18 rfl) ?_
        exact vg_iretB (pc := 2354) (b := false) (dK D_Law_law_27 19 rfl) rfl (by omega) (by omega) (xf hfl) (hr _ (Option.some.inj h).symm)
  · replace h := ifN h hc319
    refine vg_iconst (pc := 2336) (dK D_Law_law_27 7 rfl) ?_
    exact vg_iretB (pc := 2337) (b := false) (dK D_Law_law_27 8 rfl) rfl (by omega) (by omega) (xf hfl) (hr _ (Option.some.inj h).symm)
def jf_Law_law_2358 (sx : Nat → Int) (sn : Nat) (c1 : Nat) (c2 : Nat) (c3 : Nat) (c4 : Nat) (go : Int × St → Option ((Bool × St) ⊕ (St))) (a5 : Int) (S : St) : Option ((Bool × St) ⊕ (St)) := bnO (fn_FP_matching c1 S) fun p321 => bnO (fn_Mo_matching c2 p321.2) fun p322 => if p321.1 = p322.1 then (jf_Law_law_3073 sx sn c1 c2 c3 c4 go a5 p322.2) else (some (.inl (false, p322.2)))
theorem tj_Law_law_2358 {E : EV} {X : XT} (hfl : X.2.2.2 = false) {sx : Nat → Int} {sn : Nat} (hsn : ScrE E sx sn) {c1 : Nat} (hc1 : HC X 10 c1) {c2 : Nat} (hc2 : HC X 11 c2) {c3 : Nat} (hc3 : HA X 3 1 c3) {c4 : Nat} (hc4 : HA X 4 1 c4) {mc ms : Nat} {K : RK → PS → Prop} {q : (Bool × St) ⊕ (St)} (hx : ∀ p, q = .inr p → ∀ kk nn, kk ≤ mc → nn ≤ ms → Go E M_Law_law mc ms 3079 [] [] (WX X p) kk nn K) (hr : ∀ p, q = .inl p → K (.inl (some (V (bi p.1)))) (WX X p.2)) {fu : Nat} {go : Int × St → Option ((Bool × St) ⊕ (St))} (ih : ∀ a, go a = some q → inR a.1 → ∀ kk nn, kk + 2 * fu ≤ mc → nn + 12 * fu ≤ ms → Go E M_Law_law mc ms 28 [(0, .ref (XB + 200)), (1, .ref c1), (2, .ref c2), (3, .ref c3), (4, .ref c4), (5, V a.1)] [] (WX X a.2) kk nn K) {a5 : Int} (ha5 : inR a5) {S : St} {kk nn : Nat} (hkk : kk + 0 + 2 * fu ≤ mc) (hnn : nn + 0 + 12 * fu ≤ ms) (h : jf_Law_law_2358 sx sn c1 c2 c3 c4 go a5 S = some q) : Go E M_Law_law mc ms 2358 [(0, .ref (XB + 200)), (1, .ref c1), (2, .ref c2), (3, .ref c3), (4, .ref c4), (5, V a5)] [] (WX X S) kk nn K := by
  unfold jf_Law_law_2358 at h
  refine g_aloadn (pc := 2358) (i0 := 1) (j := 1) (dK D_Law_law_27 21 rfl) rfl rfl ?_
  refine bnE h (fun p321 e_p321 h => ?_)
  refine vg_cV (pc := 2359) (As := []) (rest := []) (mc' := 0) (ms' := 0) (dK D_Law_law_27 22 rfl) K_Law_264 (fitK rfl) (ltK rfl) hc1 rfl (leK rfl) (by omega) (by omega) (tf_FP_matching hc1 e_p321) (kcI (fun h_p321 => ?_))
  refine g_aloadn (pc := 2362) (i0 := 2) (j := 2) (dK D_Law_law_27 23 rfl) rfl rfl ?_
  refine bnE h (fun p322 e_p322 h => ?_)
  refine vg_cV (pc := 2363) (As := []) (rest := [V p321.1]) (mc' := 0) (ms' := 0) (dK D_Law_law_27 24 rfl) K_Law_267 (fitK rfl) (ltK rfl) hc2 rfl (leK rfl) (by omega) (by omega) (tf_Mo_matching hc2 e_p322) (kcI (fun h_p322 => ?_))
  refine vg_icmp_eq (pc := 2366) (t := 3073) (dK D_Law_law_27 25 rfl) rfl h_p321 h_p322 (fun hc323 => ?_) (fun hc323 => ?_)
  · replace h := ifP h hc323
    exact tj_Law_law_3073 hfl hsn hc1 hc2 hc3 hc4 hx hr ih ha5 (by omega) (by omega) h
  · replace h := ifN h hc323
    refine vg_iconst (pc := 2369) (dK D_Law_law_27 26 rfl) ?_
    exact vg_iretB (pc := 2370) (b := false) (dK D_Law_law_27 27 rfl) rfl (by omega) (by omega) (xf hfl) (hr _ (Option.some.inj h).symm)
def jf_Law_law_2371 (sx : Nat → Int) (sn : Nat) (c1 : Nat) (c2 : Nat) (c3 : Nat) (c4 : Nat) (go : Int × St → Option ((Bool × St) ⊕ (St))) (a5 : Int) (S : St) : Option ((Bool × St) ⊕ (St)) := if 0 ≤ (a5 + 1) ∧ (a5 + 1) < (sn : Int) then (bnO (fn_Law_bestColor c1 (sx (((a5 + 1)).toNat)) c3 S) fun p326 => bnO (fn_Mo_bestColor c2 (sx (((a5 + 1)).toNat)) p326.2) fun p327 => bnO (fn_Mo_thrown c2 p327.2) fun p328 => if p328 = p326.1 then (if p326.1 = 0 then (if (gl p327.2 c3 0) = p327.1 then (jf_Law_law_3073 sx sn c1 c2 c3 c4 go a5 p327.2) else (some (.inl (false, p327.2)))) else (jf_Law_law_3073 sx sn c1 c2 c3 c4 go a5 p327.2)) else (some (.inl (false, p327.2)))) else none
theorem tj_Law_law_2371 {E : EV} {X : XT} (hfl : X.2.2.2 = false) {sx : Nat → Int} {sn : Nat} (hsn : ScrE E sx sn) {c1 : Nat} (hc1 : HC X 10 c1) {c2 : Nat} (hc2 : HC X 11 c2) {c3 : Nat} (hc3 : HA X 3 1 c3) {c4 : Nat} (hc4 : HA X 4 1 c4) {mc ms : Nat} {K : RK → PS → Prop} {q : (Bool × St) ⊕ (St)} (hx : ∀ p, q = .inr p → ∀ kk nn, kk ≤ mc → nn ≤ ms → Go E M_Law_law mc ms 3079 [] [] (WX X p) kk nn K) (hr : ∀ p, q = .inl p → K (.inl (some (V (bi p.1)))) (WX X p.2)) {fu : Nat} {go : Int × St → Option ((Bool × St) ⊕ (St))} (ih : ∀ a, go a = some q → inR a.1 → ∀ kk nn, kk + 2 * fu ≤ mc → nn + 12 * fu ≤ ms → Go E M_Law_law mc ms 28 [(0, .ref (XB + 200)), (1, .ref c1), (2, .ref c2), (3, .ref c3), (4, .ref c4), (5, V a.1)] [] (WX X a.2) kk nn K) {a5 : Int} (ha5 : inR a5) {S : St} {kk nn : Nat} (hkk : kk + 1 + 2 * fu ≤ mc) (hnn : nn + 6 + 12 * fu ≤ ms) (h : jf_Law_law_2371 sx sn c1 c2 c3 c4 go a5 S = some q) : Go E M_Law_law mc ms 2371 [(0, .ref (XB + 200)), (1, .ref c1), (2, .ref c2), (3, .ref c3), (4, .ref c4), (5, V a5)] [] (WX X S) kk nn K := by
  unfold jf_Law_law_2371 at h
  refine g_aloadn (pc := 2371) (i0 := 1) (j := 1) (dK D_Law_law_27 28 rfl) rfl rfl ?_
  refine g_aloadn (pc := 2372) (i0 := 0) (j := 0) (dK D_Law_law_27 29 rfl) rfl rfl ?_
  refine g_iload (pc := 2373) (j := 5) (dK D_Law_law_27 30 rfl) rfl ?_
  refine vg_iconst (pc := 2375) (dK D_Law_law_27 31 rfl) ?_
  refine vg_iadd (pc := 2376) (dK D_Law_law_27 32 rfl) ?_
  refine gdE h (fun hi325 h => ?_)
  refine vg_sld (pc := 2377) (dK D_Law_law_27 33 rfl) hsn hi325 ?_
  refine g_aloadn (pc := 2378) (i0 := 3) (j := 3) (dK D_Law_law_27 34 rfl) rfl rfl ?_
  refine bnE h (fun p326 e_p326 h => ?_)
  refine vg_cSX (pc := 2379) (As := [.ref c1, V (sx (((a5 + 1)).toNat)), .ref c3]) (rest := []) (mc' := 1) (ms' := 6) (dK D_Law_law_27 35 rfl) K_Law_268 (fitK rfl) rfl (leK rfl) (by omega) (by omega) (tf_Law_bestColor hfl hc1 (hsn.at _) hc3 e_p326) (kcI (fun h_p326 => ?_))
  refine g_istore (pc := 2382) (ls2 := [(6, V p326.1), (0, .ref (XB + 200)), (1, .ref c1), (2, .ref c2), (3, .ref c3), (4, .ref c4), (5, V a5)]) (dK D_Law_law_27 36 rfl) (ltK rfl) rfl ?_
  refine g_aloadn (pc := 2384) (i0 := 2) (j := 3) (dK D_Law_law_27 37 rfl) rfl rfl ?_
  refine g_aloadn (pc := 2385) (i0 := 0) (j := 1) (dK D_Law_law_27 38 rfl) rfl rfl ?_
  refine g_iload (pc := 2386) (j := 6) (dK D_Law_law_27 39 rfl) rfl ?_
  refine vg_iconst (pc := 2388) (dK D_Law_law_27 40 rfl) ?_
  refine vg_iadd (pc := 2389) (dK D_Law_law_27 41 rfl) ?_
  refine vg_sld (pc := 2390) (dK D_Law_law_27 42 rfl) hsn hi325 ?_
  refine bnE h (fun p327 e_p327 h => ?_)
  refine vg_cV (pc := 2391) (As := [V (sx (((a5 + 1)).toNat))]) (rest := []) (mc' := 0) (ms' := 0) (dK D_Law_law_27 43 rfl) K_Law_270 (fitK rfl) (ltK rfl) hc2 rfl (leK rfl) (by omega) (by omega) (tf_Mo_bestColor hc2 (hsn.at _) e_p327) (kcI (fun h_p327 => ?_))
  refine g_istore (pc := 2394) (ls2 := [(7, V p327.1), (6, V p326.1), (0, .ref (XB + 200)), (1, .ref c1), (2, .ref c2), (3, .ref c3), (4, .ref c4), (5, V a5)]) (dK D_Law_law_27 44 rfl) (ltK rfl) rfl ?_
  refine g_aloadn (pc := 2396) (i0 := 2) (j := 4) (dK D_Law_law_27 45 rfl) rfl rfl ?_
  refine bnE h (fun p328 e_p328 h => ?_)
  refine vg_cV (pc := 2397) (As := []) (rest := []) (mc' := 0) (ms' := 0) (dK D_Law_law_27 46 rfl) K_Law_163 (fitK rfl) (ltK rfl) hc2 rfl (leK rfl) (by omega) (by omega) (tf_Mo_thrown hc2 e_p328) (kcI (fun h_p328 => ?_))
  refine g_iload (pc := 2400) (j := 1) (dK D_Law_law_27 47 rfl) rfl ?_
  refine vg_icmp_eq (pc := 2402) (t := 2407) (dK D_Law_law_27 48 rfl) rfl h_p328 h_p326 (fun hc331 => ?_) (fun hc331 => ?_)
  · replace h := ifP h hc331
    refine g_iload (pc := 2407) (j := 1) (dK D_Law_law_28 1 rfl) rfl ?_
    refine vg_if_ne (pc := 2409) (t := 2424) (dK D_Law_law_28 2 rfl) rfl h_p326 (fun hc330 => ?_) (fun hc330 => ?_)
    · replace h := ifN h hc330
      refine g_goto (pc := 2424) (tgt := 3073) (dK D_Law_law_28 12 rfl) rfl ?_
      refine gL_weak (ls' := [(0, .ref (XB + 200)), (1, .ref c1), (2, .ref c2), (3, .ref c3), (4, .ref c4), (5, V a5)]) (sbc 2 rfl (sbc 3 rfl (sbc 4 rfl (sbc 5 rfl (sbc 6 rfl (sbc 7 rfl sbn)))))) ?_
      exact tj_Law_law_3073 hfl hsn hc1 hc2 hc3 hc4 hx hr ih ha5 (by omega) (by omega) h
    · replace h := ifP h hc330
      refine g_aloadn (pc := 2412) (i0 := 3) (j := 5) (dK D_Law_law_28 3 rfl) rfl rfl ?_
      refine vg_iconst (pc := 2413) (dK D_Law_law_28 4 rfl) ?_
      refine vg_laload (pc := 2414) (j := 0) (dK D_Law_law_28 5 rfl) hc3 rfl ⟨by decide, by decide⟩ rfl ?_
      refine g_iload (pc := 2415) (j := 0) (dK D_Law_law_28 6 rfl) rfl ?_
      refine vg_i2l (pc := 2417) (dK D_Law_law_28 7 rfl) h_p327 ?_
      refine vg_lcmp_eq (pc := 2418) (t := 2424) (dK D_Law_law_28 8 rfl) (dK D_Law_law_28 9 rfl) rfl (gl_in _ _ _) (inR_L h_p327) (fun hc329 => ?_) (fun hc329 => ?_)
      · replace h := ifP h hc329
        refine g_goto (pc := 2424) (tgt := 3073) (dK D_Law_law_28 12 rfl) rfl ?_
        refine gL_weak (ls' := [(0, .ref (XB + 200)), (1, .ref c1), (2, .ref c2), (3, .ref c3), (4, .ref c4), (5, V a5)]) (sbc 2 rfl (sbc 3 rfl (sbc 4 rfl (sbc 5 rfl (sbc 6 rfl (sbc 7 rfl sbn)))))) ?_
        exact tj_Law_law_3073 hfl hsn hc1 hc2 hc3 hc4 hx hr ih ha5 (by omega) (by omega) h
      · replace h := ifN h hc329
        refine vg_iconst (pc := 2422) (dK D_Law_law_28 10 rfl) ?_
        exact vg_iretB (pc := 2423) (b := false) (dK D_Law_law_28 11 rfl) rfl (by omega) (by omega) (xf hfl) (hr _ (Option.some.inj h).symm)
  · replace h := ifN h hc331
    refine vg_iconst (pc := 2405) (dK D_Law_law_27 49 rfl) ?_
    exact vg_iretB (pc := 2406) (b := false) (dK D_Law_law_28 0 rfl) rfl (by omega) (by omega) (xf hfl) (hr _ (Option.some.inj h).symm)
def jf_Law_law_2427 (sx : Nat → Int) (sn : Nat) (c1 : Nat) (c2 : Nat) (c3 : Nat) (c4 : Nat) (go : Int × St → Option ((Bool × St) ⊕ (St))) (a5 : Int) (S : St) : Option ((Bool × St) ⊕ (St)) := bnO (fn_FP_nearRivals c1 S) fun p333 => bnO (fn_Mo_nearRivals c2 S) fun p334 => if p333 = p334.1 then (jf_Law_law_3073 sx sn c1 c2 c3 c4 go a5 p334.2) else (some (.inl (false, p334.2)))
theorem tj_Law_law_2427 {E : EV} {X : XT} (hfl : X.2.2.2 = false) {sx : Nat → Int} {sn : Nat} (hsn : ScrE E sx sn) {c1 : Nat} (hc1 : HC X 10 c1) {c2 : Nat} (hc2 : HC X 11 c2) {c3 : Nat} (hc3 : HA X 3 1 c3) {c4 : Nat} (hc4 : HA X 4 1 c4) {mc ms : Nat} {K : RK → PS → Prop} {q : (Bool × St) ⊕ (St)} (hx : ∀ p, q = .inr p → ∀ kk nn, kk ≤ mc → nn ≤ ms → Go E M_Law_law mc ms 3079 [] [] (WX X p) kk nn K) (hr : ∀ p, q = .inl p → K (.inl (some (V (bi p.1)))) (WX X p.2)) {fu : Nat} {go : Int × St → Option ((Bool × St) ⊕ (St))} (ih : ∀ a, go a = some q → inR a.1 → ∀ kk nn, kk + 2 * fu ≤ mc → nn + 12 * fu ≤ ms → Go E M_Law_law mc ms 28 [(0, .ref (XB + 200)), (1, .ref c1), (2, .ref c2), (3, .ref c3), (4, .ref c4), (5, V a.1)] [] (WX X a.2) kk nn K) {a5 : Int} (ha5 : inR a5) {S : St} {kk nn : Nat} (hkk : kk + 0 + 2 * fu ≤ mc) (hnn : nn + 0 + 12 * fu ≤ ms) (h : jf_Law_law_2427 sx sn c1 c2 c3 c4 go a5 S = some q) : Go E M_Law_law mc ms 2427 [(0, .ref (XB + 200)), (1, .ref c1), (2, .ref c2), (3, .ref c3), (4, .ref c4), (5, V a5)] [] (WX X S) kk nn K := by
  unfold jf_Law_law_2427 at h
  refine g_aloadn (pc := 2427) (i0 := 1) (j := 1) (dK D_Law_law_28 13 rfl) rfl rfl ?_
  refine bnE h (fun p333 e_p333 h => ?_)
  refine vg_cV (pc := 2428) (As := []) (rest := []) (mc' := 0) (ms' := 0) (dK D_Law_law_28 14 rfl) K_Law_271 (fitK rfl) (ltK rfl) hc1 rfl (leK rfl) (by omega) (by omega) (tf_FP_nearRivals hc1 e_p333) (kcI (fun h_p333 => ?_))
  refine g_aloadn (pc := 2431) (i0 := 2) (j := 2) (dK D_Law_law_28 15 rfl) rfl rfl ?_
  refine bnE h (fun p334 e_p334 h => ?_)
  refine vg_cV (pc := 2432) (As := []) (rest := [V p333]) (mc' := 0) (ms' := 0) (dK D_Law_law_28 16 rfl) K_Law_274 (fitK rfl) (ltK rfl) hc2 rfl (leK rfl) (by omega) (by omega) (tf_Mo_nearRivals hc2 e_p334) (kcI (fun h_p334 => ?_))
  refine vg_icmp_eq (pc := 2435) (t := 3073) (dK D_Law_law_28 17 rfl) rfl h_p333 h_p334 (fun hc335 => ?_) (fun hc335 => ?_)
  · replace h := ifP h hc335
    exact tj_Law_law_3073 hfl hsn hc1 hc2 hc3 hc4 hx hr ih ha5 (by omega) (by omega) h
  · replace h := ifN h hc335
    refine vg_iconst (pc := 2438) (dK D_Law_law_28 18 rfl) ?_
    exact vg_iretB (pc := 2439) (b := false) (dK D_Law_law_28 19 rfl) rfl (by omega) (by omega) (xf hfl) (hr _ (Option.some.inj h).symm)
def jf_Law_law_2440 (sx : Nat → Int) (sn : Nat) (c1 : Nat) (c2 : Nat) (c3 : Nat) (c4 : Nat) (go : Int × St → Option ((Bool × St) ⊕ (St))) (a5 : Int) (S : St) : Option ((Bool × St) ⊕ (St)) := if 0 ≤ (a5 + 1) ∧ (a5 + 1) < (sn : Int) then (if 0 ≤ (a5 + 2) ∧ (a5 + 2) < (sn : Int) then (bnO (fn_Law_groupOn c1 (sx (((a5 + 1)).toNat)) (sx (((a5 + 2)).toNat)) c3 S) fun p339 => bnO (fn_Mo_groupOn c2 (sx (((a5 + 1)).toNat)) (sx (((a5 + 2)).toNat)) p339.2) fun p340 => bnO (fn_Mo_thrown c2 p340.2) fun p341 => if p341 = p339.1 then (if p339.1 = 0 then (if (gl p340.2 c3 0) = p340.1 then (jf_Law_law_3073 sx sn c1 c2 c3 c4 go a5 p340.2) else (some (.inl (false, p340.2)))) else (jf_Law_law_3073 sx sn c1 c2 c3 c4 go a5 p340.2)) else (some (.inl (false, p340.2)))) else none) else none
theorem tj_Law_law_2440 {E : EV} {X : XT} (hfl : X.2.2.2 = false) {sx : Nat → Int} {sn : Nat} (hsn : ScrE E sx sn) {c1 : Nat} (hc1 : HC X 10 c1) {c2 : Nat} (hc2 : HC X 11 c2) {c3 : Nat} (hc3 : HA X 3 1 c3) {c4 : Nat} (hc4 : HA X 4 1 c4) {mc ms : Nat} {K : RK → PS → Prop} {q : (Bool × St) ⊕ (St)} (hx : ∀ p, q = .inr p → ∀ kk nn, kk ≤ mc → nn ≤ ms → Go E M_Law_law mc ms 3079 [] [] (WX X p) kk nn K) (hr : ∀ p, q = .inl p → K (.inl (some (V (bi p.1)))) (WX X p.2)) {fu : Nat} {go : Int × St → Option ((Bool × St) ⊕ (St))} (ih : ∀ a, go a = some q → inR a.1 → ∀ kk nn, kk + 2 * fu ≤ mc → nn + 12 * fu ≤ ms → Go E M_Law_law mc ms 28 [(0, .ref (XB + 200)), (1, .ref c1), (2, .ref c2), (3, .ref c3), (4, .ref c4), (5, V a.1)] [] (WX X a.2) kk nn K) {a5 : Int} (ha5 : inR a5) {S : St} {kk nn : Nat} (hkk : kk + 2 + 2 * fu ≤ mc) (hnn : nn + 12 + 12 * fu ≤ ms) (h : jf_Law_law_2440 sx sn c1 c2 c3 c4 go a5 S = some q) : Go E M_Law_law mc ms 2440 [(0, .ref (XB + 200)), (1, .ref c1), (2, .ref c2), (3, .ref c3), (4, .ref c4), (5, V a5)] [] (WX X S) kk nn K := by
  unfold jf_Law_law_2440 at h
  refine g_aloadn (pc := 2440) (i0 := 1) (j := 1) (dK D_Law_law_28 20 rfl) rfl rfl ?_
  refine g_aloadn (pc := 2441) (i0 := 0) (j := 0) (dK D_Law_law_28 21 rfl) rfl rfl ?_
  refine g_iload (pc := 2442) (j := 5) (dK D_Law_law_28 22 rfl) rfl ?_
  refine vg_iconst (pc := 2444) (dK D_Law_law_28 23 rfl) ?_
  refine vg_iadd (pc := 2445) (dK D_Law_law_28 24 rfl) ?_
  refine gdE h (fun hi337 h => ?_)
  refine vg_sld (pc := 2446) (dK D_Law_law_28 25 rfl) hsn hi337 ?_
  refine g_aloadn (pc := 2447) (i0 := 0) (j := 0) (dK D_Law_law_28 26 rfl) rfl rfl ?_
  refine g_iload (pc := 2448) (j := 5) (dK D_Law_law_28 27 rfl) rfl ?_
  refine vg_iconst (pc := 2450) (dK D_Law_law_28 28 rfl) ?_
  refine vg_iadd (pc := 2451) (dK D_Law_law_28 29 rfl) ?_
  refine gdE h (fun hi338 h => ?_)
  refine vg_sld (pc := 2452) (dK D_Law_law_28 30 rfl) hsn hi338 ?_
  refine g_aloadn (pc := 2453) (i0 := 3) (j := 3) (dK D_Law_law_28 31 rfl) rfl rfl ?_
  refine bnE h (fun p339 e_p339 h => ?_)
  refine vg_cSX (pc := 2454) (As := [.ref c1, V (sx (((a5 + 1)).toNat)), V (sx (((a5 + 2)).toNat)), .ref c3]) (rest := []) (mc' := 2) (ms' := 12) (dK D_Law_law_28 32 rfl) K_Law_275 (fitK rfl) rfl (leK rfl) (by omega) (by omega) (tf_Law_groupOn hfl hc1 (hsn.at _) (hsn.at _) hc3 e_p339) (kcI (fun h_p339 => ?_))
  refine g_istore (pc := 2457) (ls2 := [(6, V p339.1), (0, .ref (XB + 200)), (1, .ref c1), (2, .ref c2), (3, .ref c3), (4, .ref c4), (5, V a5)]) (dK D_Law_law_28 33 rfl) (ltK rfl) rfl ?_
  refine g_aloadn (pc := 2459) (i0 := 2) (j := 3) (dK D_Law_law_28 34 rfl) rfl rfl ?_
  refine g_aloadn (pc := 2460) (i0 := 0) (j := 1) (dK D_Law_law_28 35 rfl) rfl rfl ?_
  refine g_iload (pc := 2461) (j := 6) (dK D_Law_law_28 36 rfl) rfl ?_
  refine vg_iconst (pc := 2463) (dK D_Law_law_28 37 rfl) ?_
  refine vg_iadd (pc := 2464) (dK D_Law_law_28 38 rfl) ?_
  refine vg_sld (pc := 2465) (dK D_Law_law_28 39 rfl) hsn hi337 ?_
  refine g_aloadn (pc := 2466) (i0 := 0) (j := 1) (dK D_Law_law_28 40 rfl) rfl rfl ?_
  refine g_iload (pc := 2467) (j := 6) (dK D_Law_law_28 41 rfl) rfl ?_
  refine vg_iconst (pc := 2469) (dK D_Law_law_28 42 rfl) ?_
  refine vg_iadd (pc := 2470) (dK D_Law_law_28 43 rfl) ?_
  refine vg_sld (pc := 2471) (dK D_Law_law_28 44 rfl) hsn hi338 ?_
  refine bnE h (fun p340 e_p340 h => ?_)
  refine vg_cV (pc := 2472) (As := [V (sx (((a5 + 1)).toNat)), V (sx (((a5 + 2)).toNat))]) (rest := []) (mc' := 0) (ms' := 0) (dK D_Law_law_28 45 rfl) K_Law_277 (fitK rfl) (ltK rfl) hc2 rfl (leK rfl) (by omega) (by omega) (tf_Mo_groupOn hc2 (hsn.at _) (hsn.at _) e_p340) (kcI (fun h_p340 => ?_))
  refine g_istore (pc := 2475) (ls2 := [(7, V p340.1), (6, V p339.1), (0, .ref (XB + 200)), (1, .ref c1), (2, .ref c2), (3, .ref c3), (4, .ref c4), (5, V a5)]) (dK D_Law_law_28 46 rfl) (ltK rfl) rfl ?_
  refine g_aloadn (pc := 2477) (i0 := 2) (j := 4) (dK D_Law_law_28 47 rfl) rfl rfl ?_
  refine bnE h (fun p341 e_p341 h => ?_)
  refine vg_cV (pc := 2478) (As := []) (rest := []) (mc' := 0) (ms' := 0) (dK D_Law_law_28 48 rfl) K_Law_163 (fitK rfl) (ltK rfl) hc2 rfl (leK rfl) (by omega) (by omega) (tf_Mo_thrown hc2 e_p341) (kcI (fun h_p341 => ?_))
  refine g_iload (pc := 2481) (j := 1) (dK D_Law_law_28 49 rfl) rfl ?_
  refine vg_icmp_eq (pc := 2483) (t := 2488) (dK D_Law_law_29 0 rfl) rfl h_p341 h_p339 (fun hc344 => ?_) (fun hc344 => ?_)
  · replace h := ifP h hc344
    refine g_iload (pc := 2488) (j := 1) (dK D_Law_law_29 3 rfl) rfl ?_
    refine vg_if_ne (pc := 2490) (t := 2505) (dK D_Law_law_29 4 rfl) rfl h_p339 (fun hc343 => ?_) (fun hc343 => ?_)
    · replace h := ifN h hc343
      refine g_goto (pc := 2505) (tgt := 3073) (dK D_Law_law_29 14 rfl) rfl ?_
      refine gL_weak (ls' := [(0, .ref (XB + 200)), (1, .ref c1), (2, .ref c2), (3, .ref c3), (4, .ref c4), (5, V a5)]) (sbc 2 rfl (sbc 3 rfl (sbc 4 rfl (sbc 5 rfl (sbc 6 rfl (sbc 7 rfl sbn)))))) ?_
      exact tj_Law_law_3073 hfl hsn hc1 hc2 hc3 hc4 hx hr ih ha5 (by omega) (by omega) h
    · replace h := ifP h hc343
      refine g_aloadn (pc := 2493) (i0 := 3) (j := 5) (dK D_Law_law_29 5 rfl) rfl rfl ?_
      refine vg_iconst (pc := 2494) (dK D_Law_law_29 6 rfl) ?_
      refine vg_laload (pc := 2495) (j := 0) (dK D_Law_law_29 7 rfl) hc3 rfl ⟨by decide, by decide⟩ rfl ?_
      refine g_iload (pc := 2496) (j := 0) (dK D_Law_law_29 8 rfl) rfl ?_
      refine vg_i2l (pc := 2498) (dK D_Law_law_29 9 rfl) h_p340 ?_
      refine vg_lcmp_eq (pc := 2499) (t := 2505) (dK D_Law_law_29 10 rfl) (dK D_Law_law_29 11 rfl) rfl (gl_in _ _ _) (inR_L h_p340) (fun hc342 => ?_) (fun hc342 => ?_)
      · replace h := ifP h hc342
        refine g_goto (pc := 2505) (tgt := 3073) (dK D_Law_law_29 14 rfl) rfl ?_
        refine gL_weak (ls' := [(0, .ref (XB + 200)), (1, .ref c1), (2, .ref c2), (3, .ref c3), (4, .ref c4), (5, V a5)]) (sbc 2 rfl (sbc 3 rfl (sbc 4 rfl (sbc 5 rfl (sbc 6 rfl (sbc 7 rfl sbn)))))) ?_
        exact tj_Law_law_3073 hfl hsn hc1 hc2 hc3 hc4 hx hr ih ha5 (by omega) (by omega) h
      · replace h := ifN h hc342
        refine vg_iconst (pc := 2503) (dK D_Law_law_29 12 rfl) ?_
        exact vg_iretB (pc := 2504) (b := false) (dK D_Law_law_29 13 rfl) rfl (by omega) (by omega) (xf hfl) (hr _ (Option.some.inj h).symm)
  · replace h := ifN h hc344
    refine vg_iconst (pc := 2486) (dK D_Law_law_29 1 rfl) ?_
    exact vg_iretB (pc := 2487) (b := false) (dK D_Law_law_29 2 rfl) rfl (by omega) (by omega) (xf hfl) (hr _ (Option.some.inj h).symm)
def jf_Law_law_2508 (sx : Nat → Int) (sn : Nat) (c1 : Nat) (c2 : Nat) (c3 : Nat) (c4 : Nat) (go : Int × St → Option ((Bool × St) ⊕ (St))) (a5 : Int) (S : St) : Option ((Bool × St) ⊕ (St)) := if 0 ≤ (a5 + 1) ∧ (a5 + 1) < (sn : Int) then (bnO (fn_Law_spreadsOf c1 (sx (((a5 + 1)).toNat)) c3 S) fun p347 => bnO (fn_Mo_spreadsOf c2 (sx (((a5 + 1)).toNat)) p347.2) fun p348 => bnO (fn_Mo_thrown c2 p348.2) fun p349 => if p349 = p347.1 then (if p347.1 = 0 then (if (gl p348.2 c3 0) = p348.1 then (jf_Law_law_3073 sx sn c1 c2 c3 c4 go a5 p348.2) else (some (.inl (false, p348.2)))) else (jf_Law_law_3073 sx sn c1 c2 c3 c4 go a5 p348.2)) else (some (.inl (false, p348.2)))) else none
theorem tj_Law_law_2508 {E : EV} {X : XT} (hfl : X.2.2.2 = false) {sx : Nat → Int} {sn : Nat} (hsn : ScrE E sx sn) {c1 : Nat} (hc1 : HC X 10 c1) {c2 : Nat} (hc2 : HC X 11 c2) {c3 : Nat} (hc3 : HA X 3 1 c3) {c4 : Nat} (hc4 : HA X 4 1 c4) {mc ms : Nat} {K : RK → PS → Prop} {q : (Bool × St) ⊕ (St)} (hx : ∀ p, q = .inr p → ∀ kk nn, kk ≤ mc → nn ≤ ms → Go E M_Law_law mc ms 3079 [] [] (WX X p) kk nn K) (hr : ∀ p, q = .inl p → K (.inl (some (V (bi p.1)))) (WX X p.2)) {fu : Nat} {go : Int × St → Option ((Bool × St) ⊕ (St))} (ih : ∀ a, go a = some q → inR a.1 → ∀ kk nn, kk + 2 * fu ≤ mc → nn + 12 * fu ≤ ms → Go E M_Law_law mc ms 28 [(0, .ref (XB + 200)), (1, .ref c1), (2, .ref c2), (3, .ref c3), (4, .ref c4), (5, V a.1)] [] (WX X a.2) kk nn K) {a5 : Int} (ha5 : inR a5) {S : St} {kk nn : Nat} (hkk : kk + 1 + 2 * fu ≤ mc) (hnn : nn + 6 + 12 * fu ≤ ms) (h : jf_Law_law_2508 sx sn c1 c2 c3 c4 go a5 S = some q) : Go E M_Law_law mc ms 2508 [(0, .ref (XB + 200)), (1, .ref c1), (2, .ref c2), (3, .ref c3), (4, .ref c4), (5, V a5)] [] (WX X S) kk nn K := by
  unfold jf_Law_law_2508 at h
  refine g_aloadn (pc := 2508) (i0 := 1) (j := 1) (dK D_Law_law_29 15 rfl) rfl rfl ?_
  refine g_aloadn (pc := 2509) (i0 := 0) (j := 0) (dK D_Law_law_29 16 rfl) rfl rfl ?_
  refine g_iload (pc := 2510) (j := 5) (dK D_Law_law_29 17 rfl) rfl ?_
  refine vg_iconst (pc := 2512) (dK D_Law_law_29 18 rfl) ?_
  refine vg_iadd (pc := 2513) (dK D_Law_law_29 19 rfl) ?_
  refine gdE h (fun hi346 h => ?_)
  refine vg_sld (pc := 2514) (dK D_Law_law_29 20 rfl) hsn hi346 ?_
  refine g_aloadn (pc := 2515) (i0 := 3) (j := 3) (dK D_Law_law_29 21 rfl) rfl rfl ?_
  refine bnE h (fun p347 e_p347 h => ?_)
  refine vg_cSX (pc := 2516) (As := [.ref c1, V (sx (((a5 + 1)).toNat)), .ref c3]) (rest := []) (mc' := 1) (ms' := 6) (dK D_Law_law_29 22 rfl) K_Law_278 (fitK rfl) rfl (leK rfl) (by omega) (by omega) (tf_Law_spreadsOf hfl hc1 (hsn.at _) hc3 e_p347) (kcI (fun h_p347 => ?_))
  refine g_istore (pc := 2519) (ls2 := [(6, V p347.1), (0, .ref (XB + 200)), (1, .ref c1), (2, .ref c2), (3, .ref c3), (4, .ref c4), (5, V a5)]) (dK D_Law_law_29 23 rfl) (ltK rfl) rfl ?_
  refine g_aloadn (pc := 2521) (i0 := 2) (j := 3) (dK D_Law_law_29 24 rfl) rfl rfl ?_
  refine g_aloadn (pc := 2522) (i0 := 0) (j := 1) (dK D_Law_law_29 25 rfl) rfl rfl ?_
  refine g_iload (pc := 2523) (j := 6) (dK D_Law_law_29 26 rfl) rfl ?_
  refine vg_iconst (pc := 2525) (dK D_Law_law_29 27 rfl) ?_
  refine vg_iadd (pc := 2526) (dK D_Law_law_29 28 rfl) ?_
  refine vg_sld (pc := 2527) (dK D_Law_law_29 29 rfl) hsn hi346 ?_
  refine bnE h (fun p348 e_p348 h => ?_)
  refine vg_cV (pc := 2528) (As := [V (sx (((a5 + 1)).toNat))]) (rest := []) (mc' := 0) (ms' := 0) (dK D_Law_law_29 30 rfl) K_Law_280 (fitK rfl) (ltK rfl) hc2 rfl (leK rfl) (by omega) (by omega) (tf_Mo_spreadsOf hc2 (hsn.at _) e_p348) (kcI (fun h_p348 => ?_))
  refine g_istore (pc := 2531) (ls2 := [(7, V p348.1), (6, V p347.1), (0, .ref (XB + 200)), (1, .ref c1), (2, .ref c2), (3, .ref c3), (4, .ref c4), (5, V a5)]) (dK D_Law_law_29 31 rfl) (ltK rfl) rfl ?_
  refine g_aloadn (pc := 2533) (i0 := 2) (j := 4) (dK D_Law_law_29 32 rfl) rfl rfl ?_
  refine bnE h (fun p349 e_p349 h => ?_)
  refine vg_cV (pc := 2534) (As := []) (rest := []) (mc' := 0) (ms' := 0) (dK D_Law_law_29 33 rfl) K_Law_163 (fitK rfl) (ltK rfl) hc2 rfl (leK rfl) (by omega) (by omega) (tf_Mo_thrown hc2 e_p349) (kcI (fun h_p349 => ?_))
  refine g_iload (pc := 2537) (j := 1) (dK D_Law_law_29 34 rfl) rfl ?_
  refine vg_icmp_eq (pc := 2539) (t := 2544) (dK D_Law_law_29 35 rfl) rfl h_p349 h_p347 (fun hc352 => ?_) (fun hc352 => ?_)
  · replace h := ifP h hc352
    refine g_iload (pc := 2544) (j := 1) (dK D_Law_law_29 38 rfl) rfl ?_
    refine vg_if_ne (pc := 2546) (t := 2561) (dK D_Law_law_29 39 rfl) rfl h_p347 (fun hc351 => ?_) (fun hc351 => ?_)
    · replace h := ifN h hc351
      refine g_goto (pc := 2561) (tgt := 3073) (dK D_Law_law_29 49 rfl) rfl ?_
      refine gL_weak (ls' := [(0, .ref (XB + 200)), (1, .ref c1), (2, .ref c2), (3, .ref c3), (4, .ref c4), (5, V a5)]) (sbc 2 rfl (sbc 3 rfl (sbc 4 rfl (sbc 5 rfl (sbc 6 rfl (sbc 7 rfl sbn)))))) ?_
      exact tj_Law_law_3073 hfl hsn hc1 hc2 hc3 hc4 hx hr ih ha5 (by omega) (by omega) h
    · replace h := ifP h hc351
      refine g_aloadn (pc := 2549) (i0 := 3) (j := 5) (dK D_Law_law_29 40 rfl) rfl rfl ?_
      refine vg_iconst (pc := 2550) (dK D_Law_law_29 41 rfl) ?_
      refine vg_laload (pc := 2551) (j := 0) (dK D_Law_law_29 42 rfl) hc3 rfl ⟨by decide, by decide⟩ rfl ?_
      refine g_iload (pc := 2552) (j := 0) (dK D_Law_law_29 43 rfl) rfl ?_
      refine vg_i2l (pc := 2554) (dK D_Law_law_29 44 rfl) h_p348 ?_
      refine vg_lcmp_eq (pc := 2555) (t := 2561) (dK D_Law_law_29 45 rfl) (dK D_Law_law_29 46 rfl) rfl (gl_in _ _ _) (inR_L h_p348) (fun hc350 => ?_) (fun hc350 => ?_)
      · replace h := ifP h hc350
        refine g_goto (pc := 2561) (tgt := 3073) (dK D_Law_law_29 49 rfl) rfl ?_
        refine gL_weak (ls' := [(0, .ref (XB + 200)), (1, .ref c1), (2, .ref c2), (3, .ref c3), (4, .ref c4), (5, V a5)]) (sbc 2 rfl (sbc 3 rfl (sbc 4 rfl (sbc 5 rfl (sbc 6 rfl (sbc 7 rfl sbn)))))) ?_
        exact tj_Law_law_3073 hfl hsn hc1 hc2 hc3 hc4 hx hr ih ha5 (by omega) (by omega) h
      · replace h := ifN h hc350
        refine vg_iconst (pc := 2559) (dK D_Law_law_29 47 rfl) ?_
        exact vg_iretB (pc := 2560) (b := false) (dK D_Law_law_29 48 rfl) rfl (by omega) (by omega) (xf hfl) (hr _ (Option.some.inj h).symm)
  · replace h := ifN h hc352
    refine vg_iconst (pc := 2542) (dK D_Law_law_29 36 rfl) ?_
    exact vg_iretB (pc := 2543) (b := false) (dK D_Law_law_29 37 rfl) rfl (by omega) (by omega) (xf hfl) (hr _ (Option.some.inj h).symm)
def jf_Law_law_2564 (sx : Nat → Int) (sn : Nat) (c1 : Nat) (c2 : Nat) (c3 : Nat) (c4 : Nat) (go : Int × St → Option ((Bool × St) ⊕ (St))) (a5 : Int) (S : St) : Option ((Bool × St) ⊕ (St)) := bnO (fn_FP_revenue c1 S) fun p354 => bnO (fn_Mo_revenue c2 S) fun p355 => if p354 = p355.1 then (jf_Law_law_3073 sx sn c1 c2 c3 c4 go a5 p355.2) else (some (.inl (false, p355.2)))
theorem tj_Law_law_2564 {E : EV} {X : XT} (hfl : X.2.2.2 = false) {sx : Nat → Int} {sn : Nat} (hsn : ScrE E sx sn) {c1 : Nat} (hc1 : HC X 10 c1) {c2 : Nat} (hc2 : HC X 11 c2) {c3 : Nat} (hc3 : HA X 3 1 c3) {c4 : Nat} (hc4 : HA X 4 1 c4) {mc ms : Nat} {K : RK → PS → Prop} {q : (Bool × St) ⊕ (St)} (hx : ∀ p, q = .inr p → ∀ kk nn, kk ≤ mc → nn ≤ ms → Go E M_Law_law mc ms 3079 [] [] (WX X p) kk nn K) (hr : ∀ p, q = .inl p → K (.inl (some (V (bi p.1)))) (WX X p.2)) {fu : Nat} {go : Int × St → Option ((Bool × St) ⊕ (St))} (ih : ∀ a, go a = some q → inR a.1 → ∀ kk nn, kk + 2 * fu ≤ mc → nn + 12 * fu ≤ ms → Go E M_Law_law mc ms 28 [(0, .ref (XB + 200)), (1, .ref c1), (2, .ref c2), (3, .ref c3), (4, .ref c4), (5, V a.1)] [] (WX X a.2) kk nn K) {a5 : Int} (ha5 : inR a5) {S : St} {kk nn : Nat} (hkk : kk + 0 + 2 * fu ≤ mc) (hnn : nn + 0 + 12 * fu ≤ ms) (h : jf_Law_law_2564 sx sn c1 c2 c3 c4 go a5 S = some q) : Go E M_Law_law mc ms 2564 [(0, .ref (XB + 200)), (1, .ref c1), (2, .ref c2), (3, .ref c3), (4, .ref c4), (5, V a5)] [] (WX X S) kk nn K := by
  unfold jf_Law_law_2564 at h
  refine g_aloadn (pc := 2564) (i0 := 1) (j := 1) (dK D_Law_law_30 0 rfl) rfl rfl ?_
  refine bnE h (fun p354 e_p354 h => ?_)
  refine vg_cV (pc := 2565) (As := []) (rest := []) (mc' := 0) (ms' := 0) (dK D_Law_law_30 1 rfl) K_Law_281 (fitK rfl) (ltK rfl) hc1 rfl (leK rfl) (by omega) (by omega) (tf_FP_revenue hc1 e_p354) (kcI (fun h_p354 => ?_))
  refine g_aloadn (pc := 2568) (i0 := 2) (j := 2) (dK D_Law_law_30 2 rfl) rfl rfl ?_
  refine bnE h (fun p355 e_p355 h => ?_)
  refine vg_cV (pc := 2569) (As := []) (rest := [V p354]) (mc' := 0) (ms' := 0) (dK D_Law_law_30 3 rfl) K_Law_284 (fitK rfl) (ltK rfl) hc2 rfl (leK rfl) (by omega) (by omega) (tf_Mo_revenue hc2 e_p355) (kcI (fun h_p355 => ?_))
  refine vg_icmp_eq (pc := 2572) (t := 3073) (dK D_Law_law_30 4 rfl) rfl h_p354 h_p355 (fun hc356 => ?_) (fun hc356 => ?_)
  · replace h := ifP h hc356
    exact tj_Law_law_3073 hfl hsn hc1 hc2 hc3 hc4 hx hr ih ha5 (by omega) (by omega) h
  · replace h := ifN h hc356
    refine vg_iconst (pc := 2575) (dK D_Law_law_30 5 rfl) ?_
    exact vg_iretB (pc := 2576) (b := false) (dK D_Law_law_30 6 rfl) rfl (by omega) (by omega) (xf hfl) (hr _ (Option.some.inj h).symm)
def jf_Law_law_2577 (sx : Nat → Int) (sn : Nat) (c1 : Nat) (c2 : Nat) (c3 : Nat) (c4 : Nat) (go : Int × St → Option ((Bool × St) ⊕ (St))) (a5 : Int) (S : St) : Option ((Bool × St) ⊕ (St)) := if 0 ≤ (a5 + 1) ∧ (a5 + 1) < (sn : Int) then (bnO (fn_Law_revenueOf c1 (sx (((a5 + 1)).toNat)) c3 S) fun p359 => bnO (fn_Mo_revenueOf c2 (sx (((a5 + 1)).toNat)) p359.2) fun p360 => bnO (fn_Mo_thrown c2 p360.2) fun p361 => if p361 = p359.1 then (if p359.1 = 0 then (if (gl p360.2 c3 0) = p360.1 then (jf_Law_law_3073 sx sn c1 c2 c3 c4 go a5 p360.2) else (some (.inl (false, p360.2)))) else (jf_Law_law_3073 sx sn c1 c2 c3 c4 go a5 p360.2)) else (some (.inl (false, p360.2)))) else none
theorem tj_Law_law_2577 {E : EV} {X : XT} (hfl : X.2.2.2 = false) {sx : Nat → Int} {sn : Nat} (hsn : ScrE E sx sn) {c1 : Nat} (hc1 : HC X 10 c1) {c2 : Nat} (hc2 : HC X 11 c2) {c3 : Nat} (hc3 : HA X 3 1 c3) {c4 : Nat} (hc4 : HA X 4 1 c4) {mc ms : Nat} {K : RK → PS → Prop} {q : (Bool × St) ⊕ (St)} (hx : ∀ p, q = .inr p → ∀ kk nn, kk ≤ mc → nn ≤ ms → Go E M_Law_law mc ms 3079 [] [] (WX X p) kk nn K) (hr : ∀ p, q = .inl p → K (.inl (some (V (bi p.1)))) (WX X p.2)) {fu : Nat} {go : Int × St → Option ((Bool × St) ⊕ (St))} (ih : ∀ a, go a = some q → inR a.1 → ∀ kk nn, kk + 2 * fu ≤ mc → nn + 12 * fu ≤ ms → Go E M_Law_law mc ms 28 [(0, .ref (XB + 200)), (1, .ref c1), (2, .ref c2), (3, .ref c3), (4, .ref c4), (5, V a.1)] [] (WX X a.2) kk nn K) {a5 : Int} (ha5 : inR a5) {S : St} {kk nn : Nat} (hkk : kk + 1 + 2 * fu ≤ mc) (hnn : nn + 6 + 12 * fu ≤ ms) (h : jf_Law_law_2577 sx sn c1 c2 c3 c4 go a5 S = some q) : Go E M_Law_law mc ms 2577 [(0, .ref (XB + 200)), (1, .ref c1), (2, .ref c2), (3, .ref c3), (4, .ref c4), (5, V a5)] [] (WX X S) kk nn K := by
  unfold jf_Law_law_2577 at h
  refine g_aloadn (pc := 2577) (i0 := 1) (j := 1) (dK D_Law_law_30 7 rfl) rfl rfl ?_
  refine g_aloadn (pc := 2578) (i0 := 0) (j := 0) (dK D_Law_law_30 8 rfl) rfl rfl ?_
  refine g_iload (pc := 2579) (j := 5) (dK D_Law_law_30 9 rfl) rfl ?_
  refine vg_iconst (pc := 2581) (dK D_Law_law_30 10 rfl) ?_
  refine vg_iadd (pc := 2582) (dK D_Law_law_30 11 rfl) ?_
  refine gdE h (fun hi358 h => ?_)
  refine vg_sld (pc := 2583) (dK D_Law_law_30 12 rfl) hsn hi358 ?_
  refine g_aloadn (pc := 2584) (i0 := 3) (j := 3) (dK D_Law_law_30 13 rfl) rfl rfl ?_
  refine bnE h (fun p359 e_p359 h => ?_)
  refine vg_cSX (pc := 2585) (As := [.ref c1, V (sx (((a5 + 1)).toNat)), .ref c3]) (rest := []) (mc' := 1) (ms' := 6) (dK D_Law_law_30 14 rfl) K_Law_285 (fitK rfl) rfl (leK rfl) (by omega) (by omega) (tf_Law_revenueOf hfl hc1 (hsn.at _) hc3 e_p359) (kcI (fun h_p359 => ?_))
  refine g_istore (pc := 2588) (ls2 := [(6, V p359.1), (0, .ref (XB + 200)), (1, .ref c1), (2, .ref c2), (3, .ref c3), (4, .ref c4), (5, V a5)]) (dK D_Law_law_30 15 rfl) (ltK rfl) rfl ?_
  refine g_aloadn (pc := 2590) (i0 := 2) (j := 3) (dK D_Law_law_30 16 rfl) rfl rfl ?_
  refine g_aloadn (pc := 2591) (i0 := 0) (j := 1) (dK D_Law_law_30 17 rfl) rfl rfl ?_
  refine g_iload (pc := 2592) (j := 6) (dK D_Law_law_30 18 rfl) rfl ?_
  refine vg_iconst (pc := 2594) (dK D_Law_law_30 19 rfl) ?_
  refine vg_iadd (pc := 2595) (dK D_Law_law_30 20 rfl) ?_
  refine vg_sld (pc := 2596) (dK D_Law_law_30 21 rfl) hsn hi358 ?_
  refine bnE h (fun p360 e_p360 h => ?_)
  refine vg_cV (pc := 2597) (As := [V (sx (((a5 + 1)).toNat))]) (rest := []) (mc' := 0) (ms' := 0) (dK D_Law_law_30 22 rfl) K_Law_287 (fitK rfl) (ltK rfl) hc2 rfl (leK rfl) (by omega) (by omega) (tf_Mo_revenueOf hc2 (hsn.at _) e_p360) (kcI (fun h_p360 => ?_))
  refine g_istore (pc := 2600) (ls2 := [(7, V p360.1), (6, V p359.1), (0, .ref (XB + 200)), (1, .ref c1), (2, .ref c2), (3, .ref c3), (4, .ref c4), (5, V a5)]) (dK D_Law_law_30 23 rfl) (ltK rfl) rfl ?_
  refine g_aloadn (pc := 2602) (i0 := 2) (j := 4) (dK D_Law_law_30 24 rfl) rfl rfl ?_
  refine bnE h (fun p361 e_p361 h => ?_)
  refine vg_cV (pc := 2603) (As := []) (rest := []) (mc' := 0) (ms' := 0) (dK D_Law_law_30 25 rfl) K_Law_163 (fitK rfl) (ltK rfl) hc2 rfl (leK rfl) (by omega) (by omega) (tf_Mo_thrown hc2 e_p361) (kcI (fun h_p361 => ?_))
  refine g_iload (pc := 2606) (j := 1) (dK D_Law_law_30 26 rfl) rfl ?_
  refine vg_icmp_eq (pc := 2608) (t := 2613) (dK D_Law_law_30 27 rfl) rfl h_p361 h_p359 (fun hc364 => ?_) (fun hc364 => ?_)
  · replace h := ifP h hc364
    refine g_iload (pc := 2613) (j := 1) (dK D_Law_law_30 30 rfl) rfl ?_
    refine vg_if_ne (pc := 2615) (t := 2630) (dK D_Law_law_30 31 rfl) rfl h_p359 (fun hc363 => ?_) (fun hc363 => ?_)
    · replace h := ifN h hc363
      refine g_goto (pc := 2630) (tgt := 3073) (dK D_Law_law_30 41 rfl) rfl ?_
      refine gL_weak (ls' := [(0, .ref (XB + 200)), (1, .ref c1), (2, .ref c2), (3, .ref c3), (4, .ref c4), (5, V a5)]) (sbc 2 rfl (sbc 3 rfl (sbc 4 rfl (sbc 5 rfl (sbc 6 rfl (sbc 7 rfl sbn)))))) ?_
      exact tj_Law_law_3073 hfl hsn hc1 hc2 hc3 hc4 hx hr ih ha5 (by omega) (by omega) h
    · replace h := ifP h hc363
      refine g_aloadn (pc := 2618) (i0 := 3) (j := 5) (dK D_Law_law_30 32 rfl) rfl rfl ?_
      refine vg_iconst (pc := 2619) (dK D_Law_law_30 33 rfl) ?_
      refine vg_laload (pc := 2620) (j := 0) (dK D_Law_law_30 34 rfl) hc3 rfl ⟨by decide, by decide⟩ rfl ?_
      refine g_iload (pc := 2621) (j := 0) (dK D_Law_law_30 35 rfl) rfl ?_
      refine vg_i2l (pc := 2623) (dK D_Law_law_30 36 rfl) h_p360 ?_
      refine vg_lcmp_eq (pc := 2624) (t := 2630) (dK D_Law_law_30 37 rfl) (dK D_Law_law_30 38 rfl) rfl (gl_in _ _ _) (inR_L h_p360) (fun hc362 => ?_) (fun hc362 => ?_)
      · replace h := ifP h hc362
        refine g_goto (pc := 2630) (tgt := 3073) (dK D_Law_law_30 41 rfl) rfl ?_
        refine gL_weak (ls' := [(0, .ref (XB + 200)), (1, .ref c1), (2, .ref c2), (3, .ref c3), (4, .ref c4), (5, V a5)]) (sbc 2 rfl (sbc 3 rfl (sbc 4 rfl (sbc 5 rfl (sbc 6 rfl (sbc 7 rfl sbn)))))) ?_
        exact tj_Law_law_3073 hfl hsn hc1 hc2 hc3 hc4 hx hr ih ha5 (by omega) (by omega) h
      · replace h := ifN h hc362
        refine vg_iconst (pc := 2628) (dK D_Law_law_30 39 rfl) ?_
        exact vg_iretB (pc := 2629) (b := false) (dK D_Law_law_30 40 rfl) rfl (by omega) (by omega) (xf hfl) (hr _ (Option.some.inj h).symm)
  · replace h := ifN h hc364
    refine vg_iconst (pc := 2611) (dK D_Law_law_30 28 rfl) ?_
    exact vg_iretB (pc := 2612) (b := false) (dK D_Law_law_30 29 rfl) rfl (by omega) (by omega) (xf hfl) (hr _ (Option.some.inj h).symm)
def jf_Law_law_2633 (sx : Nat → Int) (sn : Nat) (c1 : Nat) (c2 : Nat) (c3 : Nat) (c4 : Nat) (go : Int × St → Option ((Bool × St) ⊕ (St))) (a5 : Int) (S : St) : Option ((Bool × St) ⊕ (St)) := if 0 ≤ (a5 + 1) ∧ (a5 + 1) < (sn : Int) then (bnO (fn_Law_revenueOfGroup c1 (sx (((a5 + 1)).toNat)) c3 S) fun p367 => bnO (fn_Mo_revenueOfGroup c2 (sx (((a5 + 1)).toNat)) p367.2) fun p368 => bnO (fn_Mo_thrown c2 p368.2) fun p369 => if p369 = p367.1 then (if p367.1 = 0 then (if (gl p368.2 c3 0) = p368.1 then (jf_Law_law_3073 sx sn c1 c2 c3 c4 go a5 p368.2) else (some (.inl (false, p368.2)))) else (jf_Law_law_3073 sx sn c1 c2 c3 c4 go a5 p368.2)) else (some (.inl (false, p368.2)))) else none
theorem tj_Law_law_2633 {E : EV} {X : XT} (hfl : X.2.2.2 = false) {sx : Nat → Int} {sn : Nat} (hsn : ScrE E sx sn) {c1 : Nat} (hc1 : HC X 10 c1) {c2 : Nat} (hc2 : HC X 11 c2) {c3 : Nat} (hc3 : HA X 3 1 c3) {c4 : Nat} (hc4 : HA X 4 1 c4) {mc ms : Nat} {K : RK → PS → Prop} {q : (Bool × St) ⊕ (St)} (hx : ∀ p, q = .inr p → ∀ kk nn, kk ≤ mc → nn ≤ ms → Go E M_Law_law mc ms 3079 [] [] (WX X p) kk nn K) (hr : ∀ p, q = .inl p → K (.inl (some (V (bi p.1)))) (WX X p.2)) {fu : Nat} {go : Int × St → Option ((Bool × St) ⊕ (St))} (ih : ∀ a, go a = some q → inR a.1 → ∀ kk nn, kk + 2 * fu ≤ mc → nn + 12 * fu ≤ ms → Go E M_Law_law mc ms 28 [(0, .ref (XB + 200)), (1, .ref c1), (2, .ref c2), (3, .ref c3), (4, .ref c4), (5, V a.1)] [] (WX X a.2) kk nn K) {a5 : Int} (ha5 : inR a5) {S : St} {kk nn : Nat} (hkk : kk + 1 + 2 * fu ≤ mc) (hnn : nn + 6 + 12 * fu ≤ ms) (h : jf_Law_law_2633 sx sn c1 c2 c3 c4 go a5 S = some q) : Go E M_Law_law mc ms 2633 [(0, .ref (XB + 200)), (1, .ref c1), (2, .ref c2), (3, .ref c3), (4, .ref c4), (5, V a5)] [] (WX X S) kk nn K := by
  unfold jf_Law_law_2633 at h
  refine g_aloadn (pc := 2633) (i0 := 1) (j := 1) (dK D_Law_law_30 42 rfl) rfl rfl ?_
  refine g_aloadn (pc := 2634) (i0 := 0) (j := 0) (dK D_Law_law_30 43 rfl) rfl rfl ?_
  refine g_iload (pc := 2635) (j := 5) (dK D_Law_law_30 44 rfl) rfl ?_
  refine vg_iconst (pc := 2637) (dK D_Law_law_30 45 rfl) ?_
  refine vg_iadd (pc := 2638) (dK D_Law_law_30 46 rfl) ?_
  refine gdE h (fun hi366 h => ?_)
  refine vg_sld (pc := 2639) (dK D_Law_law_30 47 rfl) hsn hi366 ?_
  refine g_aloadn (pc := 2640) (i0 := 3) (j := 3) (dK D_Law_law_30 48 rfl) rfl rfl ?_
  refine bnE h (fun p367 e_p367 h => ?_)
  refine vg_cSX (pc := 2641) (As := [.ref c1, V (sx (((a5 + 1)).toNat)), .ref c3]) (rest := []) (mc' := 1) (ms' := 6) (dK D_Law_law_30 49 rfl) K_Law_288 (fitK rfl) rfl (leK rfl) (by omega) (by omega) (tf_Law_revenueOfGroup hfl hc1 (hsn.at _) hc3 e_p367) (kcI (fun h_p367 => ?_))
  refine g_istore (pc := 2644) (ls2 := [(6, V p367.1), (0, .ref (XB + 200)), (1, .ref c1), (2, .ref c2), (3, .ref c3), (4, .ref c4), (5, V a5)]) (dK D_Law_law_31 0 rfl) (ltK rfl) rfl ?_
  refine g_aloadn (pc := 2646) (i0 := 2) (j := 3) (dK D_Law_law_31 1 rfl) rfl rfl ?_
  refine g_aloadn (pc := 2647) (i0 := 0) (j := 1) (dK D_Law_law_31 2 rfl) rfl rfl ?_
  refine g_iload (pc := 2648) (j := 6) (dK D_Law_law_31 3 rfl) rfl ?_
  refine vg_iconst (pc := 2650) (dK D_Law_law_31 4 rfl) ?_
  refine vg_iadd (pc := 2651) (dK D_Law_law_31 5 rfl) ?_
  refine vg_sld (pc := 2652) (dK D_Law_law_31 6 rfl) hsn hi366 ?_
  refine bnE h (fun p368 e_p368 h => ?_)
  refine vg_cV (pc := 2653) (As := [V (sx (((a5 + 1)).toNat))]) (rest := []) (mc' := 0) (ms' := 0) (dK D_Law_law_31 7 rfl) K_Law_290 (fitK rfl) (ltK rfl) hc2 rfl (leK rfl) (by omega) (by omega) (tf_Mo_revenueOfGroup hc2 (hsn.at _) e_p368) (kcI (fun h_p368 => ?_))
  refine g_istore (pc := 2656) (ls2 := [(7, V p368.1), (6, V p367.1), (0, .ref (XB + 200)), (1, .ref c1), (2, .ref c2), (3, .ref c3), (4, .ref c4), (5, V a5)]) (dK D_Law_law_31 8 rfl) (ltK rfl) rfl ?_
  refine g_aloadn (pc := 2658) (i0 := 2) (j := 4) (dK D_Law_law_31 9 rfl) rfl rfl ?_
  refine bnE h (fun p369 e_p369 h => ?_)
  refine vg_cV (pc := 2659) (As := []) (rest := []) (mc' := 0) (ms' := 0) (dK D_Law_law_31 10 rfl) K_Law_163 (fitK rfl) (ltK rfl) hc2 rfl (leK rfl) (by omega) (by omega) (tf_Mo_thrown hc2 e_p369) (kcI (fun h_p369 => ?_))
  refine g_iload (pc := 2662) (j := 1) (dK D_Law_law_31 11 rfl) rfl ?_
  refine vg_icmp_eq (pc := 2664) (t := 2669) (dK D_Law_law_31 12 rfl) rfl h_p369 h_p367 (fun hc372 => ?_) (fun hc372 => ?_)
  · replace h := ifP h hc372
    refine g_iload (pc := 2669) (j := 1) (dK D_Law_law_31 15 rfl) rfl ?_
    refine vg_if_ne (pc := 2671) (t := 2686) (dK D_Law_law_31 16 rfl) rfl h_p367 (fun hc371 => ?_) (fun hc371 => ?_)
    · replace h := ifN h hc371
      refine g_goto (pc := 2686) (tgt := 3073) (dK D_Law_law_31 26 rfl) rfl ?_
      refine gL_weak (ls' := [(0, .ref (XB + 200)), (1, .ref c1), (2, .ref c2), (3, .ref c3), (4, .ref c4), (5, V a5)]) (sbc 2 rfl (sbc 3 rfl (sbc 4 rfl (sbc 5 rfl (sbc 6 rfl (sbc 7 rfl sbn)))))) ?_
      exact tj_Law_law_3073 hfl hsn hc1 hc2 hc3 hc4 hx hr ih ha5 (by omega) (by omega) h
    · replace h := ifP h hc371
      refine g_aloadn (pc := 2674) (i0 := 3) (j := 5) (dK D_Law_law_31 17 rfl) rfl rfl ?_
      refine vg_iconst (pc := 2675) (dK D_Law_law_31 18 rfl) ?_
      refine vg_laload (pc := 2676) (j := 0) (dK D_Law_law_31 19 rfl) hc3 rfl ⟨by decide, by decide⟩ rfl ?_
      refine g_iload (pc := 2677) (j := 0) (dK D_Law_law_31 20 rfl) rfl ?_
      refine vg_i2l (pc := 2679) (dK D_Law_law_31 21 rfl) h_p368 ?_
      refine vg_lcmp_eq (pc := 2680) (t := 2686) (dK D_Law_law_31 22 rfl) (dK D_Law_law_31 23 rfl) rfl (gl_in _ _ _) (inR_L h_p368) (fun hc370 => ?_) (fun hc370 => ?_)
      · replace h := ifP h hc370
        refine g_goto (pc := 2686) (tgt := 3073) (dK D_Law_law_31 26 rfl) rfl ?_
        refine gL_weak (ls' := [(0, .ref (XB + 200)), (1, .ref c1), (2, .ref c2), (3, .ref c3), (4, .ref c4), (5, V a5)]) (sbc 2 rfl (sbc 3 rfl (sbc 4 rfl (sbc 5 rfl (sbc 6 rfl (sbc 7 rfl sbn)))))) ?_
        exact tj_Law_law_3073 hfl hsn hc1 hc2 hc3 hc4 hx hr ih ha5 (by omega) (by omega) h
      · replace h := ifN h hc370
        refine vg_iconst (pc := 2684) (dK D_Law_law_31 24 rfl) ?_
        exact vg_iretB (pc := 2685) (b := false) (dK D_Law_law_31 25 rfl) rfl (by omega) (by omega) (xf hfl) (hr _ (Option.some.inj h).symm)
  · replace h := ifN h hc372
    refine vg_iconst (pc := 2667) (dK D_Law_law_31 13 rfl) ?_
    exact vg_iretB (pc := 2668) (b := false) (dK D_Law_law_31 14 rfl) rfl (by omega) (by omega) (xf hfl) (hr _ (Option.some.inj h).symm)
def jf_Law_law_2689 (sx : Nat → Int) (sn : Nat) (c1 : Nat) (c2 : Nat) (c3 : Nat) (c4 : Nat) (go : Int × St → Option ((Bool × St) ⊕ (St))) (a5 : Int) (S : St) : Option ((Bool × St) ⊕ (St)) := bnO (fn_FP_lost c1 S) fun p374 => bnO (fn_Mo_lost c2 S) fun p375 => if p374 = p375.1 then (jf_Law_law_3073 sx sn c1 c2 c3 c4 go a5 p375.2) else (some (.inl (false, p375.2)))
theorem tj_Law_law_2689 {E : EV} {X : XT} (hfl : X.2.2.2 = false) {sx : Nat → Int} {sn : Nat} (hsn : ScrE E sx sn) {c1 : Nat} (hc1 : HC X 10 c1) {c2 : Nat} (hc2 : HC X 11 c2) {c3 : Nat} (hc3 : HA X 3 1 c3) {c4 : Nat} (hc4 : HA X 4 1 c4) {mc ms : Nat} {K : RK → PS → Prop} {q : (Bool × St) ⊕ (St)} (hx : ∀ p, q = .inr p → ∀ kk nn, kk ≤ mc → nn ≤ ms → Go E M_Law_law mc ms 3079 [] [] (WX X p) kk nn K) (hr : ∀ p, q = .inl p → K (.inl (some (V (bi p.1)))) (WX X p.2)) {fu : Nat} {go : Int × St → Option ((Bool × St) ⊕ (St))} (ih : ∀ a, go a = some q → inR a.1 → ∀ kk nn, kk + 2 * fu ≤ mc → nn + 12 * fu ≤ ms → Go E M_Law_law mc ms 28 [(0, .ref (XB + 200)), (1, .ref c1), (2, .ref c2), (3, .ref c3), (4, .ref c4), (5, V a.1)] [] (WX X a.2) kk nn K) {a5 : Int} (ha5 : inR a5) {S : St} {kk nn : Nat} (hkk : kk + 0 + 2 * fu ≤ mc) (hnn : nn + 0 + 12 * fu ≤ ms) (h : jf_Law_law_2689 sx sn c1 c2 c3 c4 go a5 S = some q) : Go E M_Law_law mc ms 2689 [(0, .ref (XB + 200)), (1, .ref c1), (2, .ref c2), (3, .ref c3), (4, .ref c4), (5, V a5)] [] (WX X S) kk nn K := by
  unfold jf_Law_law_2689 at h
  refine g_aloadn (pc := 2689) (i0 := 1) (j := 1) (dK D_Law_law_31 27 rfl) rfl rfl ?_
  refine bnE h (fun p374 e_p374 h => ?_)
  refine vg_cV (pc := 2690) (As := []) (rest := []) (mc' := 0) (ms' := 0) (dK D_Law_law_31 28 rfl) K_Law_291 (fitK rfl) (ltK rfl) hc1 rfl (leK rfl) (by omega) (by omega) (tf_FP_lost hc1 e_p374) (kcI (fun h_p374 => ?_))
  refine g_aloadn (pc := 2693) (i0 := 2) (j := 2) (dK D_Law_law_31 29 rfl) rfl rfl ?_
  refine bnE h (fun p375 e_p375 h => ?_)
  refine vg_cV (pc := 2694) (As := []) (rest := [V p374]) (mc' := 0) (ms' := 0) (dK D_Law_law_31 30 rfl) K_Law_294 (fitK rfl) (ltK rfl) hc2 rfl (leK rfl) (by omega) (by omega) (tf_Mo_lost hc2 e_p375) (kcI (fun h_p375 => ?_))
  refine vg_icmp_eq (pc := 2697) (t := 3073) (dK D_Law_law_31 31 rfl) rfl h_p374 h_p375 (fun hc376 => ?_) (fun hc376 => ?_)
  · replace h := ifP h hc376
    exact tj_Law_law_3073 hfl hsn hc1 hc2 hc3 hc4 hx hr ih ha5 (by omega) (by omega) h
  · replace h := ifN h hc376
    refine vg_iconst (pc := 2700) (dK D_Law_law_31 32 rfl) ?_
    exact vg_iretB (pc := 2701) (b := false) (dK D_Law_law_31 33 rfl) rfl (by omega) (by omega) (xf hfl) (hr _ (Option.some.inj h).symm)
def jf_Law_law_2702 (sx : Nat → Int) (sn : Nat) (c1 : Nat) (c2 : Nat) (c3 : Nat) (c4 : Nat) (go : Int × St → Option ((Bool × St) ⊕ (St))) (a5 : Int) (S : St) : Option ((Bool × St) ⊕ (St)) := bnO (fn_FP_endangered c1 S) fun p378 => bnO (fn_Mo_endangered c2 S) fun p379 => if p378 = p379.1 then (jf_Law_law_3073 sx sn c1 c2 c3 c4 go a5 p379.2) else (some (.inl (false, p379.2)))
theorem tj_Law_law_2702 {E : EV} {X : XT} (hfl : X.2.2.2 = false) {sx : Nat → Int} {sn : Nat} (hsn : ScrE E sx sn) {c1 : Nat} (hc1 : HC X 10 c1) {c2 : Nat} (hc2 : HC X 11 c2) {c3 : Nat} (hc3 : HA X 3 1 c3) {c4 : Nat} (hc4 : HA X 4 1 c4) {mc ms : Nat} {K : RK → PS → Prop} {q : (Bool × St) ⊕ (St)} (hx : ∀ p, q = .inr p → ∀ kk nn, kk ≤ mc → nn ≤ ms → Go E M_Law_law mc ms 3079 [] [] (WX X p) kk nn K) (hr : ∀ p, q = .inl p → K (.inl (some (V (bi p.1)))) (WX X p.2)) {fu : Nat} {go : Int × St → Option ((Bool × St) ⊕ (St))} (ih : ∀ a, go a = some q → inR a.1 → ∀ kk nn, kk + 2 * fu ≤ mc → nn + 12 * fu ≤ ms → Go E M_Law_law mc ms 28 [(0, .ref (XB + 200)), (1, .ref c1), (2, .ref c2), (3, .ref c3), (4, .ref c4), (5, V a.1)] [] (WX X a.2) kk nn K) {a5 : Int} (ha5 : inR a5) {S : St} {kk nn : Nat} (hkk : kk + 0 + 2 * fu ≤ mc) (hnn : nn + 0 + 12 * fu ≤ ms) (h : jf_Law_law_2702 sx sn c1 c2 c3 c4 go a5 S = some q) : Go E M_Law_law mc ms 2702 [(0, .ref (XB + 200)), (1, .ref c1), (2, .ref c2), (3, .ref c3), (4, .ref c4), (5, V a5)] [] (WX X S) kk nn K := by
  unfold jf_Law_law_2702 at h
  refine g_aloadn (pc := 2702) (i0 := 1) (j := 1) (dK D_Law_law_31 34 rfl) rfl rfl ?_
  refine bnE h (fun p378 e_p378 h => ?_)
  refine vg_cV (pc := 2703) (As := []) (rest := []) (mc' := 0) (ms' := 0) (dK D_Law_law_31 35 rfl) K_Law_295 (fitK rfl) (ltK rfl) hc1 rfl (leK rfl) (by omega) (by omega) (tf_FP_endangered hc1 e_p378) (kcI (fun h_p378 => ?_))
  refine g_aloadn (pc := 2706) (i0 := 2) (j := 2) (dK D_Law_law_31 36 rfl) rfl rfl ?_
  refine bnE h (fun p379 e_p379 h => ?_)
  refine vg_cV (pc := 2707) (As := []) (rest := [V p378]) (mc' := 0) (ms' := 0) (dK D_Law_law_31 37 rfl) K_Law_298 (fitK rfl) (ltK rfl) hc2 rfl (leK rfl) (by omega) (by omega) (tf_Mo_endangered hc2 e_p379) (kcI (fun h_p379 => ?_))
  refine vg_icmp_eq (pc := 2710) (t := 3073) (dK D_Law_law_31 38 rfl) rfl h_p378 h_p379 (fun hc380 => ?_) (fun hc380 => ?_)
  · replace h := ifP h hc380
    exact tj_Law_law_3073 hfl hsn hc1 hc2 hc3 hc4 hx hr ih ha5 (by omega) (by omega) h
  · replace h := ifN h hc380
    refine vg_iconst (pc := 2713) (dK D_Law_law_31 39 rfl) ?_
    exact vg_iretB (pc := 2714) (b := false) (dK D_Law_law_31 40 rfl) rfl (by omega) (by omega) (xf hfl) (hr _ (Option.some.inj h).symm)
def jf_Law_law_2715 (sx : Nat → Int) (sn : Nat) (c1 : Nat) (c2 : Nat) (c3 : Nat) (c4 : Nat) (go : Int × St → Option ((Bool × St) ⊕ (St))) (a5 : Int) (S : St) : Option ((Bool × St) ⊕ (St)) := if 0 ≤ (a5 + 1) ∧ (a5 + 1) < (sn : Int) then (bnO (fn_FP_lateItem c1 (sx (((a5 + 1)).toNat)) S) fun p383 => bnO (fn_Mo_lateItem c2 (sx (((a5 + 1)).toNat)) S) fun p384 => if p383 = p384.1 then (jf_Law_law_3073 sx sn c1 c2 c3 c4 go a5 p384.2) else (some (.inl (false, p384.2)))) else none
theorem tj_Law_law_2715 {E : EV} {X : XT} (hfl : X.2.2.2 = false) {sx : Nat → Int} {sn : Nat} (hsn : ScrE E sx sn) {c1 : Nat} (hc1 : HC X 10 c1) {c2 : Nat} (hc2 : HC X 11 c2) {c3 : Nat} (hc3 : HA X 3 1 c3) {c4 : Nat} (hc4 : HA X 4 1 c4) {mc ms : Nat} {K : RK → PS → Prop} {q : (Bool × St) ⊕ (St)} (hx : ∀ p, q = .inr p → ∀ kk nn, kk ≤ mc → nn ≤ ms → Go E M_Law_law mc ms 3079 [] [] (WX X p) kk nn K) (hr : ∀ p, q = .inl p → K (.inl (some (V (bi p.1)))) (WX X p.2)) {fu : Nat} {go : Int × St → Option ((Bool × St) ⊕ (St))} (ih : ∀ a, go a = some q → inR a.1 → ∀ kk nn, kk + 2 * fu ≤ mc → nn + 12 * fu ≤ ms → Go E M_Law_law mc ms 28 [(0, .ref (XB + 200)), (1, .ref c1), (2, .ref c2), (3, .ref c3), (4, .ref c4), (5, V a.1)] [] (WX X a.2) kk nn K) {a5 : Int} (ha5 : inR a5) {S : St} {kk nn : Nat} (hkk : kk + 0 + 2 * fu ≤ mc) (hnn : nn + 0 + 12 * fu ≤ ms) (h : jf_Law_law_2715 sx sn c1 c2 c3 c4 go a5 S = some q) : Go E M_Law_law mc ms 2715 [(0, .ref (XB + 200)), (1, .ref c1), (2, .ref c2), (3, .ref c3), (4, .ref c4), (5, V a5)] [] (WX X S) kk nn K := by
  unfold jf_Law_law_2715 at h
  refine g_aloadn (pc := 2715) (i0 := 1) (j := 1) (dK D_Law_law_31 41 rfl) rfl rfl ?_
  refine g_aloadn (pc := 2716) (i0 := 0) (j := 0) (dK D_Law_law_31 42 rfl) rfl rfl ?_
  refine g_iload (pc := 2717) (j := 5) (dK D_Law_law_31 43 rfl) rfl ?_
  refine vg_iconst (pc := 2719) (dK D_Law_law_31 44 rfl) ?_
  refine vg_iadd (pc := 2720) (dK D_Law_law_31 45 rfl) ?_
  refine gdE h (fun hi382 h => ?_)
  refine vg_sld (pc := 2721) (dK D_Law_law_31 46 rfl) hsn hi382 ?_
  refine bnE h (fun p383 e_p383 h => ?_)
  refine vg_cV (pc := 2722) (As := [V (sx (((a5 + 1)).toNat))]) (rest := []) (mc' := 0) (ms' := 0) (dK D_Law_law_31 47 rfl) K_Law_299 (fitK rfl) (ltK rfl) hc1 rfl (leK rfl) (by omega) (by omega) (tf_FP_lateItem hc1 (hsn.at _) e_p383) (kcI (fun h_p383 => ?_))
  refine g_aloadn (pc := 2725) (i0 := 2) (j := 2) (dK D_Law_law_31 48 rfl) rfl rfl ?_
  refine g_aloadn (pc := 2726) (i0 := 0) (j := 0) (dK D_Law_law_31 49 rfl) rfl rfl ?_
  refine g_iload (pc := 2727) (j := 5) (dK D_Law_law_32 0 rfl) rfl ?_
  refine vg_iconst (pc := 2729) (dK D_Law_law_32 1 rfl) ?_
  refine vg_iadd (pc := 2730) (dK D_Law_law_32 2 rfl) ?_
  refine vg_sld (pc := 2731) (dK D_Law_law_32 3 rfl) hsn hi382 ?_
  refine bnE h (fun p384 e_p384 h => ?_)
  refine vg_cV (pc := 2732) (As := [V (sx (((a5 + 1)).toNat))]) (rest := [V p383]) (mc' := 0) (ms' := 0) (dK D_Law_law_32 4 rfl) K_Law_302 (fitK rfl) (ltK rfl) hc2 rfl (leK rfl) (by omega) (by omega) (tf_Mo_lateItem hc2 (hsn.at _) e_p384) (kcI (fun h_p384 => ?_))
  refine vg_icmp_eq (pc := 2735) (t := 3073) (dK D_Law_law_32 5 rfl) rfl h_p383 h_p384 (fun hc385 => ?_) (fun hc385 => ?_)
  · replace h := ifP h hc385
    exact tj_Law_law_3073 hfl hsn hc1 hc2 hc3 hc4 hx hr ih ha5 (by omega) (by omega) h
  · replace h := ifN h hc385
    refine vg_iconst (pc := 2738) (dK D_Law_law_32 6 rfl) ?_
    exact vg_iretB (pc := 2739) (b := false) (dK D_Law_law_32 7 rfl) rfl (by omega) (by omega) (xf hfl) (hr _ (Option.some.inj h).symm)
def jf_Law_law_2740 (sx : Nat → Int) (sn : Nat) (c1 : Nat) (c2 : Nat) (c3 : Nat) (c4 : Nat) (go : Int × St → Option ((Bool × St) ⊕ (St))) (a5 : Int) (S : St) : Option ((Bool × St) ⊕ (St)) := bnO (fn_FP_lastReady c1 S) fun p387 => bnO (fn_Mo_lastReady c2 S) fun p388 => if p387 = p388.1 then (jf_Law_law_3073 sx sn c1 c2 c3 c4 go a5 p388.2) else (some (.inl (false, p388.2)))
theorem tj_Law_law_2740 {E : EV} {X : XT} (hfl : X.2.2.2 = false) {sx : Nat → Int} {sn : Nat} (hsn : ScrE E sx sn) {c1 : Nat} (hc1 : HC X 10 c1) {c2 : Nat} (hc2 : HC X 11 c2) {c3 : Nat} (hc3 : HA X 3 1 c3) {c4 : Nat} (hc4 : HA X 4 1 c4) {mc ms : Nat} {K : RK → PS → Prop} {q : (Bool × St) ⊕ (St)} (hx : ∀ p, q = .inr p → ∀ kk nn, kk ≤ mc → nn ≤ ms → Go E M_Law_law mc ms 3079 [] [] (WX X p) kk nn K) (hr : ∀ p, q = .inl p → K (.inl (some (V (bi p.1)))) (WX X p.2)) {fu : Nat} {go : Int × St → Option ((Bool × St) ⊕ (St))} (ih : ∀ a, go a = some q → inR a.1 → ∀ kk nn, kk + 2 * fu ≤ mc → nn + 12 * fu ≤ ms → Go E M_Law_law mc ms 28 [(0, .ref (XB + 200)), (1, .ref c1), (2, .ref c2), (3, .ref c3), (4, .ref c4), (5, V a.1)] [] (WX X a.2) kk nn K) {a5 : Int} (ha5 : inR a5) {S : St} {kk nn : Nat} (hkk : kk + 0 + 2 * fu ≤ mc) (hnn : nn + 0 + 12 * fu ≤ ms) (h : jf_Law_law_2740 sx sn c1 c2 c3 c4 go a5 S = some q) : Go E M_Law_law mc ms 2740 [(0, .ref (XB + 200)), (1, .ref c1), (2, .ref c2), (3, .ref c3), (4, .ref c4), (5, V a5)] [] (WX X S) kk nn K := by
  unfold jf_Law_law_2740 at h
  refine g_aloadn (pc := 2740) (i0 := 1) (j := 1) (dK D_Law_law_32 8 rfl) rfl rfl ?_
  refine bnE h (fun p387 e_p387 h => ?_)
  refine vg_cV (pc := 2741) (As := []) (rest := []) (mc' := 0) (ms' := 0) (dK D_Law_law_32 9 rfl) K_Law_303 (fitK rfl) (ltK rfl) hc1 rfl (leK rfl) (by omega) (by omega) (tf_FP_lastReady hc1 e_p387) (kcI (fun h_p387 => ?_))
  refine g_aloadn (pc := 2744) (i0 := 2) (j := 2) (dK D_Law_law_32 10 rfl) rfl rfl ?_
  refine bnE h (fun p388 e_p388 h => ?_)
  refine vg_cV (pc := 2745) (As := []) (rest := [V p387]) (mc' := 0) (ms' := 0) (dK D_Law_law_32 11 rfl) K_Law_306 (fitK rfl) (ltK rfl) hc2 rfl (leK rfl) (by omega) (by omega) (tf_Mo_lastReady hc2 e_p388) (kcI (fun h_p388 => ?_))
  refine vg_icmp_eq (pc := 2748) (t := 3073) (dK D_Law_law_32 12 rfl) rfl h_p387 h_p388 (fun hc389 => ?_) (fun hc389 => ?_)
  · replace h := ifP h hc389
    exact tj_Law_law_3073 hfl hsn hc1 hc2 hc3 hc4 hx hr ih ha5 (by omega) (by omega) h
  · replace h := ifN h hc389
    refine vg_iconst (pc := 2751) (dK D_Law_law_32 13 rfl) ?_
    exact vg_iretB (pc := 2752) (b := false) (dK D_Law_law_32 14 rfl) rfl (by omega) (by omega) (xf hfl) (hr _ (Option.some.inj h).symm)
def jf_Law_law_2753 (sx : Nat → Int) (sn : Nat) (c1 : Nat) (c2 : Nat) (c3 : Nat) (c4 : Nat) (go : Int × St → Option ((Bool × St) ⊕ (St))) (a5 : Int) (S : St) : Option ((Bool × St) ⊕ (St)) := bnO (fn_FP_betterExchange c1 S) fun p391 => bnO (fn_Mo_betterExchange c2 p391.2) fun p392 => if p391.1 = p392.1 then (jf_Law_law_3073 sx sn c1 c2 c3 c4 go a5 p392.2) else (some (.inl (false, p392.2)))
theorem tj_Law_law_2753 {E : EV} {X : XT} (hfl : X.2.2.2 = false) {sx : Nat → Int} {sn : Nat} (hsn : ScrE E sx sn) {c1 : Nat} (hc1 : HC X 10 c1) {c2 : Nat} (hc2 : HC X 11 c2) {c3 : Nat} (hc3 : HA X 3 1 c3) {c4 : Nat} (hc4 : HA X 4 1 c4) {mc ms : Nat} {K : RK → PS → Prop} {q : (Bool × St) ⊕ (St)} (hx : ∀ p, q = .inr p → ∀ kk nn, kk ≤ mc → nn ≤ ms → Go E M_Law_law mc ms 3079 [] [] (WX X p) kk nn K) (hr : ∀ p, q = .inl p → K (.inl (some (V (bi p.1)))) (WX X p.2)) {fu : Nat} {go : Int × St → Option ((Bool × St) ⊕ (St))} (ih : ∀ a, go a = some q → inR a.1 → ∀ kk nn, kk + 2 * fu ≤ mc → nn + 12 * fu ≤ ms → Go E M_Law_law mc ms 28 [(0, .ref (XB + 200)), (1, .ref c1), (2, .ref c2), (3, .ref c3), (4, .ref c4), (5, V a.1)] [] (WX X a.2) kk nn K) {a5 : Int} (ha5 : inR a5) {S : St} {kk nn : Nat} (hkk : kk + 0 + 2 * fu ≤ mc) (hnn : nn + 0 + 12 * fu ≤ ms) (h : jf_Law_law_2753 sx sn c1 c2 c3 c4 go a5 S = some q) : Go E M_Law_law mc ms 2753 [(0, .ref (XB + 200)), (1, .ref c1), (2, .ref c2), (3, .ref c3), (4, .ref c4), (5, V a5)] [] (WX X S) kk nn K := by
  unfold jf_Law_law_2753 at h
  refine g_aloadn (pc := 2753) (i0 := 1) (j := 1) (dK D_Law_law_32 15 rfl) rfl rfl ?_
  refine bnE h (fun p391 e_p391 h => ?_)
  refine vg_cV (pc := 2754) (As := []) (rest := []) (mc' := 0) (ms' := 0) (dK D_Law_law_32 16 rfl) K_Law_307 (fitK rfl) (ltK rfl) hc1 rfl (leK rfl) (by omega) (by omega) (tf_FP_betterExchange hc1 e_p391) (kcI (fun h_p391 => ?_))
  refine g_aloadn (pc := 2757) (i0 := 2) (j := 2) (dK D_Law_law_32 17 rfl) rfl rfl ?_
  refine bnE h (fun p392 e_p392 h => ?_)
  refine vg_cV (pc := 2758) (As := []) (rest := [V p391.1]) (mc' := 0) (ms' := 0) (dK D_Law_law_32 18 rfl) K_Law_310 (fitK rfl) (ltK rfl) hc2 rfl (leK rfl) (by omega) (by omega) (tf_Mo_betterExchange hc2 e_p392) (kcI (fun h_p392 => ?_))
  refine vg_icmp_eq (pc := 2761) (t := 3073) (dK D_Law_law_32 19 rfl) rfl h_p391 h_p392 (fun hc393 => ?_) (fun hc393 => ?_)
  · replace h := ifP h hc393
    exact tj_Law_law_3073 hfl hsn hc1 hc2 hc3 hc4 hx hr ih ha5 (by omega) (by omega) h
  · replace h := ifN h hc393
    refine vg_iconst (pc := 2764) (dK D_Law_law_32 20 rfl) ?_
    exact vg_iretB (pc := 2765) (b := false) (dK D_Law_law_32 21 rfl) rfl (by omega) (by omega) (xf hfl) (hr _ (Option.some.inj h).symm)
def jf_Law_law_2766 (sx : Nat → Int) (sn : Nat) (c1 : Nat) (c2 : Nat) (c3 : Nat) (c4 : Nat) (go : Int × St → Option ((Bool × St) ⊕ (St))) (a5 : Int) (S : St) : Option ((Bool × St) ⊕ (St)) := if 0 ≤ (a5 + 1) ∧ (a5 + 1) < (sn : Int) then (bnO (fn_Law_emptyRun c1 (sx (((a5 + 1)).toNat)) c3 S) fun p396 => bnO (fn_Mo_emptyRun c2 (sx (((a5 + 1)).toNat)) p396.2) fun p397 => bnO (fn_Mo_thrown c2 p397.2) fun p398 => if p398 = p396.1 then (if p396.1 = 0 then (if (gl p397.2 c3 0) = p397.1 then (jf_Law_law_3073 sx sn c1 c2 c3 c4 go a5 p397.2) else (some (.inl (false, p397.2)))) else (jf_Law_law_3073 sx sn c1 c2 c3 c4 go a5 p397.2)) else (some (.inl (false, p397.2)))) else none
theorem tj_Law_law_2766 {E : EV} {X : XT} (hfl : X.2.2.2 = false) {sx : Nat → Int} {sn : Nat} (hsn : ScrE E sx sn) {c1 : Nat} (hc1 : HC X 10 c1) {c2 : Nat} (hc2 : HC X 11 c2) {c3 : Nat} (hc3 : HA X 3 1 c3) {c4 : Nat} (hc4 : HA X 4 1 c4) {mc ms : Nat} {K : RK → PS → Prop} {q : (Bool × St) ⊕ (St)} (hx : ∀ p, q = .inr p → ∀ kk nn, kk ≤ mc → nn ≤ ms → Go E M_Law_law mc ms 3079 [] [] (WX X p) kk nn K) (hr : ∀ p, q = .inl p → K (.inl (some (V (bi p.1)))) (WX X p.2)) {fu : Nat} {go : Int × St → Option ((Bool × St) ⊕ (St))} (ih : ∀ a, go a = some q → inR a.1 → ∀ kk nn, kk + 2 * fu ≤ mc → nn + 12 * fu ≤ ms → Go E M_Law_law mc ms 28 [(0, .ref (XB + 200)), (1, .ref c1), (2, .ref c2), (3, .ref c3), (4, .ref c4), (5, V a.1)] [] (WX X a.2) kk nn K) {a5 : Int} (ha5 : inR a5) {S : St} {kk nn : Nat} (hkk : kk + 1 + 2 * fu ≤ mc) (hnn : nn + 6 + 12 * fu ≤ ms) (h : jf_Law_law_2766 sx sn c1 c2 c3 c4 go a5 S = some q) : Go E M_Law_law mc ms 2766 [(0, .ref (XB + 200)), (1, .ref c1), (2, .ref c2), (3, .ref c3), (4, .ref c4), (5, V a5)] [] (WX X S) kk nn K := by
  unfold jf_Law_law_2766 at h
  refine g_aloadn (pc := 2766) (i0 := 1) (j := 1) (dK D_Law_law_32 22 rfl) rfl rfl ?_
  refine g_aloadn (pc := 2767) (i0 := 0) (j := 0) (dK D_Law_law_32 23 rfl) rfl rfl ?_
  refine g_iload (pc := 2768) (j := 5) (dK D_Law_law_32 24 rfl) rfl ?_
  refine vg_iconst (pc := 2770) (dK D_Law_law_32 25 rfl) ?_
  refine vg_iadd (pc := 2771) (dK D_Law_law_32 26 rfl) ?_
  refine gdE h (fun hi395 h => ?_)
  refine vg_sld (pc := 2772) (dK D_Law_law_32 27 rfl) hsn hi395 ?_
  refine g_aloadn (pc := 2773) (i0 := 3) (j := 3) (dK D_Law_law_32 28 rfl) rfl rfl ?_
  refine bnE h (fun p396 e_p396 h => ?_)
  refine vg_cSX (pc := 2774) (As := [.ref c1, V (sx (((a5 + 1)).toNat)), .ref c3]) (rest := []) (mc' := 1) (ms' := 6) (dK D_Law_law_32 29 rfl) K_Law_311 (fitK rfl) rfl (leK rfl) (by omega) (by omega) (tf_Law_emptyRun hfl hc1 (hsn.at _) hc3 e_p396) (kcI (fun h_p396 => ?_))
  refine g_istore (pc := 2777) (ls2 := [(6, V p396.1), (0, .ref (XB + 200)), (1, .ref c1), (2, .ref c2), (3, .ref c3), (4, .ref c4), (5, V a5)]) (dK D_Law_law_32 30 rfl) (ltK rfl) rfl ?_
  refine g_aloadn (pc := 2779) (i0 := 2) (j := 3) (dK D_Law_law_32 31 rfl) rfl rfl ?_
  refine g_aloadn (pc := 2780) (i0 := 0) (j := 1) (dK D_Law_law_32 32 rfl) rfl rfl ?_
  refine g_iload (pc := 2781) (j := 6) (dK D_Law_law_32 33 rfl) rfl ?_
  refine vg_iconst (pc := 2783) (dK D_Law_law_32 34 rfl) ?_
  refine vg_iadd (pc := 2784) (dK D_Law_law_32 35 rfl) ?_
  refine vg_sld (pc := 2785) (dK D_Law_law_32 36 rfl) hsn hi395 ?_
  refine bnE h (fun p397 e_p397 h => ?_)
  refine vg_cV (pc := 2786) (As := [V (sx (((a5 + 1)).toNat))]) (rest := []) (mc' := 0) (ms' := 0) (dK D_Law_law_32 37 rfl) K_Law_313 (fitK rfl) (ltK rfl) hc2 rfl (leK rfl) (by omega) (by omega) (tf_Mo_emptyRun hc2 (hsn.at _) e_p397) (kcI (fun h_p397 => ?_))
  refine g_istore (pc := 2789) (ls2 := [(7, V p397.1), (6, V p396.1), (0, .ref (XB + 200)), (1, .ref c1), (2, .ref c2), (3, .ref c3), (4, .ref c4), (5, V a5)]) (dK D_Law_law_32 38 rfl) (ltK rfl) rfl ?_
  refine g_aloadn (pc := 2791) (i0 := 2) (j := 4) (dK D_Law_law_32 39 rfl) rfl rfl ?_
  refine bnE h (fun p398 e_p398 h => ?_)
  refine vg_cV (pc := 2792) (As := []) (rest := []) (mc' := 0) (ms' := 0) (dK D_Law_law_32 40 rfl) K_Law_163 (fitK rfl) (ltK rfl) hc2 rfl (leK rfl) (by omega) (by omega) (tf_Mo_thrown hc2 e_p398) (kcI (fun h_p398 => ?_))
  refine g_iload (pc := 2795) (j := 1) (dK D_Law_law_32 41 rfl) rfl ?_
  refine vg_icmp_eq (pc := 2797) (t := 2802) (dK D_Law_law_32 42 rfl) rfl h_p398 h_p396 (fun hc401 => ?_) (fun hc401 => ?_)
  · replace h := ifP h hc401
    refine g_iload (pc := 2802) (j := 1) (dK D_Law_law_32 45 rfl) rfl ?_
    refine vg_if_ne (pc := 2804) (t := 2819) (dK D_Law_law_32 46 rfl) rfl h_p396 (fun hc400 => ?_) (fun hc400 => ?_)
    · replace h := ifN h hc400
      refine g_goto (pc := 2819) (tgt := 3073) (dK D_Law_law_33 6 rfl) rfl ?_
      refine gL_weak (ls' := [(0, .ref (XB + 200)), (1, .ref c1), (2, .ref c2), (3, .ref c3), (4, .ref c4), (5, V a5)]) (sbc 2 rfl (sbc 3 rfl (sbc 4 rfl (sbc 5 rfl (sbc 6 rfl (sbc 7 rfl sbn)))))) ?_
      exact tj_Law_law_3073 hfl hsn hc1 hc2 hc3 hc4 hx hr ih ha5 (by omega) (by omega) h
    · replace h := ifP h hc400
      refine g_aloadn (pc := 2807) (i0 := 3) (j := 5) (dK D_Law_law_32 47 rfl) rfl rfl ?_
      refine vg_iconst (pc := 2808) (dK D_Law_law_32 48 rfl) ?_
      refine vg_laload (pc := 2809) (j := 0) (dK D_Law_law_32 49 rfl) hc3 rfl ⟨by decide, by decide⟩ rfl ?_
      refine g_iload (pc := 2810) (j := 0) (dK D_Law_law_33 0 rfl) rfl ?_
      refine vg_i2l (pc := 2812) (dK D_Law_law_33 1 rfl) h_p397 ?_
      refine vg_lcmp_eq (pc := 2813) (t := 2819) (dK D_Law_law_33 2 rfl) (dK D_Law_law_33 3 rfl) rfl (gl_in _ _ _) (inR_L h_p397) (fun hc399 => ?_) (fun hc399 => ?_)
      · replace h := ifP h hc399
        refine g_goto (pc := 2819) (tgt := 3073) (dK D_Law_law_33 6 rfl) rfl ?_
        refine gL_weak (ls' := [(0, .ref (XB + 200)), (1, .ref c1), (2, .ref c2), (3, .ref c3), (4, .ref c4), (5, V a5)]) (sbc 2 rfl (sbc 3 rfl (sbc 4 rfl (sbc 5 rfl (sbc 6 rfl (sbc 7 rfl sbn)))))) ?_
        exact tj_Law_law_3073 hfl hsn hc1 hc2 hc3 hc4 hx hr ih ha5 (by omega) (by omega) h
      · replace h := ifN h hc399
        refine vg_iconst (pc := 2817) (dK D_Law_law_33 4 rfl) ?_
        exact vg_iretB (pc := 2818) (b := false) (dK D_Law_law_33 5 rfl) rfl (by omega) (by omega) (xf hfl) (hr _ (Option.some.inj h).symm)
  · replace h := ifN h hc401
    refine vg_iconst (pc := 2800) (dK D_Law_law_32 43 rfl) ?_
    exact vg_iretB (pc := 2801) (b := false) (dK D_Law_law_32 44 rfl) rfl (by omega) (by omega) (xf hfl) (hr _ (Option.some.inj h).symm)
def jf_Law_law_2822 (sx : Nat → Int) (sn : Nat) (c1 : Nat) (c2 : Nat) (c3 : Nat) (c4 : Nat) (go : Int × St → Option ((Bool × St) ⊕ (St))) (a5 : Int) (S : St) : Option ((Bool × St) ⊕ (St)) := if 0 ≤ (a5 + 1) ∧ (a5 + 1) < (sn : Int) then (bnO (fn_FP_emptiest c1 (sx (((a5 + 1)).toNat)) S) fun p404 => bnO (fn_Mo_emptiest c2 (sx (((a5 + 1)).toNat)) S) fun p405 => if p404 = p405.1 then (jf_Law_law_3073 sx sn c1 c2 c3 c4 go a5 p405.2) else (some (.inl (false, p405.2)))) else none
theorem tj_Law_law_2822 {E : EV} {X : XT} (hfl : X.2.2.2 = false) {sx : Nat → Int} {sn : Nat} (hsn : ScrE E sx sn) {c1 : Nat} (hc1 : HC X 10 c1) {c2 : Nat} (hc2 : HC X 11 c2) {c3 : Nat} (hc3 : HA X 3 1 c3) {c4 : Nat} (hc4 : HA X 4 1 c4) {mc ms : Nat} {K : RK → PS → Prop} {q : (Bool × St) ⊕ (St)} (hx : ∀ p, q = .inr p → ∀ kk nn, kk ≤ mc → nn ≤ ms → Go E M_Law_law mc ms 3079 [] [] (WX X p) kk nn K) (hr : ∀ p, q = .inl p → K (.inl (some (V (bi p.1)))) (WX X p.2)) {fu : Nat} {go : Int × St → Option ((Bool × St) ⊕ (St))} (ih : ∀ a, go a = some q → inR a.1 → ∀ kk nn, kk + 2 * fu ≤ mc → nn + 12 * fu ≤ ms → Go E M_Law_law mc ms 28 [(0, .ref (XB + 200)), (1, .ref c1), (2, .ref c2), (3, .ref c3), (4, .ref c4), (5, V a.1)] [] (WX X a.2) kk nn K) {a5 : Int} (ha5 : inR a5) {S : St} {kk nn : Nat} (hkk : kk + 0 + 2 * fu ≤ mc) (hnn : nn + 0 + 12 * fu ≤ ms) (h : jf_Law_law_2822 sx sn c1 c2 c3 c4 go a5 S = some q) : Go E M_Law_law mc ms 2822 [(0, .ref (XB + 200)), (1, .ref c1), (2, .ref c2), (3, .ref c3), (4, .ref c4), (5, V a5)] [] (WX X S) kk nn K := by
  unfold jf_Law_law_2822 at h
  refine g_aloadn (pc := 2822) (i0 := 1) (j := 1) (dK D_Law_law_33 7 rfl) rfl rfl ?_
  refine g_aloadn (pc := 2823) (i0 := 0) (j := 0) (dK D_Law_law_33 8 rfl) rfl rfl ?_
  refine g_iload (pc := 2824) (j := 5) (dK D_Law_law_33 9 rfl) rfl ?_
  refine vg_iconst (pc := 2826) (dK D_Law_law_33 10 rfl) ?_
  refine vg_iadd (pc := 2827) (dK D_Law_law_33 11 rfl) ?_
  refine gdE h (fun hi403 h => ?_)
  refine vg_sld (pc := 2828) (dK D_Law_law_33 12 rfl) hsn hi403 ?_
  refine bnE h (fun p404 e_p404 h => ?_)
  refine vg_cV (pc := 2829) (As := [V (sx (((a5 + 1)).toNat))]) (rest := []) (mc' := 0) (ms' := 0) (dK D_Law_law_33 13 rfl) K_Law_314 (fitK rfl) (ltK rfl) hc1 rfl (leK rfl) (by omega) (by omega) (tf_FP_emptiest hc1 (hsn.at _) e_p404) (kcI (fun h_p404 => ?_))
  refine g_aloadn (pc := 2832) (i0 := 2) (j := 2) (dK D_Law_law_33 14 rfl) rfl rfl ?_
  refine g_aloadn (pc := 2833) (i0 := 0) (j := 0) (dK D_Law_law_33 15 rfl) rfl rfl ?_
  refine g_iload (pc := 2834) (j := 5) (dK D_Law_law_33 16 rfl) rfl ?_
  refine vg_iconst (pc := 2836) (dK D_Law_law_33 17 rfl) ?_
  refine vg_iadd (pc := 2837) (dK D_Law_law_33 18 rfl) ?_
  refine vg_sld (pc := 2838) (dK D_Law_law_33 19 rfl) hsn hi403 ?_
  refine bnE h (fun p405 e_p405 h => ?_)
  refine vg_cV (pc := 2839) (As := [V (sx (((a5 + 1)).toNat))]) (rest := [V p404]) (mc' := 0) (ms' := 0) (dK D_Law_law_33 20 rfl) K_Law_317 (fitK rfl) (ltK rfl) hc2 rfl (leK rfl) (by omega) (by omega) (tf_Mo_emptiest hc2 (hsn.at _) e_p405) (kcI (fun h_p405 => ?_))
  refine vg_icmp_eq (pc := 2842) (t := 3073) (dK D_Law_law_33 21 rfl) rfl h_p404 h_p405 (fun hc406 => ?_) (fun hc406 => ?_)
  · replace h := ifP h hc406
    exact tj_Law_law_3073 hfl hsn hc1 hc2 hc3 hc4 hx hr ih ha5 (by omega) (by omega) h
  · replace h := ifN h hc406
    refine vg_iconst (pc := 2845) (dK D_Law_law_33 22 rfl) ?_
    exact vg_iretB (pc := 2846) (b := false) (dK D_Law_law_33 23 rfl) rfl (by omega) (by omega) (xf hfl) (hr _ (Option.some.inj h).symm)
def jf_Law_law_2847 (sx : Nat → Int) (sn : Nat) (c1 : Nat) (c2 : Nat) (c3 : Nat) (c4 : Nat) (go : Int × St → Option ((Bool × St) ⊕ (St))) (a5 : Int) (S : St) : Option ((Bool × St) ⊕ (St)) := bnO (fn_FP_fill c1 S) fun p408 => bnO (fn_Mo_fill c2 S) fun p409 => if (i_dc p408 p409.1) = 0 then (jf_Law_law_3073 sx sn c1 c2 c3 c4 go a5 p409.2) else (if (i_dc p408 p408) = 0 then (some (.inl (false, p409.2))) else (if (i_dc p409.1 p409.1) = 0 then (some (.inl (false, p409.2))) else (jf_Law_law_3073 sx sn c1 c2 c3 c4 go a5 p409.2)))
theorem tj_Law_law_2847 {E : EV} {X : XT} (hfl : X.2.2.2 = false) {sx : Nat → Int} {sn : Nat} (hsn : ScrE E sx sn) {c1 : Nat} (hc1 : HC X 10 c1) {c2 : Nat} (hc2 : HC X 11 c2) {c3 : Nat} (hc3 : HA X 3 1 c3) {c4 : Nat} (hc4 : HA X 4 1 c4) {mc ms : Nat} {K : RK → PS → Prop} {q : (Bool × St) ⊕ (St)} (hx : ∀ p, q = .inr p → ∀ kk nn, kk ≤ mc → nn ≤ ms → Go E M_Law_law mc ms 3079 [] [] (WX X p) kk nn K) (hr : ∀ p, q = .inl p → K (.inl (some (V (bi p.1)))) (WX X p.2)) {fu : Nat} {go : Int × St → Option ((Bool × St) ⊕ (St))} (ih : ∀ a, go a = some q → inR a.1 → ∀ kk nn, kk + 2 * fu ≤ mc → nn + 12 * fu ≤ ms → Go E M_Law_law mc ms 28 [(0, .ref (XB + 200)), (1, .ref c1), (2, .ref c2), (3, .ref c3), (4, .ref c4), (5, V a.1)] [] (WX X a.2) kk nn K) {a5 : Int} (ha5 : inR a5) {S : St} {kk nn : Nat} (hkk : kk + 0 + 2 * fu ≤ mc) (hnn : nn + 0 + 12 * fu ≤ ms) (h : jf_Law_law_2847 sx sn c1 c2 c3 c4 go a5 S = some q) : Go E M_Law_law mc ms 2847 [(0, .ref (XB + 200)), (1, .ref c1), (2, .ref c2), (3, .ref c3), (4, .ref c4), (5, V a5)] [] (WX X S) kk nn K := by
  unfold jf_Law_law_2847 at h
  refine g_aloadn (pc := 2847) (i0 := 1) (j := 1) (dK D_Law_law_33 24 rfl) rfl rfl ?_
  refine bnE h (fun p408 e_p408 h => ?_)
  refine vg_cV (pc := 2848) (As := []) (rest := []) (mc' := 0) (ms' := 0) (dK D_Law_law_33 25 rfl) K_Law_318 (fitK rfl) (ltK rfl) hc1 rfl (leK rfl) (by omega) (by omega) (tf_FP_fill hc1 e_p408) (kcD ?_)
  refine g_dstore (pc := 2851) (ls2 := [(6, .double p408), (0, .ref (XB + 200)), (1, .ref c1), (2, .ref c2), (3, .ref c3), (4, .ref c4), (5, V a5)]) (dK D_Law_law_33 26 rfl) (ltK rfl) rfl ?_
  refine g_aloadn (pc := 2853) (i0 := 2) (j := 3) (dK D_Law_law_33 27 rfl) rfl rfl ?_
  refine bnE h (fun p409 e_p409 h => ?_)
  refine vg_cV (pc := 2854) (As := []) (rest := []) (mc' := 0) (ms' := 0) (dK D_Law_law_33 28 rfl) K_Law_321 (fitK rfl) (ltK rfl) hc2 rfl (leK rfl) (by omega) (by omega) (tf_Mo_fill hc2 e_p409) (kcD ?_)
  refine g_dstore (pc := 2857) (ls2 := [(8, .double p409.1), (6, .double p408), (0, .ref (XB + 200)), (1, .ref c1), (2, .ref c2), (3, .ref c3), (4, .ref c4), (5, V a5)]) (dK D_Law_law_33 29 rfl) (ltK rfl) rfl ?_
  refine g_dload (pc := 2859) (j := 1) (dK D_Law_law_33 30 rfl) rfl ?_
  refine g_dload (pc := 2861) (j := 0) (dK D_Law_law_33 31 rfl) rfl ?_
  refine vg_dcmpl (pc := 2863) (dK D_Law_law_33 32 rfl) ?_
  refine vg_if_eq (pc := 2864) (t := 2885) (dK D_Law_law_33 33 rfl) rfl (toInt_in _) (fun hc412 => ?_) (fun hc412 => ?_)
  · replace h := ifP h hc412
    refine g_goto (pc := 2885) (tgt := 3073) (dK D_Law_law_33 44 rfl) rfl ?_
    refine gL_weak (ls' := [(0, .ref (XB + 200)), (1, .ref c1), (2, .ref c2), (3, .ref c3), (4, .ref c4), (5, V a5)]) (sbc 2 rfl (sbc 3 rfl (sbc 4 rfl (sbc 5 rfl (sbc 6 rfl (sbc 7 rfl sbn)))))) ?_
    exact tj_Law_law_3073 hfl hsn hc1 hc2 hc3 hc4 hx hr ih ha5 (by omega) (by omega) h
  · replace h := ifN h hc412
    refine g_dload (pc := 2867) (j := 1) (dK D_Law_law_33 34 rfl) rfl ?_
    refine g_dload (pc := 2869) (j := 1) (dK D_Law_law_33 35 rfl) rfl ?_
    refine vg_dcmpl (pc := 2871) (dK D_Law_law_33 36 rfl) ?_
    refine vg_if_eq (pc := 2872) (t := 2883) (dK D_Law_law_33 37 rfl) rfl (toInt_in _) (fun hc411 => ?_) (fun hc411 => ?_)
    · replace h := ifP h hc411
      refine vg_iconst (pc := 2883) (dK D_Law_law_33 42 rfl) ?_
      exact vg_iretB (pc := 2884) (b := false) (dK D_Law_law_33 43 rfl) rfl (by omega) (by omega) (xf hfl) (hr _ (Option.some.inj h).symm)
    · replace h := ifN h hc411
      refine g_dload (pc := 2875) (j := 0) (dK D_Law_law_33 38 rfl) rfl ?_
      refine g_dload (pc := 2877) (j := 0) (dK D_Law_law_33 39 rfl) rfl ?_
      refine vg_dcmpl (pc := 2879) (dK D_Law_law_33 40 rfl) ?_
      refine vg_if_ne (pc := 2880) (t := 2885) (dK D_Law_law_33 41 rfl) rfl (toInt_in _) (fun hc410 => ?_) (fun hc410 => ?_)
      · replace h := ifN h hc410
        refine g_goto (pc := 2885) (tgt := 3073) (dK D_Law_law_33 44 rfl) rfl ?_
        refine gL_weak (ls' := [(0, .ref (XB + 200)), (1, .ref c1), (2, .ref c2), (3, .ref c3), (4, .ref c4), (5, V a5)]) (sbc 2 rfl (sbc 3 rfl (sbc 4 rfl (sbc 5 rfl (sbc 6 rfl (sbc 7 rfl sbn)))))) ?_
        exact tj_Law_law_3073 hfl hsn hc1 hc2 hc3 hc4 hx hr ih ha5 (by omega) (by omega) h
      · replace h := ifP h hc410
        refine vg_iconst (pc := 2883) (dK D_Law_law_33 42 rfl) ?_
        exact vg_iretB (pc := 2884) (b := false) (dK D_Law_law_33 43 rfl) rfl (by omega) (by omega) (xf hfl) (hr _ (Option.some.inj h).symm)
def jf_Law_law_2888 (sx : Nat → Int) (sn : Nat) (c1 : Nat) (c2 : Nat) (c3 : Nat) (c4 : Nat) (go : Int × St → Option ((Bool × St) ⊕ (St))) (a5 : Int) (S : St) : Option ((Bool × St) ⊕ (St)) := bnO (fn_Law_quarterPrice c1 c4 S) fun p414 => bnO (fn_Mo_quarterPrice c2 p414.2) fun p415 => bnO (fn_Mo_thrown c2 p415.2) fun p416 => if p416 = p414.1 then (if p414.1 = 0 then (if (i_dc (p415.2.2.2 c4 0) p415.1) = 0 then (jf_Law_law_3073 sx sn c1 c2 c3 c4 go a5 p415.2) else (if (i_dc (p415.2.2.2 c4 0) (p415.2.2.2 c4 0)) = 0 then (some (.inl (false, p415.2))) else (if (i_dc p415.1 p415.1) = 0 then (some (.inl (false, p415.2))) else (jf_Law_law_3073 sx sn c1 c2 c3 c4 go a5 p415.2)))) else (jf_Law_law_3073 sx sn c1 c2 c3 c4 go a5 p415.2)) else (some (.inl (false, p415.2)))
theorem tj_Law_law_2888 {E : EV} {X : XT} (hfl : X.2.2.2 = false) {sx : Nat → Int} {sn : Nat} (hsn : ScrE E sx sn) {c1 : Nat} (hc1 : HC X 10 c1) {c2 : Nat} (hc2 : HC X 11 c2) {c3 : Nat} (hc3 : HA X 3 1 c3) {c4 : Nat} (hc4 : HA X 4 1 c4) {mc ms : Nat} {K : RK → PS → Prop} {q : (Bool × St) ⊕ (St)} (hx : ∀ p, q = .inr p → ∀ kk nn, kk ≤ mc → nn ≤ ms → Go E M_Law_law mc ms 3079 [] [] (WX X p) kk nn K) (hr : ∀ p, q = .inl p → K (.inl (some (V (bi p.1)))) (WX X p.2)) {fu : Nat} {go : Int × St → Option ((Bool × St) ⊕ (St))} (ih : ∀ a, go a = some q → inR a.1 → ∀ kk nn, kk + 2 * fu ≤ mc → nn + 12 * fu ≤ ms → Go E M_Law_law mc ms 28 [(0, .ref (XB + 200)), (1, .ref c1), (2, .ref c2), (3, .ref c3), (4, .ref c4), (5, V a.1)] [] (WX X a.2) kk nn K) {a5 : Int} (ha5 : inR a5) {S : St} {kk nn : Nat} (hkk : kk + 1 + 2 * fu ≤ mc) (hnn : nn + 6 + 12 * fu ≤ ms) (h : jf_Law_law_2888 sx sn c1 c2 c3 c4 go a5 S = some q) : Go E M_Law_law mc ms 2888 [(0, .ref (XB + 200)), (1, .ref c1), (2, .ref c2), (3, .ref c3), (4, .ref c4), (5, V a5)] [] (WX X S) kk nn K := by
  unfold jf_Law_law_2888 at h
  refine g_aloadn (pc := 2888) (i0 := 1) (j := 1) (dK D_Law_law_33 45 rfl) rfl rfl ?_
  refine g_aload (pc := 2889) (j := 4) (dK D_Law_law_33 46 rfl) rfl ?_
  refine bnE h (fun p414 e_p414 h => ?_)
  refine vg_cSX (pc := 2891) (As := [.ref c1, .ref c4]) (rest := []) (mc' := 1) (ms' := 6) (dK D_Law_law_33 47 rfl) K_Law_322 (fitK rfl) rfl (leK rfl) (by omega) (by omega) (tf_Law_quarterPrice hfl hc1 hc4 e_p414) (kcI (fun h_p414 => ?_))
  refine g_istore (pc := 2894) (ls2 := [(6, V p414.1), (0, .ref (XB + 200)), (1, .ref c1), (2, .ref c2), (3, .ref c3), (4, .ref c4), (5, V a5)]) (dK D_Law_law_33 48 rfl) (ltK rfl) rfl ?_
  refine g_aloadn (pc := 2896) (i0 := 2) (j := 3) (dK D_Law_law_33 49 rfl) rfl rfl ?_
  refine bnE h (fun p415 e_p415 h => ?_)
  refine vg_cV (pc := 2897) (As := []) (rest := []) (mc' := 0) (ms' := 0) (dK D_Law_law_34 0 rfl) K_Law_325 (fitK rfl) (ltK rfl) hc2 rfl (leK rfl) (by omega) (by omega) (tf_Mo_quarterPrice hc2 e_p415) (kcD ?_)
  refine g_dstore (pc := 2900) (ls2 := [(7, .double p415.1), (6, V p414.1), (0, .ref (XB + 200)), (1, .ref c1), (2, .ref c2), (3, .ref c3), (4, .ref c4), (5, V a5)]) (dK D_Law_law_34 1 rfl) (ltK rfl) rfl ?_
  refine g_aloadn (pc := 2902) (i0 := 2) (j := 4) (dK D_Law_law_34 2 rfl) rfl rfl ?_
  refine bnE h (fun p416 e_p416 h => ?_)
  refine vg_cV (pc := 2903) (As := []) (rest := []) (mc' := 0) (ms' := 0) (dK D_Law_law_34 3 rfl) K_Law_163 (fitK rfl) (ltK rfl) hc2 rfl (leK rfl) (by omega) (by omega) (tf_Mo_thrown hc2 e_p416) (kcI (fun h_p416 => ?_))
  refine g_iload (pc := 2906) (j := 1) (dK D_Law_law_34 4 rfl) rfl ?_
  refine vg_icmp_eq (pc := 2908) (t := 2913) (dK D_Law_law_34 5 rfl) rfl h_p416 h_p414 (fun hc421 => ?_) (fun hc421 => ?_)
  · replace h := ifP h hc421
    refine g_iload (pc := 2913) (j := 1) (dK D_Law_law_34 8 rfl) rfl ?_
    refine vg_if_ne (pc := 2915) (t := 2950) (dK D_Law_law_34 9 rfl) rfl h_p414 (fun hc420 => ?_) (fun hc420 => ?_)
    · replace h := ifN h hc420
      refine g_goto (pc := 2950) (tgt := 3073) (dK D_Law_law_34 30 rfl) rfl ?_
      refine gL_weak (ls' := [(0, .ref (XB + 200)), (1, .ref c1), (2, .ref c2), (3, .ref c3), (4, .ref c4), (5, V a5)]) (sbc 2 rfl (sbc 3 rfl (sbc 4 rfl (sbc 5 rfl (sbc 6 rfl (sbc 7 rfl sbn)))))) ?_
      exact tj_Law_law_3073 hfl hsn hc1 hc2 hc3 hc4 hx hr ih ha5 (by omega) (by omega) h
    · replace h := ifP h hc420
      refine g_aload (pc := 2918) (j := 6) (dK D_Law_law_34 10 rfl) rfl ?_
      refine vg_iconst (pc := 2920) (dK D_Law_law_34 11 rfl) ?_
      refine vg_daload (pc := 2921) (j := 0) (dK D_Law_law_34 12 rfl) hc4 rfl ⟨by decide, by decide⟩ rfl ?_
      refine g_dload (pc := 2922) (j := 0) (dK D_Law_law_34 13 rfl) rfl ?_
      refine vg_dcmpl (pc := 2924) (dK D_Law_law_34 14 rfl) ?_
      refine vg_if_eq (pc := 2925) (t := 2950) (dK D_Law_law_34 15 rfl) rfl (toInt_in _) (fun hc419 => ?_) (fun hc419 => ?_)
      · replace h := ifP h hc419
        refine g_goto (pc := 2950) (tgt := 3073) (dK D_Law_law_34 30 rfl) rfl ?_
        refine gL_weak (ls' := [(0, .ref (XB + 200)), (1, .ref c1), (2, .ref c2), (3, .ref c3), (4, .ref c4), (5, V a5)]) (sbc 2 rfl (sbc 3 rfl (sbc 4 rfl (sbc 5 rfl (sbc 6 rfl (sbc 7 rfl sbn)))))) ?_
        exact tj_Law_law_3073 hfl hsn hc1 hc2 hc3 hc4 hx hr ih ha5 (by omega) (by omega) h
      · replace h := ifN h hc419
        refine g_aload (pc := 2928) (j := 6) (dK D_Law_law_34 16 rfl) rfl ?_
        refine vg_iconst (pc := 2930) (dK D_Law_law_34 17 rfl) ?_
        refine vg_daload (pc := 2931) (j := 0) (dK D_Law_law_34 18 rfl) hc4 rfl ⟨by decide, by decide⟩ rfl ?_
        refine g_aload (pc := 2932) (j := 6) (dK D_Law_law_34 19 rfl) rfl ?_
        refine vg_iconst (pc := 2934) (dK D_Law_law_34 20 rfl) ?_
        refine vg_daload (pc := 2935) (j := 0) (dK D_Law_law_34 21 rfl) hc4 rfl ⟨by decide, by decide⟩ rfl ?_
        refine vg_dcmpl (pc := 2936) (dK D_Law_law_34 22 rfl) ?_
        refine vg_if_eq (pc := 2937) (t := 2948) (dK D_Law_law_34 23 rfl) rfl (toInt_in _) (fun hc418 => ?_) (fun hc418 => ?_)
        · replace h := ifP h hc418
          refine vg_iconst (pc := 2948) (dK D_Law_law_34 28 rfl) ?_
          exact vg_iretB (pc := 2949) (b := false) (dK D_Law_law_34 29 rfl) rfl (by omega) (by omega) (xf hfl) (hr _ (Option.some.inj h).symm)
        · replace h := ifN h hc418
          refine g_dload (pc := 2940) (j := 0) (dK D_Law_law_34 24 rfl) rfl ?_
          refine g_dload (pc := 2942) (j := 0) (dK D_Law_law_34 25 rfl) rfl ?_
          refine vg_dcmpl (pc := 2944) (dK D_Law_law_34 26 rfl) ?_
          refine vg_if_ne (pc := 2945) (t := 2950) (dK D_Law_law_34 27 rfl) rfl (toInt_in _) (fun hc417 => ?_) (fun hc417 => ?_)
          · replace h := ifN h hc417
            refine g_goto (pc := 2950) (tgt := 3073) (dK D_Law_law_34 30 rfl) rfl ?_
            refine gL_weak (ls' := [(0, .ref (XB + 200)), (1, .ref c1), (2, .ref c2), (3, .ref c3), (4, .ref c4), (5, V a5)]) (sbc 2 rfl (sbc 3 rfl (sbc 4 rfl (sbc 5 rfl (sbc 6 rfl (sbc 7 rfl sbn)))))) ?_
            exact tj_Law_law_3073 hfl hsn hc1 hc2 hc3 hc4 hx hr ih ha5 (by omega) (by omega) h
          · replace h := ifP h hc417
            refine vg_iconst (pc := 2948) (dK D_Law_law_34 28 rfl) ?_
            exact vg_iretB (pc := 2949) (b := false) (dK D_Law_law_34 29 rfl) rfl (by omega) (by omega) (xf hfl) (hr _ (Option.some.inj h).symm)
  · replace h := ifN h hc421
    refine vg_iconst (pc := 2911) (dK D_Law_law_34 6 rfl) ?_
    exact vg_iretB (pc := 2912) (b := false) (dK D_Law_law_34 7 rfl) rfl (by omega) (by omega) (xf hfl) (hr _ (Option.some.inj h).symm)
def jf_Law_law_2953 (sx : Nat → Int) (sn : Nat) (c1 : Nat) (c2 : Nat) (c3 : Nat) (c4 : Nat) (go : Int × St → Option ((Bool × St) ⊕ (St))) (a5 : Int) (S : St) : Option ((Bool × St) ⊕ (St)) := if 0 ≤ (a5 + 1) ∧ (a5 + 1) < (sn : Int) then (bnO (fn_Law_describe c1 (sx (((a5 + 1)).toNat)) c3 S) fun p424 => bnO (fn_Mo_describe c2 (sx (((a5 + 1)).toNat)) p424.2) fun p425 => bnO (fn_Mo_thrown c2 p425.2) fun p426 => if p426 = p424.1 then (if p424.1 = 0 then (if (gl p425.2 c3 0) = p425.1 then (jf_Law_law_3073 sx sn c1 c2 c3 c4 go a5 p425.2) else (some (.inl (false, p425.2)))) else (jf_Law_law_3073 sx sn c1 c2 c3 c4 go a5 p425.2)) else (some (.inl (false, p425.2)))) else none
theorem tj_Law_law_2953 {E : EV} {X : XT} (hfl : X.2.2.2 = false) {sx : Nat → Int} {sn : Nat} (hsn : ScrE E sx sn) {c1 : Nat} (hc1 : HC X 10 c1) {c2 : Nat} (hc2 : HC X 11 c2) {c3 : Nat} (hc3 : HA X 3 1 c3) {c4 : Nat} (hc4 : HA X 4 1 c4) {mc ms : Nat} {K : RK → PS → Prop} {q : (Bool × St) ⊕ (St)} (hx : ∀ p, q = .inr p → ∀ kk nn, kk ≤ mc → nn ≤ ms → Go E M_Law_law mc ms 3079 [] [] (WX X p) kk nn K) (hr : ∀ p, q = .inl p → K (.inl (some (V (bi p.1)))) (WX X p.2)) {fu : Nat} {go : Int × St → Option ((Bool × St) ⊕ (St))} (ih : ∀ a, go a = some q → inR a.1 → ∀ kk nn, kk + 2 * fu ≤ mc → nn + 12 * fu ≤ ms → Go E M_Law_law mc ms 28 [(0, .ref (XB + 200)), (1, .ref c1), (2, .ref c2), (3, .ref c3), (4, .ref c4), (5, V a.1)] [] (WX X a.2) kk nn K) {a5 : Int} (ha5 : inR a5) {S : St} {kk nn : Nat} (hkk : kk + 1 + 2 * fu ≤ mc) (hnn : nn + 6 + 12 * fu ≤ ms) (h : jf_Law_law_2953 sx sn c1 c2 c3 c4 go a5 S = some q) : Go E M_Law_law mc ms 2953 [(0, .ref (XB + 200)), (1, .ref c1), (2, .ref c2), (3, .ref c3), (4, .ref c4), (5, V a5)] [] (WX X S) kk nn K := by
  unfold jf_Law_law_2953 at h
  refine g_aloadn (pc := 2953) (i0 := 1) (j := 1) (dK D_Law_law_34 31 rfl) rfl rfl ?_
  refine g_aloadn (pc := 2954) (i0 := 0) (j := 0) (dK D_Law_law_34 32 rfl) rfl rfl ?_
  refine g_iload (pc := 2955) (j := 5) (dK D_Law_law_34 33 rfl) rfl ?_
  refine vg_iconst (pc := 2957) (dK D_Law_law_34 34 rfl) ?_
  refine vg_iadd (pc := 2958) (dK D_Law_law_34 35 rfl) ?_
  refine gdE h (fun hi423 h => ?_)
  refine vg_sld (pc := 2959) (dK D_Law_law_34 36 rfl) hsn hi423 ?_
  refine g_aloadn (pc := 2960) (i0 := 3) (j := 3) (dK D_Law_law_34 37 rfl) rfl rfl ?_
  refine bnE h (fun p424 e_p424 h => ?_)
  refine vg_cSX (pc := 2961) (As := [.ref c1, V (sx (((a5 + 1)).toNat)), .ref c3]) (rest := []) (mc' := 1) (ms' := 6) (dK D_Law_law_34 38 rfl) K_Law_326 (fitK rfl) rfl (leK rfl) (by omega) (by omega) (tf_Law_describe hfl hc1 (hsn.at _) hc3 e_p424) (kcI (fun h_p424 => ?_))
  refine g_istore (pc := 2964) (ls2 := [(6, V p424.1), (0, .ref (XB + 200)), (1, .ref c1), (2, .ref c2), (3, .ref c3), (4, .ref c4), (5, V a5)]) (dK D_Law_law_34 39 rfl) (ltK rfl) rfl ?_
  refine g_aloadn (pc := 2966) (i0 := 2) (j := 3) (dK D_Law_law_34 40 rfl) rfl rfl ?_
  refine g_aloadn (pc := 2967) (i0 := 0) (j := 1) (dK D_Law_law_34 41 rfl) rfl rfl ?_
  refine g_iload (pc := 2968) (j := 6) (dK D_Law_law_34 42 rfl) rfl ?_
  refine vg_iconst (pc := 2970) (dK D_Law_law_34 43 rfl) ?_
  refine vg_iadd (pc := 2971) (dK D_Law_law_34 44 rfl) ?_
  refine vg_sld (pc := 2972) (dK D_Law_law_34 45 rfl) hsn hi423 ?_
  refine bnE h (fun p425 e_p425 h => ?_)
  refine vg_cV (pc := 2973) (As := [V (sx (((a5 + 1)).toNat))]) (rest := []) (mc' := 0) (ms' := 0) (dK D_Law_law_34 46 rfl) K_Law_328 (fitK rfl) (ltK rfl) hc2 rfl (leK rfl) (by omega) (by omega) (tf_Mo_describe hc2 (hsn.at _) e_p425) (kcI (fun h_p425 => ?_))
  refine g_istore (pc := 2976) (ls2 := [(7, V p425.1), (6, V p424.1), (0, .ref (XB + 200)), (1, .ref c1), (2, .ref c2), (3, .ref c3), (4, .ref c4), (5, V a5)]) (dK D_Law_law_34 47 rfl) (ltK rfl) rfl ?_
  refine g_aloadn (pc := 2978) (i0 := 2) (j := 4) (dK D_Law_law_34 48 rfl) rfl rfl ?_
  refine bnE h (fun p426 e_p426 h => ?_)
  refine vg_cV (pc := 2979) (As := []) (rest := []) (mc' := 0) (ms' := 0) (dK D_Law_law_34 49 rfl) K_Law_163 (fitK rfl) (ltK rfl) hc2 rfl (leK rfl) (by omega) (by omega) (tf_Mo_thrown hc2 e_p426) (kcI (fun h_p426 => ?_))
  refine g_iload (pc := 2982) (j := 1) (dK D_Law_law_35 0 rfl) rfl ?_
  refine vg_icmp_eq (pc := 2984) (t := 2989) (dK D_Law_law_35 1 rfl) rfl h_p426 h_p424 (fun hc429 => ?_) (fun hc429 => ?_)
  · replace h := ifP h hc429
    refine g_iload (pc := 2989) (j := 1) (dK D_Law_law_35 4 rfl) rfl ?_
    refine vg_if_ne (pc := 2991) (t := 3006) (dK D_Law_law_35 5 rfl) rfl h_p424 (fun hc428 => ?_) (fun hc428 => ?_)
    · replace h := ifN h hc428
      refine g_goto (pc := 3006) (tgt := 3073) (dK D_Law_law_35 15 rfl) rfl ?_
      refine gL_weak (ls' := [(0, .ref (XB + 200)), (1, .ref c1), (2, .ref c2), (3, .ref c3), (4, .ref c4), (5, V a5)]) (sbc 2 rfl (sbc 3 rfl (sbc 4 rfl (sbc 5 rfl (sbc 6 rfl (sbc 7 rfl sbn)))))) ?_
      exact tj_Law_law_3073 hfl hsn hc1 hc2 hc3 hc4 hx hr ih ha5 (by omega) (by omega) h
    · replace h := ifP h hc428
      refine g_aloadn (pc := 2994) (i0 := 3) (j := 5) (dK D_Law_law_35 6 rfl) rfl rfl ?_
      refine vg_iconst (pc := 2995) (dK D_Law_law_35 7 rfl) ?_
      refine vg_laload (pc := 2996) (j := 0) (dK D_Law_law_35 8 rfl) hc3 rfl ⟨by decide, by decide⟩ rfl ?_
      refine g_iload (pc := 2997) (j := 0) (dK D_Law_law_35 9 rfl) rfl ?_
      refine vg_i2l (pc := 2999) (dK D_Law_law_35 10 rfl) h_p425 ?_
      refine vg_lcmp_eq (pc := 3000) (t := 3006) (dK D_Law_law_35 11 rfl) (dK D_Law_law_35 12 rfl) rfl (gl_in _ _ _) (inR_L h_p425) (fun hc427 => ?_) (fun hc427 => ?_)
      · replace h := ifP h hc427
        refine g_goto (pc := 3006) (tgt := 3073) (dK D_Law_law_35 15 rfl) rfl ?_
        refine gL_weak (ls' := [(0, .ref (XB + 200)), (1, .ref c1), (2, .ref c2), (3, .ref c3), (4, .ref c4), (5, V a5)]) (sbc 2 rfl (sbc 3 rfl (sbc 4 rfl (sbc 5 rfl (sbc 6 rfl (sbc 7 rfl sbn)))))) ?_
        exact tj_Law_law_3073 hfl hsn hc1 hc2 hc3 hc4 hx hr ih ha5 (by omega) (by omega) h
      · replace h := ifN h hc427
        refine vg_iconst (pc := 3004) (dK D_Law_law_35 13 rfl) ?_
        exact vg_iretB (pc := 3005) (b := false) (dK D_Law_law_35 14 rfl) rfl (by omega) (by omega) (xf hfl) (hr _ (Option.some.inj h).symm)
  · replace h := ifN h hc429
    refine vg_iconst (pc := 2987) (dK D_Law_law_35 2 rfl) ?_
    exact vg_iretB (pc := 2988) (b := false) (dK D_Law_law_35 3 rfl) rfl (by omega) (by omega) (xf hfl) (hr _ (Option.some.inj h).symm)
def jf_Law_law_3009 (sx : Nat → Int) (sn : Nat) (c1 : Nat) (c2 : Nat) (c3 : Nat) (c4 : Nat) (go : Int × St → Option ((Bool × St) ⊕ (St))) (a5 : Int) (S : St) : Option ((Bool × St) ⊕ (St)) := if 0 ≤ (a5 + 1) ∧ (a5 + 1) < (sn : Int) then (bnO (fn_FP_describedByte c1 (sx (((a5 + 1)).toNat)) S) fun p432 => bnO (fn_Mo_describedByte c2 (sx (((a5 + 1)).toNat)) S) fun p433 => if p432 = p433.1 then (jf_Law_law_3073 sx sn c1 c2 c3 c4 go a5 p433.2) else (some (.inl (false, p433.2)))) else none
theorem tj_Law_law_3009 {E : EV} {X : XT} (hfl : X.2.2.2 = false) {sx : Nat → Int} {sn : Nat} (hsn : ScrE E sx sn) {c1 : Nat} (hc1 : HC X 10 c1) {c2 : Nat} (hc2 : HC X 11 c2) {c3 : Nat} (hc3 : HA X 3 1 c3) {c4 : Nat} (hc4 : HA X 4 1 c4) {mc ms : Nat} {K : RK → PS → Prop} {q : (Bool × St) ⊕ (St)} (hx : ∀ p, q = .inr p → ∀ kk nn, kk ≤ mc → nn ≤ ms → Go E M_Law_law mc ms 3079 [] [] (WX X p) kk nn K) (hr : ∀ p, q = .inl p → K (.inl (some (V (bi p.1)))) (WX X p.2)) {fu : Nat} {go : Int × St → Option ((Bool × St) ⊕ (St))} (ih : ∀ a, go a = some q → inR a.1 → ∀ kk nn, kk + 2 * fu ≤ mc → nn + 12 * fu ≤ ms → Go E M_Law_law mc ms 28 [(0, .ref (XB + 200)), (1, .ref c1), (2, .ref c2), (3, .ref c3), (4, .ref c4), (5, V a.1)] [] (WX X a.2) kk nn K) {a5 : Int} (ha5 : inR a5) {S : St} {kk nn : Nat} (hkk : kk + 0 + 2 * fu ≤ mc) (hnn : nn + 0 + 12 * fu ≤ ms) (h : jf_Law_law_3009 sx sn c1 c2 c3 c4 go a5 S = some q) : Go E M_Law_law mc ms 3009 [(0, .ref (XB + 200)), (1, .ref c1), (2, .ref c2), (3, .ref c3), (4, .ref c4), (5, V a5)] [] (WX X S) kk nn K := by
  unfold jf_Law_law_3009 at h
  refine g_aloadn (pc := 3009) (i0 := 1) (j := 1) (dK D_Law_law_35 16 rfl) rfl rfl ?_
  refine g_aloadn (pc := 3010) (i0 := 0) (j := 0) (dK D_Law_law_35 17 rfl) rfl rfl ?_
  refine g_iload (pc := 3011) (j := 5) (dK D_Law_law_35 18 rfl) rfl ?_
  refine vg_iconst (pc := 3013) (dK D_Law_law_35 19 rfl) ?_
  refine vg_iadd (pc := 3014) (dK D_Law_law_35 20 rfl) ?_
  refine gdE h (fun hi431 h => ?_)
  refine vg_sld (pc := 3015) (dK D_Law_law_35 21 rfl) hsn hi431 ?_
  refine bnE h (fun p432 e_p432 h => ?_)
  refine vg_cV (pc := 3016) (As := [V (sx (((a5 + 1)).toNat))]) (rest := []) (mc' := 0) (ms' := 0) (dK D_Law_law_35 22 rfl) K_Law_329 (fitK rfl) (ltK rfl) hc1 rfl (leK rfl) (by omega) (by omega) (tf_FP_describedByte hc1 (hsn.at _) e_p432) (kcI (fun h_p432 => ?_))
  refine g_aloadn (pc := 3019) (i0 := 2) (j := 2) (dK D_Law_law_35 23 rfl) rfl rfl ?_
  refine g_aloadn (pc := 3020) (i0 := 0) (j := 0) (dK D_Law_law_35 24 rfl) rfl rfl ?_
  refine g_iload (pc := 3021) (j := 5) (dK D_Law_law_35 25 rfl) rfl ?_
  refine vg_iconst (pc := 3023) (dK D_Law_law_35 26 rfl) ?_
  refine vg_iadd (pc := 3024) (dK D_Law_law_35 27 rfl) ?_
  refine vg_sld (pc := 3025) (dK D_Law_law_35 28 rfl) hsn hi431 ?_
  refine bnE h (fun p433 e_p433 h => ?_)
  refine vg_cV (pc := 3026) (As := [V (sx (((a5 + 1)).toNat))]) (rest := [V p432]) (mc' := 0) (ms' := 0) (dK D_Law_law_35 29 rfl) K_Law_332 (fitK rfl) (ltK rfl) hc2 rfl (leK rfl) (by omega) (by omega) (tf_Mo_describedByte hc2 (hsn.at _) e_p433) (kcI (fun h_p433 => ?_))
  refine vg_icmp_eq (pc := 3029) (t := 3073) (dK D_Law_law_35 30 rfl) rfl h_p432 h_p433 (fun hc434 => ?_) (fun hc434 => ?_)
  · replace h := ifP h hc434
    exact tj_Law_law_3073 hfl hsn hc1 hc2 hc3 hc4 hx hr ih ha5 (by omega) (by omega) h
  · replace h := ifN h hc434
    refine vg_iconst (pc := 3032) (dK D_Law_law_35 31 rfl) ?_
    exact vg_iretB (pc := 3033) (b := false) (dK D_Law_law_35 32 rfl) rfl (by omega) (by omega) (xf hfl) (hr _ (Option.some.inj h).symm)
def jf_Law_law_3034 (sx : Nat → Int) (sn : Nat) (c1 : Nat) (c2 : Nat) (c3 : Nat) (c4 : Nat) (go : Int × St → Option ((Bool × St) ⊕ (St))) (a5 : Int) (S : St) : Option ((Bool × St) ⊕ (St)) := bnO (fn_FP_digest c1 S) fun p436 => bnO (fn_Mo_digest c2 S) fun p437 => if p436 = p437.1 then (jf_Law_law_3073 sx sn c1 c2 c3 c4 go a5 p437.2) else (some (.inl (false, p437.2)))
theorem tj_Law_law_3034 {E : EV} {X : XT} (hfl : X.2.2.2 = false) {sx : Nat → Int} {sn : Nat} (hsn : ScrE E sx sn) {c1 : Nat} (hc1 : HC X 10 c1) {c2 : Nat} (hc2 : HC X 11 c2) {c3 : Nat} (hc3 : HA X 3 1 c3) {c4 : Nat} (hc4 : HA X 4 1 c4) {mc ms : Nat} {K : RK → PS → Prop} {q : (Bool × St) ⊕ (St)} (hx : ∀ p, q = .inr p → ∀ kk nn, kk ≤ mc → nn ≤ ms → Go E M_Law_law mc ms 3079 [] [] (WX X p) kk nn K) (hr : ∀ p, q = .inl p → K (.inl (some (V (bi p.1)))) (WX X p.2)) {fu : Nat} {go : Int × St → Option ((Bool × St) ⊕ (St))} (ih : ∀ a, go a = some q → inR a.1 → ∀ kk nn, kk + 2 * fu ≤ mc → nn + 12 * fu ≤ ms → Go E M_Law_law mc ms 28 [(0, .ref (XB + 200)), (1, .ref c1), (2, .ref c2), (3, .ref c3), (4, .ref c4), (5, V a.1)] [] (WX X a.2) kk nn K) {a5 : Int} (ha5 : inR a5) {S : St} {kk nn : Nat} (hkk : kk + 0 + 2 * fu ≤ mc) (hnn : nn + 0 + 12 * fu ≤ ms) (h : jf_Law_law_3034 sx sn c1 c2 c3 c4 go a5 S = some q) : Go E M_Law_law mc ms 3034 [(0, .ref (XB + 200)), (1, .ref c1), (2, .ref c2), (3, .ref c3), (4, .ref c4), (5, V a5)] [] (WX X S) kk nn K := by
  unfold jf_Law_law_3034 at h
  refine g_aloadn (pc := 3034) (i0 := 1) (j := 1) (dK D_Law_law_35 33 rfl) rfl rfl ?_
  refine bnE h (fun p436 e_p436 h => ?_)
  refine vg_cV (pc := 3035) (As := []) (rest := []) (mc' := 0) (ms' := 0) (dK D_Law_law_35 34 rfl) K_Law_333 (fitK rfl) (ltK rfl) hc1 rfl (leK rfl) (by omega) (by omega) (tf_FP_digest hc1 e_p436) (kcI (fun h_p436 => ?_))
  refine g_aloadn (pc := 3038) (i0 := 2) (j := 2) (dK D_Law_law_35 35 rfl) rfl rfl ?_
  refine bnE h (fun p437 e_p437 h => ?_)
  refine vg_cV (pc := 3039) (As := []) (rest := [V p436]) (mc' := 0) (ms' := 0) (dK D_Law_law_35 36 rfl) K_Law_336 (fitK rfl) (ltK rfl) hc2 rfl (leK rfl) (by omega) (by omega) (tf_Mo_digest hc2 e_p437) (kcI (fun h_p437 => ?_))
  refine vg_icmp_eq (pc := 3042) (t := 3073) (dK D_Law_law_35 37 rfl) rfl h_p436 h_p437 (fun hc438 => ?_) (fun hc438 => ?_)
  · replace h := ifP h hc438
    exact tj_Law_law_3073 hfl hsn hc1 hc2 hc3 hc4 hx hr ih ha5 (by omega) (by omega) h
  · replace h := ifN h hc438
    refine vg_iconst (pc := 3045) (dK D_Law_law_35 38 rfl) ?_
    exact vg_iretB (pc := 3046) (b := false) (dK D_Law_law_35 39 rfl) rfl (by omega) (by omega) (xf hfl) (hr _ (Option.some.inj h).symm)
def jf_Law_law_3047 (sx : Nat → Int) (sn : Nat) (c1 : Nat) (c2 : Nat) (c3 : Nat) (c4 : Nat) (go : Int × St → Option ((Bool × St) ⊕ (St))) (a5 : Int) (S : St) : Option ((Bool × St) ⊕ (St)) := bnO (fn_FP_undo c1 S) fun p440 => bnO (fn_Mo_undo c2 p440.2) fun p441 => if (bi p440.1) = (bi p441.1) then (jf_Law_law_3073 sx sn c1 c2 c3 c4 go a5 p441.2) else (some (.inl (false, p441.2)))
theorem tj_Law_law_3047 {E : EV} {X : XT} (hfl : X.2.2.2 = false) {sx : Nat → Int} {sn : Nat} (hsn : ScrE E sx sn) {c1 : Nat} (hc1 : HC X 10 c1) {c2 : Nat} (hc2 : HC X 11 c2) {c3 : Nat} (hc3 : HA X 3 1 c3) {c4 : Nat} (hc4 : HA X 4 1 c4) {mc ms : Nat} {K : RK → PS → Prop} {q : (Bool × St) ⊕ (St)} (hx : ∀ p, q = .inr p → ∀ kk nn, kk ≤ mc → nn ≤ ms → Go E M_Law_law mc ms 3079 [] [] (WX X p) kk nn K) (hr : ∀ p, q = .inl p → K (.inl (some (V (bi p.1)))) (WX X p.2)) {fu : Nat} {go : Int × St → Option ((Bool × St) ⊕ (St))} (ih : ∀ a, go a = some q → inR a.1 → ∀ kk nn, kk + 2 * fu ≤ mc → nn + 12 * fu ≤ ms → Go E M_Law_law mc ms 28 [(0, .ref (XB + 200)), (1, .ref c1), (2, .ref c2), (3, .ref c3), (4, .ref c4), (5, V a.1)] [] (WX X a.2) kk nn K) {a5 : Int} (ha5 : inR a5) {S : St} {kk nn : Nat} (hkk : kk + 0 + 2 * fu ≤ mc) (hnn : nn + 0 + 12 * fu ≤ ms) (h : jf_Law_law_3047 sx sn c1 c2 c3 c4 go a5 S = some q) : Go E M_Law_law mc ms 3047 [(0, .ref (XB + 200)), (1, .ref c1), (2, .ref c2), (3, .ref c3), (4, .ref c4), (5, V a5)] [] (WX X S) kk nn K := by
  unfold jf_Law_law_3047 at h
  refine g_aloadn (pc := 3047) (i0 := 1) (j := 1) (dK D_Law_law_35 40 rfl) rfl rfl ?_
  refine bnE h (fun p440 e_p440 h => ?_)
  refine vg_cV (pc := 3048) (As := []) (rest := []) (mc' := 0) (ms' := 0) (dK D_Law_law_35 41 rfl) K_Law_337 (fitK rfl) (ltK rfl) hc1 rfl (leK rfl) (by omega) (by omega) (tf_FP_undo hc1 e_p440) (kcB ?_)
  refine g_aloadn (pc := 3051) (i0 := 2) (j := 2) (dK D_Law_law_35 42 rfl) rfl rfl ?_
  refine bnE h (fun p441 e_p441 h => ?_)
  refine vg_cV (pc := 3052) (As := []) (rest := [V (bi p440.1)]) (mc' := 0) (ms' := 0) (dK D_Law_law_35 43 rfl) K_Law_341 (fitK rfl) (ltK rfl) hc2 rfl (leK rfl) (by omega) (by omega) (tf_Mo_undo hc2 e_p441) (kcB ?_)
  refine vg_icmp_eq (pc := 3055) (t := 3073) (dK D_Law_law_35 44 rfl) rfl (bi_in _) (bi_in _) (fun hc442 => ?_) (fun hc442 => ?_)
  · replace h := ifP h hc442
    exact tj_Law_law_3073 hfl hsn hc1 hc2 hc3 hc4 hx hr ih ha5 (by omega) (by omega) h
  · replace h := ifN h hc442
    refine vg_iconst (pc := 3058) (dK D_Law_law_35 45 rfl) ?_
    exact vg_iretB (pc := 3059) (b := false) (dK D_Law_law_35 46 rfl) rfl (by omega) (by omega) (xf hfl) (hr _ (Option.some.inj h).symm)
def jf_Law_law_3060 (sx : Nat → Int) (sn : Nat) (c1 : Nat) (c2 : Nat) (c3 : Nat) (c4 : Nat) (go : Int × St → Option ((Bool × St) ⊕ (St))) (a5 : Int) (S : St) : Option ((Bool × St) ⊕ (St)) := bnO (fn_FP_undoCount c1 S) fun p444 => bnO (fn_Mo_undoCount c2 S) fun p445 => if p444 = p445.1 then (jf_Law_law_3073 sx sn c1 c2 c3 c4 go a5 p445.2) else (some (.inl (false, p445.2)))
theorem tj_Law_law_3060 {E : EV} {X : XT} (hfl : X.2.2.2 = false) {sx : Nat → Int} {sn : Nat} (hsn : ScrE E sx sn) {c1 : Nat} (hc1 : HC X 10 c1) {c2 : Nat} (hc2 : HC X 11 c2) {c3 : Nat} (hc3 : HA X 3 1 c3) {c4 : Nat} (hc4 : HA X 4 1 c4) {mc ms : Nat} {K : RK → PS → Prop} {q : (Bool × St) ⊕ (St)} (hx : ∀ p, q = .inr p → ∀ kk nn, kk ≤ mc → nn ≤ ms → Go E M_Law_law mc ms 3079 [] [] (WX X p) kk nn K) (hr : ∀ p, q = .inl p → K (.inl (some (V (bi p.1)))) (WX X p.2)) {fu : Nat} {go : Int × St → Option ((Bool × St) ⊕ (St))} (ih : ∀ a, go a = some q → inR a.1 → ∀ kk nn, kk + 2 * fu ≤ mc → nn + 12 * fu ≤ ms → Go E M_Law_law mc ms 28 [(0, .ref (XB + 200)), (1, .ref c1), (2, .ref c2), (3, .ref c3), (4, .ref c4), (5, V a.1)] [] (WX X a.2) kk nn K) {a5 : Int} (ha5 : inR a5) {S : St} {kk nn : Nat} (hkk : kk + 0 + 2 * fu ≤ mc) (hnn : nn + 0 + 12 * fu ≤ ms) (h : jf_Law_law_3060 sx sn c1 c2 c3 c4 go a5 S = some q) : Go E M_Law_law mc ms 3060 [(0, .ref (XB + 200)), (1, .ref c1), (2, .ref c2), (3, .ref c3), (4, .ref c4), (5, V a5)] [] (WX X S) kk nn K := by
  unfold jf_Law_law_3060 at h
  refine g_aloadn (pc := 3060) (i0 := 1) (j := 1) (dK D_Law_law_35 47 rfl) rfl rfl ?_
  refine bnE h (fun p444 e_p444 h => ?_)
  refine vg_cV (pc := 3061) (As := []) (rest := []) (mc' := 0) (ms' := 0) (dK D_Law_law_35 48 rfl) K_Law_342 (fitK rfl) (ltK rfl) hc1 rfl (leK rfl) (by omega) (by omega) (tf_FP_undoCount hc1 e_p444) (kcI (fun h_p444 => ?_))
  refine g_aloadn (pc := 3064) (i0 := 2) (j := 2) (dK D_Law_law_35 49 rfl) rfl rfl ?_
  refine bnE h (fun p445 e_p445 h => ?_)
  refine vg_cV (pc := 3065) (As := []) (rest := [V p444]) (mc' := 0) (ms' := 0) (dK D_Law_law_36 0 rfl) K_Law_345 (fitK rfl) (ltK rfl) hc2 rfl (leK rfl) (by omega) (by omega) (tf_Mo_undoCount hc2 e_p445) (kcI (fun h_p445 => ?_))
  refine vg_icmp_eq (pc := 3068) (t := 3073) (dK D_Law_law_36 1 rfl) rfl h_p444 h_p445 (fun hc446 => ?_) (fun hc446 => ?_)
  · replace h := ifP h hc446
    exact tj_Law_law_3073 hfl hsn hc1 hc2 hc3 hc4 hx hr ih ha5 (by omega) (by omega) h
  · replace h := ifN h hc446
    refine vg_iconst (pc := 3071) (dK D_Law_law_36 2 rfl) ?_
    exact vg_iretB (pc := 3072) (b := false) (dK D_Law_law_36 3 rfl) rfl (by omega) (by omega) (xf hfl) (hr _ (Option.some.inj h).symm)
def lb_Law_law (sx : Nat → Int) (sn : Nat) (c1 : Nat) (c2 : Nat) (c3 : Nat) (c4 : Nat) (go : Int × St → Option ((Bool × St) ⊕ (St))) (a5 : Int) (S : St) : Option ((Bool × St) ⊕ (St)) := nm (wr ((sn : Int) - 6)) fun v1 => if v1 < a5 then (some (.inr S)) else (if 0 ≤ a5 ∧ a5 < (sn : Int) then (if (i_and (sx a5.toNat) 63) = 0 then (jf_Law_law_296 sx sn c1 c2 c3 c4 go a5 S) else if (i_and (sx a5.toNat) 63) = 1 then (jf_Law_law_369 sx sn c1 c2 c3 c4 go a5 S) else if (i_and (sx a5.toNat) 63) = 2 then (jf_Law_law_394 sx sn c1 c2 c3 c4 go a5 S) else if (i_and (sx a5.toNat) 63) = 3 then (jf_Law_law_407 sx sn c1 c2 c3 c4 go a5 S) else if (i_and (sx a5.toNat) 63) = 4 then (jf_Law_law_420 sx sn c1 c2 c3 c4 go a5 S) else if (i_and (sx a5.toNat) 63) = 5 then (jf_Law_law_433 sx sn c1 c2 c3 c4 go a5 S) else if (i_and (sx a5.toNat) 63) = 6 then (jf_Law_law_458 sx sn c1 c2 c3 c4 go a5 S) else if (i_and (sx a5.toNat) 63) = 7 then (jf_Law_law_550 sx sn c1 c2 c3 c4 go a5 S) else if (i_and (sx a5.toNat) 63) = 8 then (jf_Law_law_653 sx sn c1 c2 c3 c4 go a5 S) else if (i_and (sx a5.toNat) 63) = 9 then (jf_Law_law_721 sx sn c1 c2 c3 c4 go a5 S) else if (i_and (sx a5.toNat) 63) = 10 then (jf_Law_law_789 sx sn c1 c2 c3 c4 go a5 S) else if (i_and (sx a5.toNat) 63) = 11 then (jf_Law_law_857 sx sn c1 c2 c3 c4 go a5 S) else if (i_and (sx a5.toNat) 63) = 12 then (jf_Law_law_925 sx sn c1 c2 c3 c4 go a5 S) else if (i_and (sx a5.toNat) 63) = 13 then (jf_Law_law_993 sx sn c1 c2 c3 c4 go a5 S) else if (i_and (sx a5.toNat) 63) = 14 then (jf_Law_law_1061 sx sn c1 c2 c3 c4 go a5 S) else if (i_and (sx a5.toNat) 63) = 15 then (jf_Law_law_1129 sx sn c1 c2 c3 c4 go a5 S) else if (i_and (sx a5.toNat) 63) = 16 then (jf_Law_law_1197 sx sn c1 c2 c3 c4 go a5 S) else if (i_and (sx a5.toNat) 63) = 17 then (jf_Law_law_1265 sx sn c1 c2 c3 c4 go a5 S) else if (i_and (sx a5.toNat) 63) = 18 then (jf_Law_law_1333 sx sn c1 c2 c3 c4 go a5 S) else if (i_and (sx a5.toNat) 63) = 19 then (jf_Law_law_1401 sx sn c1 c2 c3 c4 go a5 S) else if (i_and (sx a5.toNat) 63) = 20 then (jf_Law_law_1469 sx sn c1 c2 c3 c4 go a5 S) else if (i_and (sx a5.toNat) 63) = 21 then (jf_Law_law_1532 sx sn c1 c2 c3 c4 go a5 S) else if (i_and (sx a5.toNat) 63) = 22 then (jf_Law_law_1595 sx sn c1 c2 c3 c4 go a5 S) else if (i_and (sx a5.toNat) 63) = 23 then (jf_Law_law_1663 sx sn c1 c2 c3 c4 go a5 S) else if (i_and (sx a5.toNat) 63) = 24 then (jf_Law_law_1719 sx sn c1 c2 c3 c4 go a5 S) else if (i_and (sx a5.toNat) 63) = 25 then (jf_Law_law_1787 sx sn c1 c2 c3 c4 go a5 S) else if (i_and (sx a5.toNat) 63) = 26 then (jf_Law_law_1878 sx sn c1 c2 c3 c4 go a5 S) else if (i_and (sx a5.toNat) 63) = 27 then (jf_Law_law_1946 sx sn c1 c2 c3 c4 go a5 S) else if (i_and (sx a5.toNat) 63) = 28 then (jf_Law_law_2002 sx sn c1 c2 c3 c4 go a5 S) else if (i_and (sx a5.toNat) 63) = 29 then (jf_Law_law_2058 sx sn c1 c2 c3 c4 go a5 S) else if (i_and (sx a5.toNat) 63) = 30 then (jf_Law_law_2071 sx sn c1 c2 c3 c4 go a5 S) else if (i_and (sx a5.toNat) 63) = 31 then (jf_Law_law_2084 sx sn c1 c2 c3 c4 go a5 S) else if (i_and (sx a5.toNat) 63) = 32 then (jf_Law_law_2097 sx sn c1 c2 c3 c4 go a5 S) else if (i_and (sx a5.toNat) 63) = 33 then (jf_Law_law_2153 sx sn c1 c2 c3 c4 go a5 S) else if (i_and (sx a5.toNat) 63) = 34 then (jf_Law_law_2221 sx sn c1 c2 c3 c4 go a5 S) else if (i_and (sx a5.toNat) 63) = 35 then (jf_Law_law_2234 sx sn c1 c2 c3 c4 go a5 S) else if (i_and (sx a5.toNat) 63) = 36 then (jf_Law_law_2302 sx sn c1 c2 c3 c4 go a5 S) else if (i_and (sx a5.toNat) 63) = 37 then (jf_Law_law_2358 sx sn c1 c2 c3 c4 go a5 S) else if (i_and (sx a5.toNat) 63) = 38 then (jf_Law_law_2371 sx sn c1 c2 c3 c4 go a5 S) else if (i_and (sx a5.toNat) 63) = 39 then (jf_Law_law_2427 sx sn c1 c2 c3 c4 go a5 S) else if (i_and (sx a5.toNat) 63) = 40 then (jf_Law_law_2440 sx sn c1 c2 c3 c4 go a5 S) else if (i_and (sx a5.toNat) 63) = 41 then (jf_Law_law_2508 sx sn c1 c2 c3 c4 go a5 S) else if (i_and (sx a5.toNat) 63) = 42 then (jf_Law_law_2564 sx sn c1 c2 c3 c4 go a5 S) else if (i_and (sx a5.toNat) 63) = 43 then (jf_Law_law_2577 sx sn c1 c2 c3 c4 go a5 S) else if (i_and (sx a5.toNat) 63) = 44 then (jf_Law_law_2633 sx sn c1 c2 c3 c4 go a5 S) else if (i_and (sx a5.toNat) 63) = 45 then (jf_Law_law_2689 sx sn c1 c2 c3 c4 go a5 S) else if (i_and (sx a5.toNat) 63) = 46 then (jf_Law_law_2702 sx sn c1 c2 c3 c4 go a5 S) else if (i_and (sx a5.toNat) 63) = 47 then (jf_Law_law_2715 sx sn c1 c2 c3 c4 go a5 S) else if (i_and (sx a5.toNat) 63) = 48 then (jf_Law_law_2740 sx sn c1 c2 c3 c4 go a5 S) else if (i_and (sx a5.toNat) 63) = 49 then (jf_Law_law_2753 sx sn c1 c2 c3 c4 go a5 S) else if (i_and (sx a5.toNat) 63) = 50 then (jf_Law_law_2766 sx sn c1 c2 c3 c4 go a5 S) else if (i_and (sx a5.toNat) 63) = 51 then (jf_Law_law_2822 sx sn c1 c2 c3 c4 go a5 S) else if (i_and (sx a5.toNat) 63) = 52 then (jf_Law_law_2847 sx sn c1 c2 c3 c4 go a5 S) else if (i_and (sx a5.toNat) 63) = 53 then (jf_Law_law_2888 sx sn c1 c2 c3 c4 go a5 S) else if (i_and (sx a5.toNat) 63) = 54 then (jf_Law_law_2953 sx sn c1 c2 c3 c4 go a5 S) else if (i_and (sx a5.toNat) 63) = 55 then (jf_Law_law_3009 sx sn c1 c2 c3 c4 go a5 S) else if (i_and (sx a5.toNat) 63) = 56 then (jf_Law_law_3034 sx sn c1 c2 c3 c4 go a5 S) else if (i_and (sx a5.toNat) 63) = 57 then (jf_Law_law_3047 sx sn c1 c2 c3 c4 go a5 S) else if (i_and (sx a5.toNat) 63) = 58 then (jf_Law_law_3060 sx sn c1 c2 c3 c4 go a5 S) else (jf_Law_law_3073 sx sn c1 c2 c3 c4 go a5 S)) else none)
def lo_Law_law (sx : Nat → Int) (sn : Nat) (c1 : Nat) (c2 : Nat) (c3 : Nat) (c4 : Nat) : Nat → Int × St → Option ((Bool × St) ⊕ (St)) := lp fun go p => lb_Law_law sx sn c1 c2 c3 c4 go p.1 p.2
theorem tl_Law_law {E : EV} {X : XT} (hfl : X.2.2.2 = false) {sx : Nat → Int} {sn : Nat} (hsn : ScrE E sx sn) {c1 : Nat} (hc1 : HC X 10 c1) {c2 : Nat} (hc2 : HC X 11 c2) {c3 : Nat} (hc3 : HA X 3 1 c3) {c4 : Nat} (hc4 : HA X 4 1 c4) {mc ms : Nat} {K : RK → PS → Prop} {q : (Bool × St) ⊕ (St)} (hx : ∀ p, q = .inr p → ∀ kk nn, kk ≤ mc → nn ≤ ms → Go E M_Law_law mc ms 3079 [] [] (WX X p) kk nn K) (hr : ∀ p, q = .inl p → K (.inl (some (V (bi p.1)))) (WX X p.2)) : ∀ fu a, lo_Law_law sx sn c1 c2 c3 c4 fu a = some q → inR a.1 → ∀ kk nn, kk + 2 * fu ≤ mc → nn + 12 * fu ≤ ms → Go E M_Law_law mc ms 28 [(0, .ref (XB + 200)), (1, .ref c1), (2, .ref c2), (3, .ref c3), (4, .ref c4), (5, V a.1)] [] (WX X a.2) kk nn K := by
  refine lp_indN (P := fun fu (a : Int × St) => inR a.1 → ∀ kk nn, kk + 2 * fu ≤ mc → nn + 12 * fu ≤ ms → Go E M_Law_law mc ms 28 [(0, .ref (XB + 200)), (1, .ref c1), (2, .ref c2), (3, .ref c3), (4, .ref c4), (5, V a.1)] [] (WX X a.2) kk nn K) (fun fu go ih a h => ?_)
  obtain ⟨a5, S⟩ := a
  intro ha5 kk nn hkk hnn
  show Go E M_Law_law mc ms 28 [(0, .ref (XB + 200)), (1, .ref c1), (2, .ref c2), (3, .ref c3), (4, .ref c4), (5, V a5)] [] (WX X S) kk nn K
  replace h : lb_Law_law sx sn c1 c2 c3 c4 go a5 S = some q := h
  unfold lb_Law_law at h
  have hk0 : kk + 2 + 2 * fu ≤ mc := by omega
  have hn0 : nn + 12 + 12 * fu ≤ ms := by omega
  refine g_iload (pc := 28) (j := 5) (dK D_Law_law_0 16 rfl) rfl ?_
  refine g_aloadn (pc := 30) (i0 := 0) (j := 0) (dK D_Law_law_0 17 rfl) rfl rfl ?_
  refine vg_slen (pc := 31) (dK D_Law_law_0 18 rfl) hsn ?_
  refine vg_bipush (pc := 32) (dK D_Law_law_0 19 rfl) rfl ?_
  refine vg_isub (pc := 34) (dK D_Law_law_0 20 rfl) ?_
  refine nmE h (fun v1 e_v1 h => ?_)
  refine gtop e_v1 ?_
  refine vg_icmp_gt (pc := 35) (t := 3079) (dK D_Law_law_0 21 rfl) rfl ha5 (Vn_in e_v1) (fun hc447 => ?_) (fun hc447 => ?_)
  · replace h := ifP h hc447
    refine gL_weak (ls' := []) sbn ?_
    exact hx _ (Option.some.inj h).symm _ _ (by omega) (by omega)
  · replace h := ifN h hc447
    refine g_aloadn (pc := 38) (i0 := 0) (j := 0) (dK D_Law_law_0 22 rfl) rfl rfl ?_
    refine g_iload (pc := 39) (j := 5) (dK D_Law_law_0 23 rfl) rfl ?_
    refine gdE h (fun hi2 h => ?_)
    refine vg_sld (pc := 41) (dK D_Law_law_0 24 rfl) hsn hi2 ?_
    refine vg_bipush (pc := 42) (dK D_Law_law_0 25 rfl) rfl ?_
    refine vg_iand (pc := 44) (dK D_Law_law_0 26 rfl) ?_
    by_cases hk3 : (i_and (sx a5.toNat) 63) = 0
    · have h := ifP h hk3
      refine vg_tabK (pc := 45) (kk := 0) (t := 296) (dK D_Law_law_0 27 rfl) hk3 rfl rfl rfl rfl ?_
      exact tj_Law_law_296 hfl hsn hc1 hc2 hc3 hc4 hx hr ih ha5 (by omega) (by omega) h
    replace h := ifN h hk3
    by_cases hk13 : (i_and (sx a5.toNat) 63) = 1
    · have h := ifP h hk13
      refine vg_tabK (pc := 45) (kk := 1) (t := 369) (dK D_Law_law_0 27 rfl) hk13 rfl rfl rfl rfl ?_
      exact tj_Law_law_369 hfl hsn hc1 hc2 hc3 hc4 hx hr ih ha5 (by omega) (by omega) h
    replace h := ifN h hk13
    by_cases hk18 : (i_and (sx a5.toNat) 63) = 2
    · have h := ifP h hk18
      refine vg_tabK (pc := 45) (kk := 2) (t := 394) (dK D_Law_law_0 27 rfl) hk18 rfl rfl rfl rfl ?_
      exact tj_Law_law_394 hfl hsn hc1 hc2 hc3 hc4 hx hr ih ha5 (by omega) (by omega) h
    replace h := ifN h hk18
    by_cases hk22 : (i_and (sx a5.toNat) 63) = 3
    · have h := ifP h hk22
      refine vg_tabK (pc := 45) (kk := 3) (t := 407) (dK D_Law_law_0 27 rfl) hk22 rfl rfl rfl rfl ?_
      exact tj_Law_law_407 hfl hsn hc1 hc2 hc3 hc4 hx hr ih ha5 (by omega) (by omega) h
    replace h := ifN h hk22
    by_cases hk26 : (i_and (sx a5.toNat) 63) = 4
    · have h := ifP h hk26
      refine vg_tabK (pc := 45) (kk := 4) (t := 420) (dK D_Law_law_0 27 rfl) hk26 rfl rfl rfl rfl ?_
      exact tj_Law_law_420 hfl hsn hc1 hc2 hc3 hc4 hx hr ih ha5 (by omega) (by omega) h
    replace h := ifN h hk26
    by_cases hk30 : (i_and (sx a5.toNat) 63) = 5
    · have h := ifP h hk30
      refine vg_tabK (pc := 45) (kk := 5) (t := 433) (dK D_Law_law_0 27 rfl) hk30 rfl rfl rfl rfl ?_
      exact tj_Law_law_433 hfl hsn hc1 hc2 hc3 hc4 hx hr ih ha5 (by omega) (by omega) h
    replace h := ifN h hk30
    by_cases hk35 : (i_and (sx a5.toNat) 63) = 6
    · have h := ifP h hk35
      refine vg_tabK (pc := 45) (kk := 6) (t := 458) (dK D_Law_law_0 27 rfl) hk35 rfl rfl rfl rfl ?_
      exact tj_Law_law_458 hfl hsn hc1 hc2 hc3 hc4 hx hr ih ha5 (by omega) (by omega) h
    replace h := ifN h hk35
    by_cases hk46 : (i_and (sx a5.toNat) 63) = 7
    · have h := ifP h hk46
      refine vg_tabK (pc := 45) (kk := 7) (t := 550) (dK D_Law_law_0 27 rfl) hk46 rfl rfl rfl rfl ?_
      exact tj_Law_law_550 hfl hsn hc1 hc2 hc3 hc4 hx hr ih ha5 (by omega) (by omega) h
    replace h := ifN h hk46
    by_cases hk69 : (i_and (sx a5.toNat) 63) = 8
    · have h := ifP h hk69
      refine vg_tabK (pc := 45) (kk := 8) (t := 653) (dK D_Law_law_0 27 rfl) hk69 rfl rfl rfl rfl ?_
      exact tj_Law_law_653 hfl hsn hc1 hc2 hc3 hc4 hx hr ih ha5 (by omega) (by omega) h
    replace h := ifN h hk69
    by_cases hk78 : (i_and (sx a5.toNat) 63) = 9
    · have h := ifP h hk78
      refine vg_tabK (pc := 45) (kk := 9) (t := 721) (dK D_Law_law_0 27 rfl) hk78 rfl rfl rfl rfl ?_
      exact tj_Law_law_721 hfl hsn hc1 hc2 hc3 hc4 hx hr ih ha5 (by omega) (by omega) h
    replace h := ifN h hk78
    by_cases hk87 : (i_and (sx a5.toNat) 63) = 10
    · have h := ifP h hk87
      refine vg_tabK (pc := 45) (kk := 10) (t := 789) (dK D_Law_law_0 27 rfl) hk87 rfl rfl rfl rfl ?_
      exact tj_Law_law_789 hfl hsn hc1 hc2 hc3 hc4 hx hr ih ha5 (by omega) (by omega) h
    replace h := ifN h hk87
    by_cases hk96 : (i_and (sx a5.toNat) 63) = 11
    · have h := ifP h hk96
      refine vg_tabK (pc := 45) (kk := 11) (t := 857) (dK D_Law_law_0 27 rfl) hk96 rfl rfl rfl rfl ?_
      exact tj_Law_law_857 hfl hsn hc1 hc2 hc3 hc4 hx hr ih ha5 (by omega) (by omega) h
    replace h := ifN h hk96
    by_cases hk105 : (i_and (sx a5.toNat) 63) = 12
    · have h := ifP h hk105
      refine vg_tabK (pc := 45) (kk := 12) (t := 925) (dK D_Law_law_0 27 rfl) hk105 rfl rfl rfl rfl ?_
      exact tj_Law_law_925 hfl hsn hc1 hc2 hc3 hc4 hx hr ih ha5 (by omega) (by omega) h
    replace h := ifN h hk105
    by_cases hk114 : (i_and (sx a5.toNat) 63) = 13
    · have h := ifP h hk114
      refine vg_tabK (pc := 45) (kk := 13) (t := 993) (dK D_Law_law_0 27 rfl) hk114 rfl rfl rfl rfl ?_
      exact tj_Law_law_993 hfl hsn hc1 hc2 hc3 hc4 hx hr ih ha5 (by omega) (by omega) h
    replace h := ifN h hk114
    by_cases hk123 : (i_and (sx a5.toNat) 63) = 14
    · have h := ifP h hk123
      refine vg_tabK (pc := 45) (kk := 14) (t := 1061) (dK D_Law_law_0 27 rfl) hk123 rfl rfl rfl rfl ?_
      exact tj_Law_law_1061 hfl hsn hc1 hc2 hc3 hc4 hx hr ih ha5 (by omega) (by omega) h
    replace h := ifN h hk123
    by_cases hk132 : (i_and (sx a5.toNat) 63) = 15
    · have h := ifP h hk132
      refine vg_tabK (pc := 45) (kk := 15) (t := 1129) (dK D_Law_law_0 27 rfl) hk132 rfl rfl rfl rfl ?_
      exact tj_Law_law_1129 hfl hsn hc1 hc2 hc3 hc4 hx hr ih ha5 (by omega) (by omega) h
    replace h := ifN h hk132
    by_cases hk141 : (i_and (sx a5.toNat) 63) = 16
    · have h := ifP h hk141
      refine vg_tabK (pc := 45) (kk := 16) (t := 1197) (dK D_Law_law_0 27 rfl) hk141 rfl rfl rfl rfl ?_
      exact tj_Law_law_1197 hfl hsn hc1 hc2 hc3 hc4 hx hr ih ha5 (by omega) (by omega) h
    replace h := ifN h hk141
    by_cases hk150 : (i_and (sx a5.toNat) 63) = 17
    · have h := ifP h hk150
      refine vg_tabK (pc := 45) (kk := 17) (t := 1265) (dK D_Law_law_0 27 rfl) hk150 rfl rfl rfl rfl ?_
      exact tj_Law_law_1265 hfl hsn hc1 hc2 hc3 hc4 hx hr ih ha5 (by omega) (by omega) h
    replace h := ifN h hk150
    by_cases hk159 : (i_and (sx a5.toNat) 63) = 18
    · have h := ifP h hk159
      refine vg_tabK (pc := 45) (kk := 18) (t := 1333) (dK D_Law_law_0 27 rfl) hk159 rfl rfl rfl rfl ?_
      exact tj_Law_law_1333 hfl hsn hc1 hc2 hc3 hc4 hx hr ih ha5 (by omega) (by omega) h
    replace h := ifN h hk159
    by_cases hk168 : (i_and (sx a5.toNat) 63) = 19
    · have h := ifP h hk168
      refine vg_tabK (pc := 45) (kk := 19) (t := 1401) (dK D_Law_law_0 27 rfl) hk168 rfl rfl rfl rfl ?_
      exact tj_Law_law_1401 hfl hsn hc1 hc2 hc3 hc4 hx hr ih ha5 (by omega) (by omega) h
    replace h := ifN h hk168
    by_cases hk177 : (i_and (sx a5.toNat) 63) = 20
    · have h := ifP h hk177
      refine vg_tabK (pc := 45) (kk := 20) (t := 1469) (dK D_Law_law_0 27 rfl) hk177 rfl rfl rfl rfl ?_
      exact tj_Law_law_1469 hfl hsn hc1 hc2 hc3 hc4 hx hr ih ha5 (by omega) (by omega) h
    replace h := ifN h hk177
    by_cases hk187 : (i_and (sx a5.toNat) 63) = 21
    · have h := ifP h hk187
      refine vg_tabK (pc := 45) (kk := 21) (t := 1532) (dK D_Law_law_0 27 rfl) hk187 rfl rfl rfl rfl ?_
      exact tj_Law_law_1532 hfl hsn hc1 hc2 hc3 hc4 hx hr ih ha5 (by omega) (by omega) h
    replace h := ifN h hk187
    by_cases hk197 : (i_and (sx a5.toNat) 63) = 22
    · have h := ifP h hk197
      refine vg_tabK (pc := 45) (kk := 22) (t := 1595) (dK D_Law_law_0 27 rfl) hk197 rfl rfl rfl rfl ?_
      exact tj_Law_law_1595 hfl hsn hc1 hc2 hc3 hc4 hx hr ih ha5 (by omega) (by omega) h
    replace h := ifN h hk197
    by_cases hk206 : (i_and (sx a5.toNat) 63) = 23
    · have h := ifP h hk206
      refine vg_tabK (pc := 45) (kk := 23) (t := 1663) (dK D_Law_law_0 27 rfl) hk206 rfl rfl rfl rfl ?_
      exact tj_Law_law_1663 hfl hsn hc1 hc2 hc3 hc4 hx hr ih ha5 (by omega) (by omega) h
    replace h := ifN h hk206
    by_cases hk214 : (i_and (sx a5.toNat) 63) = 24
    · have h := ifP h hk214
      refine vg_tabK (pc := 45) (kk := 24) (t := 1719) (dK D_Law_law_0 27 rfl) hk214 rfl rfl rfl rfl ?_
      exact tj_Law_law_1719 hfl hsn hc1 hc2 hc3 hc4 hx hr ih ha5 (by omega) (by omega) h
    replace h := ifN h hk214
    by_cases hk223 : (i_and (sx a5.toNat) 63) = 25
    · have h := ifP h hk223
      refine vg_tabK (pc := 45) (kk := 25) (t := 1787) (dK D_Law_law_0 27 rfl) hk223 rfl rfl rfl rfl ?_
      exact tj_Law_law_1787 hfl hsn hc1 hc2 hc3 hc4 hx hr ih ha5 (by omega) (by omega) h
    replace h := ifN h hk223
    by_cases hk245 : (i_and (sx a5.toNat) 63) = 26
    · have h := ifP h hk245
      refine vg_tabK (pc := 45) (kk := 26) (t := 1878) (dK D_Law_law_0 27 rfl) hk245 rfl rfl rfl rfl ?_
      exact tj_Law_law_1878 hfl hsn hc1 hc2 hc3 hc4 hx hr ih ha5 (by omega) (by omega) h
    replace h := ifN h hk245
    by_cases hk254 : (i_and (sx a5.toNat) 63) = 27
    · have h := ifP h hk254
      refine vg_tabK (pc := 45) (kk := 27) (t := 1946) (dK D_Law_law_0 27 rfl) hk254 rfl rfl rfl rfl ?_
      exact tj_Law_law_1946 hfl hsn hc1 hc2 hc3 hc4 hx hr ih ha5 (by omega) (by omega) h
    replace h := ifN h hk254
    by_cases hk262 : (i_and (sx a5.toNat) 63) = 28
    · have h := ifP h hk262
      refine vg_tabK (pc := 45) (kk := 28) (t := 2002) (dK D_Law_law_0 27 rfl) hk262 rfl rfl rfl rfl ?_
      exact tj_Law_law_2002 hfl hsn hc1 hc2 hc3 hc4 hx hr ih ha5 (by omega) (by omega) h
    replace h := ifN h hk262
    by_cases hk270 : (i_and (sx a5.toNat) 63) = 29
    · have h := ifP h hk270
      refine vg_tabK (pc := 45) (kk := 29) (t := 2058) (dK D_Law_law_0 27 rfl) hk270 rfl rfl rfl rfl ?_
      exact tj_Law_law_2058 hfl hsn hc1 hc2 hc3 hc4 hx hr ih ha5 (by omega) (by omega) h
    replace h := ifN h hk270
    by_cases hk274 : (i_and (sx a5.toNat) 63) = 30
    · have h := ifP h hk274
      refine vg_tabK (pc := 45) (kk := 30) (t := 2071) (dK D_Law_law_0 27 rfl) hk274 rfl rfl rfl rfl ?_
      exact tj_Law_law_2071 hfl hsn hc1 hc2 hc3 hc4 hx hr ih ha5 (by omega) (by omega) h
    replace h := ifN h hk274
    by_cases hk278 : (i_and (sx a5.toNat) 63) = 31
    · have h := ifP h hk278
      refine vg_tabK (pc := 45) (kk := 31) (t := 2084) (dK D_Law_law_0 27 rfl) hk278 rfl rfl rfl rfl ?_
      exact tj_Law_law_2084 hfl hsn hc1 hc2 hc3 hc4 hx hr ih ha5 (by omega) (by omega) h
    replace h := ifN h hk278
    by_cases hk282 : (i_and (sx a5.toNat) 63) = 32
    · have h := ifP h hk282
      refine vg_tabK (pc := 45) (kk := 32) (t := 2097) (dK D_Law_law_0 27 rfl) hk282 rfl rfl rfl rfl ?_
      exact tj_Law_law_2097 hfl hsn hc1 hc2 hc3 hc4 hx hr ih ha5 (by omega) (by omega) h
    replace h := ifN h hk282
    by_cases hk290 : (i_and (sx a5.toNat) 63) = 33
    · have h := ifP h hk290
      refine vg_tabK (pc := 45) (kk := 33) (t := 2153) (dK D_Law_law_0 27 rfl) hk290 rfl rfl rfl rfl ?_
      exact tj_Law_law_2153 hfl hsn hc1 hc2 hc3 hc4 hx hr ih ha5 (by omega) (by omega) h
    replace h := ifN h hk290
    by_cases hk299 : (i_and (sx a5.toNat) 63) = 34
    · have h := ifP h hk299
      refine vg_tabK (pc := 45) (kk := 34) (t := 2221) (dK D_Law_law_0 27 rfl) hk299 rfl rfl rfl rfl ?_
      exact tj_Law_law_2221 hfl hsn hc1 hc2 hc3 hc4 hx hr ih ha5 (by omega) (by omega) h
    replace h := ifN h hk299
    by_cases hk303 : (i_and (sx a5.toNat) 63) = 35
    · have h := ifP h hk303
      refine vg_tabK (pc := 45) (kk := 35) (t := 2234) (dK D_Law_law_0 27 rfl) hk303 rfl rfl rfl rfl ?_
      exact tj_Law_law_2234 hfl hsn hc1 hc2 hc3 hc4 hx hr ih ha5 (by omega) (by omega) h
    replace h := ifN h hk303
    by_cases hk312 : (i_and (sx a5.toNat) 63) = 36
    · have h := ifP h hk312
      refine vg_tabK (pc := 45) (kk := 36) (t := 2302) (dK D_Law_law_0 27 rfl) hk312 rfl rfl rfl rfl ?_
      exact tj_Law_law_2302 hfl hsn hc1 hc2 hc3 hc4 hx hr ih ha5 (by omega) (by omega) h
    replace h := ifN h hk312
    by_cases hk320 : (i_and (sx a5.toNat) 63) = 37
    · have h := ifP h hk320
      refine vg_tabK (pc := 45) (kk := 37) (t := 2358) (dK D_Law_law_0 27 rfl) hk320 rfl rfl rfl rfl ?_
      exact tj_Law_law_2358 hfl hsn hc1 hc2 hc3 hc4 hx hr ih ha5 (by omega) (by omega) h
    replace h := ifN h hk320
    by_cases hk324 : (i_and (sx a5.toNat) 63) = 38
    · have h := ifP h hk324
      refine vg_tabK (pc := 45) (kk := 38) (t := 2371) (dK D_Law_law_0 27 rfl) hk324 rfl rfl rfl rfl ?_
      exact tj_Law_law_2371 hfl hsn hc1 hc2 hc3 hc4 hx hr ih ha5 (by omega) (by omega) h
    replace h := ifN h hk324
    by_cases hk332 : (i_and (sx a5.toNat) 63) = 39
    · have h := ifP h hk332
      refine vg_tabK (pc := 45) (kk := 39) (t := 2427) (dK D_Law_law_0 27 rfl) hk332 rfl rfl rfl rfl ?_
      exact tj_Law_law_2427 hfl hsn hc1 hc2 hc3 hc4 hx hr ih ha5 (by omega) (by omega) h
    replace h := ifN h hk332
    by_cases hk336 : (i_and (sx a5.toNat) 63) = 40
    · have h := ifP h hk336
      refine vg_tabK (pc := 45) (kk := 40) (t := 2440) (dK D_Law_law_0 27 rfl) hk336 rfl rfl rfl rfl ?_
      exact tj_Law_law_2440 hfl hsn hc1 hc2 hc3 hc4 hx hr ih ha5 (by omega) (by omega) h
    replace h := ifN h hk336
    by_cases hk345 : (i_and (sx a5.toNat) 63) = 41
    · have h := ifP h hk345
      refine vg_tabK (pc := 45) (kk := 41) (t := 2508) (dK D_Law_law_0 27 rfl) hk345 rfl rfl rfl rfl ?_
      exact tj_Law_law_2508 hfl hsn hc1 hc2 hc3 hc4 hx hr ih ha5 (by omega) (by omega) h
    replace h := ifN h hk345
    by_cases hk353 : (i_and (sx a5.toNat) 63) = 42
    · have h := ifP h hk353
      refine vg_tabK (pc := 45) (kk := 42) (t := 2564) (dK D_Law_law_0 27 rfl) hk353 rfl rfl rfl rfl ?_
      exact tj_Law_law_2564 hfl hsn hc1 hc2 hc3 hc4 hx hr ih ha5 (by omega) (by omega) h
    replace h := ifN h hk353
    by_cases hk357 : (i_and (sx a5.toNat) 63) = 43
    · have h := ifP h hk357
      refine vg_tabK (pc := 45) (kk := 43) (t := 2577) (dK D_Law_law_0 27 rfl) hk357 rfl rfl rfl rfl ?_
      exact tj_Law_law_2577 hfl hsn hc1 hc2 hc3 hc4 hx hr ih ha5 (by omega) (by omega) h
    replace h := ifN h hk357
    by_cases hk365 : (i_and (sx a5.toNat) 63) = 44
    · have h := ifP h hk365
      refine vg_tabK (pc := 45) (kk := 44) (t := 2633) (dK D_Law_law_0 27 rfl) hk365 rfl rfl rfl rfl ?_
      exact tj_Law_law_2633 hfl hsn hc1 hc2 hc3 hc4 hx hr ih ha5 (by omega) (by omega) h
    replace h := ifN h hk365
    by_cases hk373 : (i_and (sx a5.toNat) 63) = 45
    · have h := ifP h hk373
      refine vg_tabK (pc := 45) (kk := 45) (t := 2689) (dK D_Law_law_0 27 rfl) hk373 rfl rfl rfl rfl ?_
      exact tj_Law_law_2689 hfl hsn hc1 hc2 hc3 hc4 hx hr ih ha5 (by omega) (by omega) h
    replace h := ifN h hk373
    by_cases hk377 : (i_and (sx a5.toNat) 63) = 46
    · have h := ifP h hk377
      refine vg_tabK (pc := 45) (kk := 46) (t := 2702) (dK D_Law_law_0 27 rfl) hk377 rfl rfl rfl rfl ?_
      exact tj_Law_law_2702 hfl hsn hc1 hc2 hc3 hc4 hx hr ih ha5 (by omega) (by omega) h
    replace h := ifN h hk377
    by_cases hk381 : (i_and (sx a5.toNat) 63) = 47
    · have h := ifP h hk381
      refine vg_tabK (pc := 45) (kk := 47) (t := 2715) (dK D_Law_law_0 27 rfl) hk381 rfl rfl rfl rfl ?_
      exact tj_Law_law_2715 hfl hsn hc1 hc2 hc3 hc4 hx hr ih ha5 (by omega) (by omega) h
    replace h := ifN h hk381
    by_cases hk386 : (i_and (sx a5.toNat) 63) = 48
    · have h := ifP h hk386
      refine vg_tabK (pc := 45) (kk := 48) (t := 2740) (dK D_Law_law_0 27 rfl) hk386 rfl rfl rfl rfl ?_
      exact tj_Law_law_2740 hfl hsn hc1 hc2 hc3 hc4 hx hr ih ha5 (by omega) (by omega) h
    replace h := ifN h hk386
    by_cases hk390 : (i_and (sx a5.toNat) 63) = 49
    · have h := ifP h hk390
      refine vg_tabK (pc := 45) (kk := 49) (t := 2753) (dK D_Law_law_0 27 rfl) hk390 rfl rfl rfl rfl ?_
      exact tj_Law_law_2753 hfl hsn hc1 hc2 hc3 hc4 hx hr ih ha5 (by omega) (by omega) h
    replace h := ifN h hk390
    by_cases hk394 : (i_and (sx a5.toNat) 63) = 50
    · have h := ifP h hk394
      refine vg_tabK (pc := 45) (kk := 50) (t := 2766) (dK D_Law_law_0 27 rfl) hk394 rfl rfl rfl rfl ?_
      exact tj_Law_law_2766 hfl hsn hc1 hc2 hc3 hc4 hx hr ih ha5 (by omega) (by omega) h
    replace h := ifN h hk394
    by_cases hk402 : (i_and (sx a5.toNat) 63) = 51
    · have h := ifP h hk402
      refine vg_tabK (pc := 45) (kk := 51) (t := 2822) (dK D_Law_law_0 27 rfl) hk402 rfl rfl rfl rfl ?_
      exact tj_Law_law_2822 hfl hsn hc1 hc2 hc3 hc4 hx hr ih ha5 (by omega) (by omega) h
    replace h := ifN h hk402
    by_cases hk407 : (i_and (sx a5.toNat) 63) = 52
    · have h := ifP h hk407
      refine vg_tabK (pc := 45) (kk := 52) (t := 2847) (dK D_Law_law_0 27 rfl) hk407 rfl rfl rfl rfl ?_
      exact tj_Law_law_2847 hfl hsn hc1 hc2 hc3 hc4 hx hr ih ha5 (by omega) (by omega) h
    replace h := ifN h hk407
    by_cases hk413 : (i_and (sx a5.toNat) 63) = 53
    · have h := ifP h hk413
      refine vg_tabK (pc := 45) (kk := 53) (t := 2888) (dK D_Law_law_0 27 rfl) hk413 rfl rfl rfl rfl ?_
      exact tj_Law_law_2888 hfl hsn hc1 hc2 hc3 hc4 hx hr ih ha5 (by omega) (by omega) h
    replace h := ifN h hk413
    by_cases hk422 : (i_and (sx a5.toNat) 63) = 54
    · have h := ifP h hk422
      refine vg_tabK (pc := 45) (kk := 54) (t := 2953) (dK D_Law_law_0 27 rfl) hk422 rfl rfl rfl rfl ?_
      exact tj_Law_law_2953 hfl hsn hc1 hc2 hc3 hc4 hx hr ih ha5 (by omega) (by omega) h
    replace h := ifN h hk422
    by_cases hk430 : (i_and (sx a5.toNat) 63) = 55
    · have h := ifP h hk430
      refine vg_tabK (pc := 45) (kk := 55) (t := 3009) (dK D_Law_law_0 27 rfl) hk430 rfl rfl rfl rfl ?_
      exact tj_Law_law_3009 hfl hsn hc1 hc2 hc3 hc4 hx hr ih ha5 (by omega) (by omega) h
    replace h := ifN h hk430
    by_cases hk435 : (i_and (sx a5.toNat) 63) = 56
    · have h := ifP h hk435
      refine vg_tabK (pc := 45) (kk := 56) (t := 3034) (dK D_Law_law_0 27 rfl) hk435 rfl rfl rfl rfl ?_
      exact tj_Law_law_3034 hfl hsn hc1 hc2 hc3 hc4 hx hr ih ha5 (by omega) (by omega) h
    replace h := ifN h hk435
    by_cases hk439 : (i_and (sx a5.toNat) 63) = 57
    · have h := ifP h hk439
      refine vg_tabK (pc := 45) (kk := 57) (t := 3047) (dK D_Law_law_0 27 rfl) hk439 rfl rfl rfl rfl ?_
      exact tj_Law_law_3047 hfl hsn hc1 hc2 hc3 hc4 hx hr ih ha5 (by omega) (by omega) h
    replace h := ifN h hk439
    by_cases hk443 : (i_and (sx a5.toNat) 63) = 58
    · have h := ifP h hk443
      refine vg_tabK (pc := 45) (kk := 58) (t := 3060) (dK D_Law_law_0 27 rfl) hk443 rfl rfl rfl rfl ?_
      exact tj_Law_law_3060 hfl hsn hc1 hc2 hc3 hc4 hx hr ih ha5 (by omega) (by omega) h
    replace h := ifN h hk443
    refine vg_tabD (pc := 45) (t := 3073) (lo := 0) (hi := 58) (dK D_Law_law_0 27 rfl) (toInt_in _) (by omega) rfl ?_
    exact tj_Law_law_3073 hfl hsn hc1 hc2 hc3 hc4 hx hr ih ha5 (by omega) (by omega) h
