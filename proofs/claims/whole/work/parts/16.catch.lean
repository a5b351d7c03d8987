
section VCatch
variable {E : EV} {Y Y' : MI} {mc ms mc' ms' pc k n i nA : Nat} {ls : List (Nat × Value)} {st As rest : List Value} {S S' : St} {K K' : RK → PS → Prop} {X : XT}
theorem wx_f {X : XT} (hfl : X.2.2.2 = false) (S : St) (b : Bool) : ((WX X S).1, (WX X S).2 && b) = WX X S := by
  unfold WX
  rw [hfl]; rfl
theorem wx_g {X : XT} (hfl : X.2.2.2 = false) (S : St) : ((WX X S).1, false) = WX X S := by
  unfold WX
  rw [hfl]
theorem kxI (hfl : X.2.2.2 = false) {r : Int} (h : inR r → Go E Y mc ms (pc + 3) ls (V r :: rest) (WX X S') k n K) : ∀ rk w, KI X r S' rk w → KX E Y mc ms pc ls rest false k n K rk w := by
  rintro _ _ ⟨rfl, h1, rfl⟩
  show Go E Y mc ms (pc + 3) ls (V r :: rest) ((WX X S').1, (WX X S').2 && false) k n K
  rw [wx_f hfl]
  exact h h1
theorem kxB (hfl : X.2.2.2 = false) {b : Bool} (h : Go E Y mc ms (pc + 3) ls (V (bi b) :: rest) (WX X S') k n K) : ∀ rk w, KB X b S' rk w → KX E Y mc ms pc ls rest false k n K rk w := by
  rintro _ _ ⟨rfl, rfl⟩
  show Go E Y mc ms (pc + 3) ls (V (bi b) :: rest) ((WX X S').1, (WX X S').2 && false) k n K
  rw [wx_f hfl]
  exact h
theorem kxD (hfl : X.2.2.2 = false) {r : UInt64} (h : Go E Y mc ms (pc + 3) ls (.double r :: rest) (WX X S') k n K) : ∀ rk w, KD X r S' rk w → KX E Y mc ms pc ls rest false k n K rk w := by
  rintro _ _ ⟨rfl, rfl⟩
  show Go E Y mc ms (pc + 3) ls (.double r :: rest) ((WX X S').1, (WX X S').2 && false) k n K
  rw [wx_f hfl]
  exact h
theorem kxT (hfl : X.2.2.2 = false) {e : Nat} (h0 : e = 0 → ∀ rk w, K' rk w → KX E Y mc ms pc ls rest false k n K rk w) (h1 : ¬ e = 0 → ∃ v : Int32, CT Y pc (exN e) v ∧ K (.inl (some (.int v))) (WX X S')) : ∀ rk w, KT X e S' K' rk w → KX E Y mc ms pc ls rest false k n K rk w := by
  intro rk w hq
  unfold KT at hq
  by_cases he : e = 0
  · rw [if_pos he] at hq; exact h0 he rk w hq
  · rw [if_neg he] at hq
    obtain ⟨rfl, rfl⟩ := hq
    obtain ⟨v, h2, h3⟩ := h1 he
    refine ⟨v, h2, ?_⟩
    rw [wx_g hfl]
    exact h3
theorem vg_cVX (hfl : X.2.2.2 = false) {b ci : Nat} (hd : decode (mBy Y) pc = .ok (.invokevirtual i, 3)) (hw : LV (mNm Y).cls i (RC ci) Y' nA) (hf : Fits Y Y') (hci : ci < 12) (hc : HC X ci b) (hA : As.length = nA) (hr8 : (rest.map fun v => v.category).sum ≤ 8) (hk : k + mc' ≤ mc) (hn : n + ms' ≤ ms)
    (hE : Ev E Y' (.ref b :: As) (WX X S) mc' ms' K') (hK : ∀ rk w, K' rk w → KX E Y mc ms pc ls rest false (k + mc') (n + ms') K rk w) : Go E Y mc ms pc ls (As.reverse ++ .ref b :: rest) (WX X S) k n K := by
  refine g_callVX hd hw hf hci hc.lt (hc.at S) hA hr8 hk hn (hE.mono ?_)
  have e : (WX X S).2 = false := hfl
  rw [e]
  exact hK
theorem EvH.mono {args : List Value} {w : PS} {mc ms : Nat} (hk : ∀ r S, K r S → K' r S) (h : EvH E Y args w mc ms K) : EvH E Y args w mc ms K' := by
  intro p e ha hc hkk s m args below hf happ hP hK
  obtain ⟨n, o, h1, h2, h3, h4⟩ := h p e ha hc hkk s m args below hf happ hP hK
  refine ⟨n, o, h1, h2, h3, ?_⟩
  rcases h4 with ⟨⟨⟨v, S', q1, q2, q3⟩, q4⟩, q5⟩ | ⟨q, q1, E1, ce, L, ⟨⟨S', q2, q3⟩, q4⟩, q5⟩
  · exact Or.inl ⟨⟨⟨v, S', q1, hk _ _ q2, q3⟩, q4⟩, q5⟩
  · exact Or.inr ⟨q, q1, E1, ce, L, ⟨⟨S', hk _ _ q2, q3⟩, q4⟩, q5⟩
/-- a contract that never throws, in the plain form -/
theorem vg_cSX (hd : decode (mBy Y) pc = .ok (.invokestatic i, 3)) (hw : LH (mNm Y).cls i Y' nA) (hf : Fits Y Y') (hA : As.length = nA) (hr8 : (rest.map fun v => v.category).sum ≤ 8) (hk : k + mc' ≤ mc) (hn : n + ms' ≤ ms)
    (hE : EvH E Y' As (WX X S) mc' ms' K') (hK : ∀ rk w, K' rk w → KC E Y mc ms (pc + 3) ls rest X.2.2.2 (k + mc') (n + ms') K rk w) : Go E Y mc ms pc ls (As.reverse ++ rest) (WX X S) k n K :=
  g_callSX hd hw hf hA hr8 hk hn (hE.mono hK)
end VCatch

theorem CT_Law_addAd_9_2 : CT M_Law_addAd 9 (exN 2) (Int32.ofInt 1) := ⟨[], [], (0, 14, 17, 13), "java/lang/IllegalArgumentException", 6, 19, 1, rfl, (fun _ h => absurd h List.not_mem_nil), by decide, by decide, q_922, List.mem_of_getElem? (i := 0) rfl, ltK rfl, .inl ⟨(dK D_Law_addAd 11 rfl), rfl⟩, (dK D_Law_addAd 12 rfl), rfl, (dK D_Law_addAd 13 rfl), rfl⟩
theorem CT_Law_setAd_7_2 : CT M_Law_setAd 7 (exN 2) (Int32.ofInt 2) := ⟨[(0, 19, 22, 19)], [], (0, 19, 26, 13), "java/lang/IllegalArgumentException", 5, 28, 2, rfl, List.forall_mem_cons.mpr ⟨⟨by decide, _, q_1003, List.mem_of_getElem? (i := 2) rfl⟩, (fun _ h => absurd h List.not_mem_nil)⟩, by decide, by decide, q_922, List.mem_of_getElem? (i := 0) rfl, ltK rfl, .inl ⟨(dK D_Law_setAd 16 rfl), rfl⟩, (dK D_Law_setAd 17 rfl), rfl, (dK D_Law_setAd 18 rfl), rfl⟩
theorem CT_Law_setAd_7_1 : CT M_Law_setAd 7 (exN 1) (Int32.ofInt 1) := ⟨[], [(0, 19, 26, 13)], (0, 19, 22, 19), "java/lang/IndexOutOfBoundsException", 5, 24, 1, rfl, (fun _ h => absurd h List.not_mem_nil), by decide, by decide, q_1003, List.mem_of_getElem? (i := 2) rfl, ltK rfl, .inl ⟨(dK D_Law_setAd 13 rfl), rfl⟩, (dK D_Law_setAd 14 rfl), rfl, (dK D_Law_setAd 15 rfl), rfl⟩
theorem CT_Law_setPrice_5_2 : CT M_Law_setPrice 5 (exN 2) (Int32.ofInt 2) := ⟨[(0, 10, 13, 19)], [], (0, 10, 17, 13), "java/lang/IllegalArgumentException", 4, 19, 2, rfl, List.forall_mem_cons.mpr ⟨⟨by decide, _, q_1003, List.mem_of_getElem? (i := 2) rfl⟩, (fun _ h => absurd h List.not_mem_nil)⟩, by decide, by decide, q_922, List.mem_of_getElem? (i := 0) rfl, ltK rfl, .inl ⟨(dK D_Law_setPrice 12 rfl), rfl⟩, (dK D_Law_setPrice 13 rfl), rfl, (dK D_Law_setPrice 14 rfl), rfl⟩
theorem CT_Law_setPrice_5_1 : CT M_Law_setPrice 5 (exN 1) (Int32.ofInt 1) := ⟨[], [(0, 10, 17, 13)], (0, 10, 13, 19), "java/lang/IndexOutOfBoundsException", 4, 15, 1, rfl, (fun _ h => absurd h List.not_mem_nil), by decide, by decide, q_1003, List.mem_of_getElem? (i := 2) rfl, ltK rfl, .inl ⟨(dK D_Law_setPrice 9 rfl), rfl⟩, (dK D_Law_setPrice 10 rfl), rfl, (dK D_Law_setPrice 11 rfl), rfl⟩
theorem CT_Law_ad_5_1 : CT M_Law_ad 5 (exN 1) (Int32.ofInt 1) := ⟨[], [], (0, 10, 13, 19), "java/lang/IndexOutOfBoundsException", 4, 15, 1, rfl, (fun _ h => absurd h List.not_mem_nil), by decide, by decide, q_1003, List.mem_of_getElem? (i := 2) rfl, ltK rfl, .inl ⟨(dK D_Law_ad 9 rfl), rfl⟩, (dK D_Law_ad 10 rfl), rfl, (dK D_Law_ad 11 rfl), rfl⟩
theorem CT_Law_story_5_1 : CT M_Law_story 5 (exN 1) (Int32.ofInt 1) := ⟨[], [], (0, 10, 13, 19), "java/lang/IndexOutOfBoundsException", 4, 15, 1, rfl, (fun _ h => absurd h List.not_mem_nil), by decide, by decide, q_1003, List.mem_of_getElem? (i := 2) rfl, ltK rfl, .inl ⟨(dK D_Law_story 9 rfl), rfl⟩, (dK D_Law_story 10 rfl), rfl, (dK D_Law_story 11 rfl), rfl⟩
theorem CT_Law_standby_5_1 : CT M_Law_standby 5 (exN 1) (Int32.ofInt 1) := ⟨[], [], (0, 10, 13, 19), "java/lang/IndexOutOfBoundsException", 4, 15, 1, rfl, (fun _ h => absurd h List.not_mem_nil), by decide, by decide, q_1003, List.mem_of_getElem? (i := 2) rfl, ltK rfl, .inl ⟨(dK D_Law_standby 9 rfl), rfl⟩, (dK D_Law_standby 10 rfl), rfl, (dK D_Law_standby 11 rfl), rfl⟩
theorem CT_Law_page_5_1 : CT M_Law_page 5 (exN 1) (Int32.ofInt 1) := ⟨[], [], (0, 10, 13, 19), "java/lang/IndexOutOfBoundsException", 4, 15, 1, rfl, (fun _ h => absurd h List.not_mem_nil), by decide, by decide, q_1003, List.mem_of_getElem? (i := 2) rfl, ltK rfl, .inl ⟨(dK D_Law_page 9 rfl), rfl⟩, (dK D_Law_page 10 rfl), rfl, (dK D_Law_page 11 rfl), rfl⟩
theorem CT_Law_adOn_5_1 : CT M_Law_adOn 5 (exN 1) (Int32.ofInt 1) := ⟨[], [], (0, 10, 13, 19), "java/lang/IndexOutOfBoundsException", 4, 15, 1, rfl, (fun _ h => absurd h List.not_mem_nil), by decide, by decide, q_1003, List.mem_of_getElem? (i := 2) rfl, ltK rfl, .inl ⟨(dK D_Law_adOn 9 rfl), rfl⟩, (dK D_Law_adOn 10 rfl), rfl, (dK D_Law_adOn 11 rfl), rfl⟩
theorem CT_Law_form_5_1 : CT M_Law_form 5 (exN 1) (Int32.ofInt 1) := ⟨[], [], (0, 10, 13, 19), "java/lang/IndexOutOfBoundsException", 4, 15, 1, rfl, (fun _ h => absurd h List.not_mem_nil), by decide, by decide, q_1003, List.mem_of_getElem? (i := 2) rfl, ltK rfl, .inl ⟨(dK D_Law_form 9 rfl), rfl⟩, (dK D_Law_form 10 rfl), rfl, (dK D_Law_form 11 rfl), rfl⟩
theorem CT_Law_pageOf_5_1 : CT M_Law_pageOf 5 (exN 1) (Int32.ofInt 1) := ⟨[], [], (0, 10, 13, 19), "java/lang/IndexOutOfBoundsException", 4, 15, 1, rfl, (fun _ h => absurd h List.not_mem_nil), by decide, by decide, q_1003, List.mem_of_getElem? (i := 2) rfl, ltK rfl, .inl ⟨(dK D_Law_pageOf 9 rfl), rfl⟩, (dK D_Law_pageOf 10 rfl), rfl, (dK D_Law_pageOf 11 rfl), rfl⟩
theorem CT_Law_reason_5_1 : CT M_Law_reason 5 (exN 1) (Int32.ofInt 1) := ⟨[], [], (0, 10, 13, 19), "java/lang/IndexOutOfBoundsException", 4, 15, 1, rfl, (fun _ h => absurd h List.not_mem_nil), by decide, by decide, q_1003, List.mem_of_getElem? (i := 2) rfl, ltK rfl, .inl ⟨(dK D_Law_reason 9 rfl), rfl⟩, (dK D_Law_reason 10 rfl), rfl, (dK D_Law_reason 11 rfl), rfl⟩
theorem CT_Law_storyReason_5_1 : CT M_Law_storyReason 5 (exN 1) (Int32.ofInt 1) := ⟨[], [], (0, 10, 13, 19), "java/lang/IndexOutOfBoundsException", 4, 15, 1, rfl, (fun _ h => absurd h List.not_mem_nil), by decide, by decide, q_1003, List.mem_of_getElem? (i := 2) rfl, ltK rfl, .inl ⟨(dK D_Law_storyReason 9 rfl), rfl⟩, (dK D_Law_storyReason 10 rfl), rfl, (dK D_Law_storyReason 11 rfl), rfl⟩
theorem CT_Law_put_5_1 : CT M_Law_put 5 (exN 1) (Int32.ofInt 1) := ⟨[], [], (0, 10, 13, 19), "java/lang/IndexOutOfBoundsException", 4, 15, 1, rfl, (fun _ h => absurd h List.not_mem_nil), by decide, by decide, q_1003, List.mem_of_getElem? (i := 2) rfl, ltK rfl, .inl ⟨(dK D_Law_put 9 rfl), rfl⟩, (dK D_Law_put 10 rfl), rfl, (dK D_Law_put 11 rfl), rfl⟩
theorem CT_Law_lay_5_1 : CT M_Law_lay 5 (exN 1) (Int32.ofInt 1) := ⟨[], [], (0, 10, 13, 19), "java/lang/IndexOutOfBoundsException", 4, 15, 1, rfl, (fun _ h => absurd h List.not_mem_nil), by decide, by decide, q_1003, List.mem_of_getElem? (i := 2) rfl, ltK rfl, .inl ⟨(dK D_Law_lay 9 rfl), rfl⟩, (dK D_Law_lay 10 rfl), rfl, (dK D_Law_lay 11 rfl), rfl⟩
theorem CT_Law_take_4_1 : CT M_Law_take 4 (exN 1) (Int32.ofInt 1) := ⟨[], [], (0, 16, 19, 19), "java/lang/IndexOutOfBoundsException", 3, 20, 1, rfl, (fun _ h => absurd h List.not_mem_nil), by decide, by decide, q_1003, List.mem_of_getElem? (i := 2) rfl, ltK rfl, .inr ⟨3, rfl, (dK D_Law_take 11 rfl), rfl⟩, (dK D_Law_take 12 rfl), rfl, (dK D_Law_take 13 rfl), rfl⟩
theorem CT_Law_takeStory_4_1 : CT M_Law_takeStory 4 (exN 1) (Int32.ofInt 1) := ⟨[], [], (0, 16, 19, 19), "java/lang/IndexOutOfBoundsException", 3, 20, 1, rfl, (fun _ h => absurd h List.not_mem_nil), by decide, by decide, q_1003, List.mem_of_getElem? (i := 2) rfl, ltK rfl, .inr ⟨3, rfl, (dK D_Law_takeStory 11 rfl), rfl⟩, (dK D_Law_takeStory 12 rfl), rfl, (dK D_Law_takeStory 13 rfl), rfl⟩
theorem CT_Law_use_5_1 : CT M_Law_use 5 (exN 1) (Int32.ofInt 1) := ⟨[], [], (0, 10, 13, 19), "java/lang/IndexOutOfBoundsException", 4, 15, 1, rfl, (fun _ h => absurd h List.not_mem_nil), by decide, by decide, q_1003, List.mem_of_getElem? (i := 2) rfl, ltK rfl, .inl ⟨(dK D_Law_use 9 rfl), rfl⟩, (dK D_Law_use 10 rfl), rfl, (dK D_Law_use 11 rfl), rfl⟩
theorem CT_Law_clear_4_1 : CT M_Law_clear 4 (exN 1) (Int32.ofInt 1) := ⟨[], [], (0, 9, 12, 19), "java/lang/IndexOutOfBoundsException", 3, 13, 1, rfl, (fun _ h => absurd h List.not_mem_nil), by decide, by decide, q_1003, List.mem_of_getElem? (i := 2) rfl, ltK rfl, .inr ⟨3, rfl, (dK D_Law_clear 8 rfl), rfl⟩, (dK D_Law_clear 9 rfl), rfl, (dK D_Law_clear 10 rfl), rfl⟩
theorem CT_Law_exchange_5_1 : CT M_Law_exchange 5 (exN 1) (Int32.ofInt 1) := ⟨[], [], (0, 10, 13, 19), "java/lang/IndexOutOfBoundsException", 4, 15, 1, rfl, (fun _ h => absurd h List.not_mem_nil), by decide, by decide, q_1003, List.mem_of_getElem? (i := 2) rfl, ltK rfl, .inl ⟨(dK D_Law_exchange 9 rfl), rfl⟩, (dK D_Law_exchange 10 rfl), rfl, (dK D_Law_exchange 11 rfl), rfl⟩
theorem CT_Law_setColor_5_1 : CT M_Law_setColor 5 (exN 1) (Int32.ofInt 1) := ⟨[], [], (0, 17, 20, 19), "java/lang/IndexOutOfBoundsException", 4, 22, 1, rfl, (fun _ h => absurd h List.not_mem_nil), by decide, by decide, q_1003, List.mem_of_getElem? (i := 2) rfl, ltK rfl, .inl ⟨(dK D_Law_setColor 12 rfl), rfl⟩, (dK D_Law_setColor 13 rfl), rfl, (dK D_Law_setColor 14 rfl), rfl⟩
theorem CT_Law_setClosing_5_2 : CT M_Law_setClosing 5 (exN 2) (Int32.ofInt 2) := ⟨[(0, 10, 13, 19)], [], (0, 10, 17, 13), "java/lang/IllegalArgumentException", 4, 19, 2, rfl, List.forall_mem_cons.mpr ⟨⟨by decide, _, q_1003, List.mem_of_getElem? (i := 2) rfl⟩, (fun _ h => absurd h List.not_mem_nil)⟩, by decide, by decide, q_922, List.mem_of_getElem? (i := 0) rfl, ltK rfl, .inl ⟨(dK D_Law_setClosing 12 rfl), rfl⟩, (dK D_Law_setClosing 13 rfl), rfl, (dK D_Law_setClosing 14 rfl), rfl⟩
theorem CT_Law_setClosing_5_1 : CT M_Law_setClosing 5 (exN 1) (Int32.ofInt 1) := ⟨[], [(0, 10, 17, 13)], (0, 10, 13, 19), "java/lang/IndexOutOfBoundsException", 4, 15, 1, rfl, (fun _ h => absurd h List.not_mem_nil), by decide, by decide, q_1003, List.mem_of_getElem? (i := 2) rfl, ltK rfl, .inl ⟨(dK D_Law_setClosing 9 rfl), rfl⟩, (dK D_Law_setClosing 10 rfl), rfl, (dK D_Law_setClosing 11 rfl), rfl⟩
theorem CT_Law_pass_4_2 : CT M_Law_pass 4 (exN 2) (Int32.ofInt 1) := ⟨[], [], (0, 9, 12, 13), "java/lang/IllegalArgumentException", 3, 13, 1, rfl, (fun _ h => absurd h List.not_mem_nil), by decide, by decide, q_922, List.mem_of_getElem? (i := 0) rfl, ltK rfl, .inr ⟨3, rfl, (dK D_Law_pass 8 rfl), rfl⟩, (dK D_Law_pass 9 rfl), rfl, (dK D_Law_pass 10 rfl), rfl⟩
theorem CT_Law_print_4_1 : CT M_Law_print 4 (exN 1) (Int32.ofInt 1) := ⟨[], [], (0, 9, 12, 19), "java/lang/IndexOutOfBoundsException", 3, 13, 1, rfl, (fun _ h => absurd h List.not_mem_nil), by decide, by decide, q_1003, List.mem_of_getElem? (i := 2) rfl, ltK rfl, .inr ⟨3, rfl, (dK D_Law_print 8 rfl), rfl⟩, (dK D_Law_print 9 rfl), rfl, (dK D_Law_print 10 rfl), rfl⟩
theorem CT_Law_choices_4_1 : CT M_Law_choices 4 (exN 1) (Int32.ofInt 1) := ⟨[], [], (0, 9, 12, 19), "java/lang/IndexOutOfBoundsException", 3, 13, 1, rfl, (fun _ h => absurd h List.not_mem_nil), by decide, by decide, q_1003, List.mem_of_getElem? (i := 2) rfl, ltK rfl, .inr ⟨3, rfl, (dK D_Law_choices 8 rfl), rfl⟩, (dK D_Law_choices 9 rfl), rfl, (dK D_Law_choices 10 rfl), rfl⟩
theorem CT_Law_firstPage_5_1 : CT M_Law_firstPage 5 (exN 1) (Int32.ofInt 1) := ⟨[], [], (0, 10, 13, 19), "java/lang/IndexOutOfBoundsException", 4, 15, 1, rfl, (fun _ h => absurd h List.not_mem_nil), by decide, by decide, q_1003, List.mem_of_getElem? (i := 2) rfl, ltK rfl, .inl ⟨(dK D_Law_firstPage 9 rfl), rfl⟩, (dK D_Law_firstPage 10 rfl), rfl, (dK D_Law_firstPage 11 rfl), rfl⟩
theorem CT_Law_eviction_5_1 : CT M_Law_eviction 5 (exN 1) (Int32.ofInt 1) := ⟨[], [], (0, 10, 13, 19), "java/lang/IndexOutOfBoundsException", 4, 15, 1, rfl, (fun _ h => absurd h List.not_mem_nil), by decide, by decide, q_1003, List.mem_of_getElem? (i := 2) rfl, ltK rfl, .inl ⟨(dK D_Law_eviction 9 rfl), rfl⟩, (dK D_Law_eviction 10 rfl), rfl, (dK D_Law_eviction 11 rfl), rfl⟩
theorem CT_Law_cheapestPage_4_1 : CT M_Law_cheapestPage 4 (exN 1) (Int32.ofInt 1) := ⟨[], [], (0, 9, 12, 19), "java/lang/IndexOutOfBoundsException", 3, 13, 1, rfl, (fun _ h => absurd h List.not_mem_nil), by decide, by decide, q_1003, List.mem_of_getElem? (i := 2) rfl, ltK rfl, .inr ⟨3, rfl, (dK D_Law_cheapestPage 8 rfl), rfl⟩, (dK D_Law_cheapestPage 9 rfl), rfl, (dK D_Law_cheapestPage 10 rfl), rfl⟩
theorem CT_Law_bestColor_4_2 : CT M_Law_bestColor 4 (exN 2) (Int32.ofInt 1) := ⟨[], [], (0, 9, 12, 13), "java/lang/IllegalArgumentException", 3, 13, 1, rfl, (fun _ h => absurd h List.not_mem_nil), by decide, by decide, q_922, List.mem_of_getElem? (i := 0) rfl, ltK rfl, .inr ⟨3, rfl, (dK D_Law_bestColor 8 rfl), rfl⟩, (dK D_Law_bestColor 9 rfl), rfl, (dK D_Law_bestColor 10 rfl), rfl⟩
theorem CT_Law_groupOn_5_2 : CT M_Law_groupOn 5 (exN 2) (Int32.ofInt 1) := ⟨[], [], (0, 10, 13, 13), "java/lang/IllegalArgumentException", 4, 15, 1, rfl, (fun _ h => absurd h List.not_mem_nil), by decide, by decide, q_922, List.mem_of_getElem? (i := 0) rfl, ltK rfl, .inl ⟨(dK D_Law_groupOn 9 rfl), rfl⟩, (dK D_Law_groupOn 10 rfl), rfl, (dK D_Law_groupOn 11 rfl), rfl⟩
theorem CT_Law_spreadsOf_4_2 : CT M_Law_spreadsOf 4 (exN 2) (Int32.ofInt 1) := ⟨[], [], (0, 9, 12, 13), "java/lang/IllegalArgumentException", 3, 13, 1, rfl, (fun _ h => absurd h List.not_mem_nil), by decide, by decide, q_922, List.mem_of_getElem? (i := 0) rfl, ltK rfl, .inr ⟨3, rfl, (dK D_Law_spreadsOf 8 rfl), rfl⟩, (dK D_Law_spreadsOf 9 rfl), rfl, (dK D_Law_spreadsOf 10 rfl), rfl⟩
theorem CT_Law_revenueOf_4_1 : CT M_Law_revenueOf 4 (exN 1) (Int32.ofInt 1) := ⟨[], [], (0, 9, 12, 19), "java/lang/IndexOutOfBoundsException", 3, 13, 1, rfl, (fun _ h => absurd h List.not_mem_nil), by decide, by decide, q_1003, List.mem_of_getElem? (i := 2) rfl, ltK rfl, .inr ⟨3, rfl, (dK D_Law_revenueOf 8 rfl), rfl⟩, (dK D_Law_revenueOf 9 rfl), rfl, (dK D_Law_revenueOf 10 rfl), rfl⟩
theorem CT_Law_revenueOfGroup_4_2 : CT M_Law_revenueOfGroup 4 (exN 2) (Int32.ofInt 1) := ⟨[], [], (0, 9, 12, 13), "java/lang/IllegalArgumentException", 3, 13, 1, rfl, (fun _ h => absurd h List.not_mem_nil), by decide, by decide, q_922, List.mem_of_getElem? (i := 0) rfl, ltK rfl, .inr ⟨3, rfl, (dK D_Law_revenueOfGroup 8 rfl), rfl⟩, (dK D_Law_revenueOfGroup 9 rfl), rfl, (dK D_Law_revenueOfGroup 10 rfl), rfl⟩
theorem CT_Law_emptyRun_4_2 : CT M_Law_emptyRun 4 (exN 2) (Int32.ofInt 1) := ⟨[], [], (0, 9, 12, 13), "java/lang/IllegalArgumentException", 3, 13, 1, rfl, (fun _ h => absurd h List.not_mem_nil), by decide, by decide, q_922, List.mem_of_getElem? (i := 0) rfl, ltK rfl, .inr ⟨3, rfl, (dK D_Law_emptyRun 8 rfl), rfl⟩, (dK D_Law_emptyRun 9 rfl), rfl, (dK D_Law_emptyRun 10 rfl), rfl⟩
theorem CT_Law_quarterPrice_3_3 : CT M_Law_quarterPrice 3 (exN 3) (Int32.ofInt 1) := ⟨[], [], (0, 7, 10, 122), "java/lang/ArithmeticException", 2, 11, 1, rfl, (fun _ h => absurd h List.not_mem_nil), by decide, by decide, q_1399, List.mem_of_getElem? (i := 3) rfl, ltK rfl, .inr ⟨2, rfl, (dK D_Law_quarterPrice 6 rfl), rfl⟩, (dK D_Law_quarterPrice 7 rfl), rfl, (dK D_Law_quarterPrice 8 rfl), rfl⟩
theorem CT_Law_describe_4_1 : CT M_Law_describe 4 (exN 1) (Int32.ofInt 1) := ⟨[], [], (0, 9, 12, 19), "java/lang/IndexOutOfBoundsException", 3, 13, 1, rfl, (fun _ h => absurd h List.not_mem_nil), by decide, by decide, q_1003, List.mem_of_getElem? (i := 2) rfl, ltK rfl, .inr ⟨3, rfl, (dK D_Law_describe 8 rfl), rfl⟩, (dK D_Law_describe 9 rfl), rfl, (dK D_Law_describe 10 rfl), rfl⟩
