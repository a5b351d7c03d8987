def strT : List (String × Nat × String) := [("FlatPlan", 365, "no such ad"), ("FlatPlan", 368, "no such story"), ("FlatPlan", 370, "no such standby"), ("FlatPlan", 375, "no such page"), ("FlatPlan", 345, "no ad is placed"), ("FlatPlan", 318, "a run has 1 to 64 pages"), ("FlatPlan", 377, "no such form"), ("FlatPlan", 304, "1 to 8 forms can be asked for"), ("FlatPlan", 379, "a group is 0 to 9"), ("FlatPlan", 332, "no such spread"), ("java/util/ArrayList", 201, "Index: "), ("java/util/ArrayList", 203, ", Size: "), ("FlatPlan", 270, "a closing time is 1 to 9999"), ("FlatPlan", 275, "1 to 500 hours can pass"), ("FlatPlan", 150, "no such ad can be added"), ("FlatPlan", 165, "a side is 0 to 2"), ("FlatPlan", 171, "a price is 1 to 999"), ("java/lang/StringLatin1", 151, ""), ("java/lang/StringUTF16", 295, "")]
def litT : List (String × Nat × String × Nat) := [("FlatPlan$Reader", 48, "plan", 0), ("FlatPlan$Reader", 75, "color", 1), ("FlatPlan$Reader", 80, "ad", 2), ("FlatPlan$Reader", 85, "story", 3), ("FlatPlan$Reader", 90, "standby", 4), ("FlatPlan$Reader", 95, "close", 5), ("FlatPlan$Reader", 100, "put", 6), ("FlatPlan$Reader", 105, "lay", 7), ("FlatPlanLaw", 161, "", 8), ("FlatPlanLaw", 166, " s", 9), ("FlatPlanLaw", 193, " a", 10), ("FlatPlanLaw", 195, " b", 11), ("FlatPlanLaw", 197, " +", 12), ("FlatPlanLaw", 366, "plan ", 13), ("FlatPlanLaw", 368, " ", 14), ("FlatPlanLaw", 370, ";", 15), ("FlatPlanLaw", 372, "color ", 16), ("FlatPlanLaw", 374, " ;", 17), ("FlatPlanLaw", 381, "ad ", 18), ("FlatPlanLaw", 384, "story ", 19), ("FlatPlanLaw", 387, "standby ", 20), ("FlatPlanLaw", 389, "close ", 21), ("FlatPlanLaw", 391, "put ", 22), ("FlatPlanLaw", 494, "?", 23), ("java/lang/StringLatin1", 151, "", 8)]
def nLit : Nat := 24
def lenS : List Nat := [4, 5, 2, 5, 7, 5, 3, 3, 0, 2, 2, 2, 2, 5, 1, 1, 6, 2, 3, 6, 8, 6, 4, 1]
def bytS : List (List Int32) := [[112, 108, 97, 110], [99, 111, 108, 111, 114], [97, 100], [115, 116, 111, 114, 121], [115, 116, 97, 110, 100, 98, 121], [99, 108, 111, 115, 101], [112, 117, 116], [108, 97, 121], [], [32, 115], [32, 97], [32, 98], [32, 43], [112, 108, 97, 110, 32], [32], [59], [99, 111, 108, 111, 114, 32], [32, 59], [97, 100, 32], [115, 116, 111, 114, 121, 32], [115, 116, 97, 110, 100, 98, 121, 32], [99, 108, 111, 115, 101, 32], [112, 117, 116, 32], [63]]
def nestT : List (String × Nat × MethodName × String) := [("FlatPlan", 9, ⟨"FlatPlan$Reader", "<init>", "()V"⟩, "FlatPlan"), ("FlatPlan$Plan", 11, ⟨"FlatPlan$State", "<init>", "()V"⟩, "FlatPlan"), ("FlatPlan$State", 9, ⟨"FlatPlan$Ads", "<init>", "()V"⟩, "FlatPlan"), ("FlatPlan$State", 18, ⟨"FlatPlan$Stories", "<init>", "()V"⟩, "FlatPlan"), ("FlatPlan$State", 25, ⟨"FlatPlan$Standbys", "<init>", "()V"⟩, "FlatPlan"), ("FlatPlan$State", 32, ⟨"FlatPlan$Forms", "<init>", "()V"⟩, "FlatPlan"), ("FlatPlan", 25, ⟨"FlatPlan$Searches", "<init>", "()V"⟩, "FlatPlan"), ("FlatPlan$History", 17, ⟨"FlatPlan$State", "<init>", "()V"⟩, "FlatPlan"), ("FlatPlan$Reader", 185, ⟨"FlatPlan", "isSize", "(I)Z"⟩, "FlatPlan"), ("FlatPlanLaw", 458, ⟨"FlatPlanLaw$Plan", "<init>", "()V"⟩, "FlatPlanLaw"), ("FlatPlanLaw", 376, ⟨"FlatPlanLaw$Item", "<init>", "()V"⟩, "FlatPlanLaw")]
def castT : List (String × String) := [("java/util/ArrayList$Itr", "java/util/Iterator"), ("[Z", "java/lang/Cloneable"), ("[I", "java/lang/Cloneable"), ("java/lang/IndexOutOfBoundsException", "java/lang/IndexOutOfBoundsException"), ("java/lang/ArrayIndexOutOfBoundsException", "java/lang/ArrayIndexOutOfBoundsException"), ("java/lang/ArithmeticException", "java/lang/ArithmeticException"), ("[B", "java/lang/Cloneable"), ("java/lang/IllegalArgumentException", "java/lang/IllegalArgumentException"), ("java/lang/ArrayIndexOutOfBoundsException", "java/lang/IndexOutOfBoundsException"), ("FlatPlan$State", "java/lang/Object"), ("java/lang/Integer", "java/lang/Object"), ("FlatPlan", "java/lang/Object"), ("FlatPlan$Reader", "java/lang/Object"), ("FlatPlan$Bytes", "java/lang/Object"), ("FlatPlan$Plan", "java/lang/Object"), ("FlatPlan$Ads", "java/lang/Object"), ("FlatPlan$Stories", "java/lang/Object"), ("FlatPlan$Standbys", "java/lang/Object"), ("FlatPlan$Forms", "java/lang/Object"), ("FlatPlan$Searches", "java/lang/Object"), ("FlatPlan$History", "java/lang/Object"), ("FlatPlanLaw$Plan", "java/lang/Object"), ("java/util/ArrayList", "java/lang/Object"), ("java/lang/IndexOutOfBoundsException", "java/lang/Object"), ("java/lang/ArrayIndexOutOfBoundsException", "java/lang/Object"), ("java/lang/ArithmeticException", "java/lang/Object"), ("java/lang/StringBuilder", "java/lang/Object"), ("java/lang/String", "java/lang/Object"), ("java/util/ArrayList$Itr", "java/lang/Object"), ("java/lang/IllegalArgumentException", "java/lang/Object"), ("FlatPlanLaw$Item", "java/lang/Object"), ("java/lang/Throwable", "java/lang/Object"), ("[I", "java/lang/Object"), ("[LFlatPlan$State;", "java/lang/Object"), ("[B", "java/lang/Object"), ("[Z", "java/lang/Object"), ("[Ljava/lang/Object;", "java/lang/Object")]
def ncT : List (String × String) := [("java/lang/ArithmeticException", "java/lang/IndexOutOfBoundsException"), ("java/lang/IllegalArgumentException", "java/lang/IndexOutOfBoundsException"), ("java/lang/IndexOutOfBoundsException", "java/lang/ArithmeticException"), ("java/lang/IllegalArgumentException", "java/lang/ArithmeticException"), ("java/lang/IndexOutOfBoundsException", "FlatPlan$State"), ("java/lang/ArithmeticException", "FlatPlan$State"), ("java/lang/IllegalArgumentException", "FlatPlan$State")]
def privT : List MethodName := [⟨"java/util/Iterator", "hasNext", "()Z"⟩, ⟨"java/util/Iterator", "next", "()Ljava/lang/Object;"⟩, ⟨"java/lang/RuntimeException", "<init>", "()V"⟩, ⟨"java/lang/RuntimeException", "<init>", "(Ljava/lang/String;)V"⟩, ⟨"java/lang/Exception", "<init>", "()V"⟩, ⟨"java/lang/Exception", "<init>", "(Ljava/lang/String;)V"⟩, ⟨"java/lang/Throwable", "<init>", "()V"⟩, ⟨"java/lang/Throwable", "<init>", "(Ljava/lang/String;)V"⟩, ⟨"java/lang/IndexOutOfBoundsException", "<init>", "()V"⟩, ⟨"java/lang/IndexOutOfBoundsException", "<init>", "(Ljava/lang/String;)V"⟩, ⟨"java/lang/Object", "getClass", "()Ljava/lang/Class;"⟩]
/-! THE PURE PICTURE. A world is a list of cells, each a kind and its values; a reference is a cell's place in the list. Every cell of the run lies at b0 + its place.
References from XB on lie outside of the world: text constants, their bytes, the script. -/
abbrev PC : Type := Nat × List Value
abbrev PS : Type := List PC × Bool
abbrev MI : Type := MethodName × ByteArray × Nat × Option FieldType × List (Nat × Nat × Nat × Nat) × Nat × Nat
abbrev mNm (Y : MI) : MethodName := Y.1
abbrev mBy (Y : MI) : ByteArray := Y.2.1
abbrev mLo (Y : MI) : Nat := Y.2.2.1
abbrev mRt (Y : MI) : Option FieldType := Y.2.2.2.1
abbrev mHh (Y : MI) : List (Nat × Nat × Nat × Nat) := Y.2.2.2.2.1
abbrev mFr (Y : MI) : Nat := Y.2.2.2.2.2.1
abbrev mWd (Y : MI) : Nat := Y.2.2.2.2.2.2
abbrev EV : Type := Launch × Nat × va_G × (Nat → ClassId) × (Nat → Nat) × (Nat → Nat) × Nat × Nat × (Nat → Int32) × (Nat → Nat)
abbrev eL (E : EV) : Launch := E.1
abbrev eB (E : EV) : Nat := E.2.1
abbrev eD (E : EV) : va_G := E.2.2.1
abbrev eC (E : EV) : Nat → ClassId := E.2.2.2.1
abbrev eK (E : EV) : Nat → Nat := E.2.2.2.2.1
abbrev eV (E : EV) : Nat → Nat := E.2.2.2.2.2.1
abbrev eSb (E : EV) : Nat := E.2.2.2.2.2.2.1
abbrev eSl (E : EV) : Nat := E.2.2.2.2.2.2.2.1
def XB : Nat := 1000000000
abbrev eSx (E : EV) : Nat → Int32 := E.2.2.2.2.2.2.2.2.1
/-- the cells' addresses -/
abbrev eAd (E : EV) : Nat → Nat := E.2.2.2.2.2.2.2.2.2
abbrev eP (E : EV) (a : Nat) : Nat := eAd E a
def eA (E : EV) : Nat → Prop := fun q => eB E ≤ q
def gA (E : EV) (a : Nat) : Nat := if a < XB then eP E a else if a < XB + 100 then eK E (a - XB) else if a < XB + 200 then eV E (a - (XB + 100)) else if a < XB + 300 then eSb E else if a < XB + 1000 then eK E (a - (XB + 200)) else a - (XB + 1000)
def gV (E : EV) : Value → Value
  | .ref a => .ref (gA E a)
  | v => v
def aT : Nat → FieldType
  | 0 => .int
  | 1 => .byte
  | 2 => .boolean
  | 3 => .object "java/lang/Object"
  | 4 => .int
  | _ => .object "FlatPlan$State"
def eT (E : EV) : List (ClassId × FieldType) := [(eC E 0, aT 0), (eC E 1, aT 1), (eC E 2, aT 2), (eC E 3, aT 3), (eC E 4, aT 4), (eC E 5, aT 5)]
def vInt : Value → Int32
  | .int x => x
  | _ => 0
def vLong : Value → Int64
  | .long x => x
  | _ => 0
def vDbl : Value → UInt64
  | .double x => x
  | _ => 0
def vRef (E : EV) : Value → Option Nat
  | .ref a => some (gA E a)
  | _ => none
def arrE (E : EV) (t : Nat) (vs : List Value) : (Nat → Int32) ⊕ (Nat → Int64) ⊕ (Nat → UInt32) ⊕ (Nat → UInt64) ⊕ (Nat → Option Nat) := match t with
  | 0 => .inl (fun j => vInt (vs.getD j .null))
  | 1 => .inl (fun j => vInt (vs.getD j .null))
  | 2 => .inl (fun j => vInt (vs.getD j .null))
  | _ => .inr (.inr (.inr (.inr (fun j => vRef E (vs.getD j .null)))))
def cE (E : EV) (c : PC) : va_E := if c.1 < 100 then .inr (c.1, c.2.map (gV E)) else .inl (eC E (c.1 - 100), c.2.length, arrE E (c.1 - 100) c.2)
/-- a cell of the kinds from 900 on stands for no cell -/
abbrev kp (q : PC × Nat) : Bool := decide (q.1.1 < 900)
def cW (E : EV) (w : List PC) : va_W := (w.zipIdx.filter (kp)).map (fun q => (eP E q.2, cE E q.1))
def cX (w : List PC) (a : Nat) : Nat := ((w.zipIdx.take a).filter (kp)).length
theorem fl_at {α : Type} {p : α → Bool} : ∀ {l : List α} {a : Nat} {x : α}, l[a]? = some x → p x = true → (l.filter p)[((l.take a).filter p).length]? = some x
  | [], _, _, h, _ => by simp at h
  | y :: l, 0, x, h, hp => by
    have e : y = x := by simpa using h
    subst e
    rw [List.filter_cons_of_pos hp]; rfl
  | y :: l, a + 1, x, h, hp => by
    have q := fl_at (l := l) (a := a) (by simpa using h) hp
    rw [List.take_succ_cons]
    by_cases c : p y = true
    · rw [List.filter_cons_of_pos c, List.filter_cons_of_pos c, List.length_cons, List.getElem?_cons_succ]; exact q
    · rw [List.filter_cons_of_neg c, List.filter_cons_of_neg c]; exact q
theorem fl_set {α : Type} {p : α → Bool} {y : α} (hy : p y = true) : ∀ {l : List α} {a : Nat} {x : α}, l[a]? = some x → p x = true → (l.filter p).set (((l.take a).filter p).length) y = (l.set a y).filter p
  | [], _, _, h, _ => by simp at h
  | z :: l, 0, x, h, hp => by
    have e : z = x := by simpa using h
    subst e
    rw [List.filter_cons_of_pos hp, List.set_cons_zero, List.filter_cons_of_pos hy]; rfl
  | z :: l, a + 1, x, h, hp => by
    have q := fl_set hy (l := l) (a := a) (by simpa using h) hp
    rw [List.take_succ_cons, List.set_cons_succ]
    by_cases c : p z = true
    · rw [List.filter_cons_of_pos c, List.filter_cons_of_pos c, List.filter_cons_of_pos c, List.length_cons, List.set_cons_succ, q]
    · rw [List.filter_cons_of_neg c, List.filter_cons_of_neg c, List.filter_cons_of_neg c, q]
theorem zi_at {w : List PC} {a : Nat} {c : PC} (h : w[a]? = some c) : w.zipIdx[a]? = some (c, a) := by
  rw [List.getElem?_zipIdx, h]
  simp
theorem zi_set {w : List PC} {a : Nat} {c : PC} : w.zipIdx.set a (c, a) = (w.set a c).zipIdx := by
  apply List.ext_getElem?
  intro j
  rw [List.getElem?_set]
  simp only [List.getElem?_zipIdx, List.length_zipIdx, List.getElem?_set]
  by_cases hj : a = j
  · subst hj
    by_cases hl : a < w.length
    · simp [hl]
    · simp [hl]
  · simp [hj]
theorem kp_of {c : PC} {a : Nat} (h : c.1 < 900) : kp (c, a) = true := decide_eq_true h
theorem cW_at {E : EV} {w : List PC} {a : Nat} {c : PC} (h : w[a]? = some c) (hk : c.1 < 900) : (cW E w)[cX w a]? = some (eP E a, cE E c) := by
  unfold cW cX
  rw [List.getElem?_map, fl_at (zi_at h) (kp_of hk)]
  rfl
theorem cW_set {E : EV} {w : List PC} {a : Nat} {c c' : PC} (h : w[a]? = some c) (hk : c.1 < 900) (hk' : c'.1 < 900) : (cW E w).set (cX w a) (eP E a, cE E c') = cW E (w.set a c') := by
  unfold cW cX
  rw [← zi_set, ← fl_set (y := (c', a)) (kp_of hk') (zi_at h) (kp_of hk), List.map_set]
theorem gA_in {E : EV} {a : Nat} (h : a < XB) : gA E a = eP E a := by unfold gA; rw [if_pos h]
theorem gV_cat (E : EV) (v : Value) : (gV E v).category = v.category := by cases v <;> rfl
theorem gV_cats (E : EV) (l : List Value) : ((l.map (gV E)).map fun v => v.category) = l.map fun v => v.category := by
  rw [List.map_map]
  exact List.map_congr_left (fun v _ => gV_cat E v)
theorem cW_mem {E : EV} {w : List PC} {k : Nat} {q : Nat × va_E} (h : (cW E w)[k]? = some q) : ∃ a c, w[a]? = some c ∧ q = (eP E a, cE E c) := by
  have hm := List.mem_of_getElem? h
  unfold cW at hm
  obtain ⟨r, hr, rfl⟩ := List.mem_map.mp hm
  exact ⟨r.2, r.1, List.mem_zipIdx_iff_getElem?.mp (List.mem_filter.mp hr).1, rfl⟩
/-- the heap H holds the world, its cells apart and in the region -/
def Rep (E : EV) (S : PS) (_ : Nat) (H : Heap) : Prop := va_P (eD E) CL (cW E S.1) H ∧ va_D (eA E) (cW E S.1)
/-! what the launch and the tables give: the classes, the static cells, the text constants, the script -/
def asbT : List MethodName := [⟨"java/lang/AbstractStringBuilder", "appendNull", "()Ljava/lang/AbstractStringBuilder;"⟩, ⟨"java/lang/AbstractStringBuilder", "ensureCapacityInternal", "(I)V"⟩, ⟨"java/lang/AbstractStringBuilder", "inflate", "()V"⟩, ⟨"java/lang/AbstractStringBuilder", "inflateIfNeededFor", "(Ljava/lang/String;)V"⟩, ⟨"java/lang/AbstractStringBuilder", "newCapacity", "(I)I"⟩, ⟨"java/lang/AbstractStringBuilder", "putStringAt", "(ILjava/lang/String;)V"⟩]
def itT : List (MethodName × MethodName) := [(⟨"java/util/Iterator", "hasNext", "()Z"⟩, ⟨"java/util/ArrayList$Itr", "hasNext", "()Z"⟩), (⟨"java/util/Iterator", "next", "()Ljava/lang/Object;"⟩, ⟨"java/util/ArrayList$Itr", "next", "()Ljava/lang/Object;"⟩)]
theorem itT_ok : ∀ q ∈ itT, q.1.cls ≠ "java/lang/invoke/MethodHandle" ∧ q.1.cls ≠ "java/lang/invoke/VarHandle" := by decide +kernel
theorem va_Nw.good {w : Cond} (hw : goodWord w = true) {s U : State} (hW : s.WarmedH U.vm) (h : va_Nw w s) : va_Nw w U := word_at hW (good_of_word hw) h
/-- what the JDK's own code finds: its empty row of objects, its digits, the small boxes -/
def EnvJ (E : EV) (s : State) : Prop :=
  (va_AO "java/lang/Object" s ∧ va_Mi "[Ljava/lang/Object;" (eK E 404) s ∧ va_Dc s) ∧
  (va_Z "java/util/ArrayList" "DEFAULTCAPACITY_EMPTY_ELEMENTDATA" "[Ljava/lang/Object;" (.ref (eK E 400)) (eA E) s s.heap ∧ va_T (.object "java/lang/Object") (eK E 400) 0 (fun _ => .null) (eA E) s s.heap) ∧
  (va_Z "java/lang/Integer" "DigitOnes" "[B" (.ref (eK E 401)) (eA E) s s.heap ∧ va_T .byte (eK E 401) 100 (fun j => .int (Int32.ofNat (48 + j % 10))) (eA E) s s.heap) ∧
  (va_Z "java/lang/Integer" "DigitTens" "[B" (.ref (eK E 402)) (eA E) s s.heap ∧ va_T .byte (eK E 402) 100 (fun j => .int (Int32.ofNat (48 + j / 10))) (eA E) s s.heap) ∧
  (va_Z "java/lang/Integer$IntegerCache" "cache" "[Ljava/lang/Integer;" (.ref (eK E 403)) (eA E) s s.heap ∧ va_T (.object "java/lang/Integer") (eK E 403) 256 (fun j => .ref (eK E (100 + j))) (eA E) s s.heap ∧ vb_C (fun j => eK E (100 + j)) (eA E) s s.heap) ∧
  va_Z "java/lang/Integer$IntegerCache" "high" "I" (.int 127) (eA E) s s.heap ∧
  (∀ q ∈ itT, va_Fw "java/util/ArrayList$Itr" q.1 q.2 s) ∧ (∀ y ∈ asbT, va_Nw (.selects "java/lang/StringBuilder" y y) s) ∧ va_Nw (.fieldLinkNest "java/util/ArrayList$Itr" 28 "java/util/ArrayList" "size" "I" "java/util/ArrayList") s
theorem EnvJ.step {E : EV} {s U : State} (h : EnvJ E s) (hA : s.vm.Alike U.vm) (hs : ∀ y ∈ asbT, va_Nw (.selects "java/lang/StringBuilder" y y) s → va_Nw (.selects "java/lang/StringBuilder" y y) U) (hn : va_Nw (.fieldLinkNest "java/util/ArrayList$Itr" 28 "java/util/ArrayList" "size" "I" "java/util/ArrayList") s → va_Nw (.fieldLinkNest "java/util/ArrayList$Itr" 28 "java/util/ArrayList" "size" "I" "java/util/ArrayList") U) (hk : ∀ a : Nat, a < s.heap.size → ¬ eA E a → U.heap[a]? = s.heap[a]?) : EnvJ E U := by
  obtain ⟨⟨j1, j2, j3⟩, ⟨j4, j5⟩, ⟨j6, j7⟩, ⟨j8, j9⟩, ⟨j10, j11, j12⟩, j13, j14, j15, j16⟩ := h
  exact ⟨⟨j1.moved hA, j2.moved hA, j3.moved hA⟩, ⟨(j4.moved hA).kept hk, (j5.moved hA).kept hk⟩, ⟨(j6.moved hA).kept hk, (j7.moved hA).kept hk⟩, ⟨(j8.moved hA).kept hk, (j9.moved hA).kept hk⟩, ⟨(j10.moved hA).kept hk, (j11.moved hA).kept hk, (j12.moved hA).kept hk⟩, (j13.moved hA).kept hk, fun q hq => (j14 q hq).moved (itT_ok q hq) hA, fun y hy => hs y hy (j15 y hy), hn j16⟩
def EnvS (E : EV) (s : State) : Prop :=
  (va_K (eD E) CL (eT E) s ∧ eB E ≤ s.heap.size ∧ eSb E < eB E ∧ (eL E).stackTraces = false) ∧ va_AO "FlatPlan$State" s ∧
  (vx_Zq Bundle.tN "UNASSIGNED_STACK" Bundle.steD (eA E) s s.heap ∧ vx_Zq Bundle.tN "SUPPRESSED_SENTINEL" Bundle.listD (eA E) s s.heap) ∧
  (∀ q ∈ strT, ∃ a, vk_R q.1 q.2.1 q.2.2 a s) ∧
  ((∀ q ∈ nestT, va_Nw (.methodLinkNest q.1 q.2.1 q.2.2.1 q.2.2.2) s) ∧ (∀ q ∈ castT, va_Nw (.castable q.1 q.2) s) ∧ (∀ q ∈ ncT, va_Nc q.1 q.2 s) ∧ (∀ q ∈ privT, va_Nw (.declares q) s)) ∧
  (vk_S nLit lenS bytS (eK E) (eV E) (eA E) s s.heap ∧ (∀ q ∈ litT, vk_R q.1 q.2.1 q.2.2.1 (eK E q.2.2.2) s) ∧ va_Z "java/lang/String" "COMPACT_STRINGS" "Z" (.int 1) (eA E) s s.heap ∧ va_Zq "jdk/internal/util/Preconditions" "SIOOBE_FORMATTER" "Ljava/util/function/BiFunction;" (eA E) s s.heap) ∧
  va_X (eSb E) (eSl E) (eSx E) s s.heap ∧ EnvJ E s
theorem va_S.kept {E : EV} {s : State} {H : Heap} {locs : List Loc} (hS : va_S (eA E) s.heap H locs) : ∀ a : Nat, a < s.heap.size → ¬ eA E a → H[a]? = s.heap[a]? := hS.2.1
theorem EnvS.step {E : EV} {s U : State} {locs : List Loc} (h : EnvS E s) (hW : s.WarmedH U.vm) (hS : va_S (eA E) s.heap U.heap locs) : EnvS E U := by
  obtain ⟨⟨h1, h2, h3, h4⟩, h0, ⟨h5, h6⟩, h7, ⟨h8, h9, h10, h11⟩, ⟨h12, h13, h14, h16⟩, h15, h17⟩ := h
  have hk := hS.kept
  have hA := hW.alike
  refine ⟨⟨va_K.moved hA h1, Nat.le_trans h2 hS.1, h3, h4⟩, h0.moved hA, ⟨(h5.moved hA).kept hk, (h6.moved hA).kept hk⟩, fun q hq => ?_, ⟨fun q hq => (h8 q hq).warmM hW, fun q hq => ?_, fun q hq => (h10 q hq).moved hA, fun q hq => ?_⟩, ⟨(h12.moved hA).kept hk, fun q hq => (h13 q hq).warm hW, (h14.moved hA).kept hk, (h16.moved hA).kept hk⟩, (h15.moved hA).kept (hk _ (Nat.lt_of_lt_of_le h3 h2) (fun z => Nat.lt_irrefl _ (Nat.lt_of_lt_of_le h3 z))), h17.step hA (fun y _ => va_Nw.good rfl hW) (fun q => q.warmF hW) hk⟩
  · obtain ⟨a, ha⟩ := h7 q hq
    exact ⟨a, ha.warm hW⟩
  · exact va_tabs rfl (rfl : (s.setVm U.vm).vm = U.vm) (by rw [Cond.castable_setVm hA]; exact h9 q hq)
  · exact va_tabs rfl (rfl : (s.setVm U.vm).vm = U.vm) (by rw [Cond.declares_setVm hA]; exact h11 q hq)
theorem EnvS.call {E : EV} {s : State} (h : EnvS E s) (g : JFrame) (mk : MethodId) (a : Array Value) : EnvS E (s.calling g mk a) := by
  obtain ⟨⟨h1, h2, h3, h4⟩, h0, ⟨h5, h6⟩, h7, ⟨h8, h9, h10, h11⟩, ⟨h12, h13, h14, h16⟩, h15, h17⟩ := h
  refine ⟨⟨va_K.moved (U := s.calling g mk a) (Vm.Alike.refl s.vm) h1, h2, h3, h4⟩, h0.moved (U := s.calling g mk a) (Vm.Alike.refl s.vm), ⟨h5.moved (U := s.calling g mk a) (Vm.Alike.refl s.vm), h6.moved (U := s.calling g mk a) (Vm.Alike.refl s.vm)⟩, fun q hq => ?_, ⟨fun q hq => (h8 q hq).same rfl rfl, fun q hq => (h9 q hq).same rfl rfl, fun q hq => (h10 q hq).moved (U := s.calling g mk a) (Vm.Alike.refl s.vm), fun q hq => (h11 q hq).same rfl rfl⟩, ⟨h12.moved (U := s.calling g mk a) (Vm.Alike.refl s.vm), fun q hq => (h13 q hq).same rfl, h14.moved (U := s.calling g mk a) (Vm.Alike.refl s.vm), h16.moved (U := s.calling g mk a) (Vm.Alike.refl s.vm)⟩, h15.moved (U := s.calling g mk a) (Vm.Alike.refl s.vm), EnvJ.step (U := s.calling g mk a) h17 (Vm.Alike.refl s.vm) (fun y _ hy => va_Nw.same rfl rfl hy) (fun q => va_Nw.same rfl rfl q) (fun _ _ _ => rfl)⟩
  obtain ⟨a1, ha⟩ := h7 q hq
  exact ⟨a1, ha.same rfl⟩
/-! a method's frame -/
abbrev RK : Type := Option Value ⊕ String
def Fr (E : EV) (Y : MI) (mc ms : Nat) (p : Program) (R : Room) (s : State) (m : MethodId) (args : Array Value) (meth : Method) (c : Code) : Prop :=
  (p.tables.exec = Jvm.exec ∧ c.code = mBy Y ∧ c.maxLocals = mLo Y ∧ s.vm.findClass (mNm Y).cls = some m.cls ∧ (∀ w ∈ gtbl, w.before args s = true)) ∧
  (meth.sig.returnType = mRt Y ∧ meth.locks = false ∧ meth.name = (mNm Y).name ∧ c.exceptionTable.toList = tableOf (mHh Y)) ∧
  (mFr Y ≤ R.frames ∧ mWd Y ≤ R.locals ∧ mc ≤ R.cells ∧ ms ≤ R.slots) ∧ EnvS E s
def QcK (E : EV) (mc : Nat) (K : RK → PS → Prop) : Array Value → State → Outcome → State → Prop := fun _ st o t => (∃ (v : Option Value) (S' : PS), o = .returned (v.map (gV E)) ∧ K (.inl v) S' ∧ Rep E S' (st.heap.size + mc) t.heap) ∧ va_F (eA E) st t
def XcK (E : EV) (mc : Nat) (K : RK → PS → Prop) : String → State → State → Prop := fun cn st t => (∃ S' : PS, K (.inr cn) S' ∧ Rep E S' (st.heap.size + mc) t.heap) ∧ va_F (eA E) st t
def gL (E : EV) (ls : List (Nat × Value)) : List (Nat × Value) := ls.map (fun q => (q.1, gV E q.2))
/-- from here the method comes to an end of which K holds -/
def Go (E : EV) (Y : MI) (mc ms : Nat) (pc : Nat) (ls : List (Nat × Value)) (st : List Value) (S : PS) (k n : Nat) (K : RK → PS → Prop) : Prop :=
  ∀ (p : Program) (e : Env) (R : Room) (s : State) (m : MethodId) (args : Array Value) (below : List Frame) (meth : Method) (c : Code) (H : Heap) (locs : List Loc) (lh : Array Slot),
    Fr E Y mc ms p R s m args meth c → Rep E S (s.heap.size + k) H → va_S (eA E) s.heap H locs → lv_has lh (mLo Y) (gL E ls) →
    W p (eL E) e R s m args below meth c H locs k n (vx_MQ below (QcK E mc K) (XcK E mc K) args s mc ms (eA E)) (F0 m pc lh (st.map (gV E)))
theorem loc_at {E : EV} {lh : Array Slot} {nL : Nat} {ls : List (Nat × Value)} (h : lv_has lh nL (gL E ls)) {j k : Nat} {v : Value} (hl : ls[j]? = some (k, v)) : lh[k]? = some (.val (gV E v)) := by
  refine h.2.2 (k, gV E v) ?_
  have hm := List.mem_of_getElem? hl
  exact List.mem_map.mpr ⟨(k, v), hm, rfl⟩
/-- storing a value of one word, of two -/
def stI (k : Nat) (v : Value) (ls : List (Nat × Value)) : List (Nat × Value) := (k, v) :: ls.filter (fun q => !(q.1 == k) && !(q.1 + 1 == k && q.2.category == 2))
def stL (k : Nat) (v : Value) (ls : List (Nat × Value)) : List (Nat × Value) := (k, v) :: ls.filter (fun q => !(q.1 == k) && (!(q.1 == k + 1) && !(q.1 + 1 == k && q.2.category == 2)))
theorem gL_stI {E : EV} {k : Nat} {v : Value} {ls : List (Nat × Value)} : (k, gV E v) :: (gL E ls).filter (fun q => !(q.1 == k) && !(q.1 + 1 == k && q.2.category == 2)) = gL E (stI k v ls) := by
  unfold gL stI
  rw [List.filter_map, List.map_cons]
  congr 2
  apply List.filter_congr
  intro q _
  simp [Function.comp, gV_cat]
theorem gL_stL {E : EV} {k : Nat} {v : Value} {ls : List (Nat × Value)} : (k, gV E v) :: (gL E ls).filter (fun q => !(q.1 == k) && (!(q.1 == k + 1) && !(q.1 + 1 == k && q.2.category == 2))) = gL E (stL k v ls) := by
  unfold gL stL
  rw [List.filter_map, List.map_cons]
  congr 2
  apply List.filter_congr
  intro q _
  simp [Function.comp, gV_cat]
theorem gL_sub {E : EV} {lh : Array Slot} {nL : Nat} {ls ls' : List (Nat × Value)} (h : lv_has lh nL (gL E ls)) (hs : ∀ q ∈ ls', q ∈ ls) : lv_has lh nL (gL E ls') := by
  refine ⟨h.1, h.2.1, fun q hq => h.2.2 q ?_⟩
  obtain ⟨q0, h0, rfl⟩ := List.mem_map.mp hq
  exact List.mem_map.mpr ⟨q0, hs q0 h0, rfl⟩
theorem gL_weak {E : EV} {Y : MI} {mc ms pc k n : Nat} {ls ls' : List (Nat × Value)} {st : List Value} {S : PS} {K : RK → PS → Prop} (hs : ∀ q ∈ ls', q ∈ ls) (h : Go E Y mc ms pc ls' st S k n K) : Go E Y mc ms pc ls st S k n K :=
  fun p e R s m args below meth c H locs lh F hR hS hl => h p e R s m args below meth c H locs lh F hR hS (gL_sub hl hs)
theorem Go.mono {E : EV} {Y : MI} {mc ms pc k n : Nat} {ls : List (Nat × Value)} {st : List Value} {S : PS} {K K' : RK → PS → Prop} (hk : ∀ r S, K r S → K' r S) (h : Go E Y mc ms pc ls st S k n K) : Go E Y mc ms pc ls st S k n K' := by
  intro p e R s m args below meth c H locs lh F hR hS hl T hT X
  obtain ⟨t, a1, o, b1, b2, b3⟩ := h p e R s m args below meth c H locs lh F hR hS hl T hT X
  refine ⟨t, a1, o, b1, b2, ?_⟩
  rcases b3 with ⟨⟨⟨v, S', q1, q2, q3⟩, q4⟩, q5⟩ | ⟨q, q1, E1, ce, L, ⟨⟨S', q2, q3⟩, q4⟩, q5⟩
  · exact Or.inl ⟨⟨⟨v, S', q1, hk _ _ q2, q3⟩, q4⟩, q5⟩
  · exact Or.inr ⟨q, q1, E1, ce, L, ⟨⟨S', hk _ _ q2, q3⟩, q4⟩, q5⟩
theorem W.sz {p : Program} {l : Launch} {e : Env} {R : Room} {s : State} {m : MethodId} {args : Array Value} {below : List Frame} {meth : Method} {c : Code} {H : Heap} {locs : List Loc} {cells slots : Nat} {Q : State → Prop} {g : JFrame}
    (h : H.size ≤ s.heap.size + cells → W p l e R s m args below meth c H locs cells slots Q g) : W p l e R s m args below meth c H locs cells slots Q g := by
  intro T hT X
  have h2 := X.same.2.2.1
  exact h (by rw [← hT]; exact h2) T hT X
theorem Go.room {E : EV} {Y : MI} {mc ms pc k n n' : Nat} {ls : List (Nat × Value)} {st : List Value} {S : PS} {K : RK → PS → Prop} (h2 : n ≤ n') (h : Go E Y mc ms pc ls st S k n' K) : Go E Y mc ms pc ls st S k n K :=
  fun p e R s m args below meth c H locs lh F hR hS hl => W.widen (Nat.le_refl _) h2 (h p e R s m args below meth c H locs lh F hR hS hl)
theorem Rep.down {E : EV} {w : List PC} {b : Bool} {z z' : Nat} {H : Heap} (h : Rep E (w, b) z H) : Rep E (w, false) z' H := h
theorem Go.down {E : EV} {Y : MI} {mc ms pc k n k' n' : Nat} {ls : List (Nat × Value)} {st : List Value} {w : List PC} {b : Bool} {K : RK → PS → Prop} (h1 : k ≤ k') (h2 : n ≤ n') (h : Go E Y mc ms pc ls st (w, false) k' n' K) : Go E Y mc ms pc ls st (w, b) k n K :=
  fun p e R s m args below meth c H locs lh F hR hS hl => W.widen h1 h2 (h p e R s m args below meth c H locs lh F hR.down hS hl)
theorem g_iconst {E : EV} {Y : MI} {mc ms pc k n : Nat} {ls : List (Nat × Value)} {st : List Value} {S : PS} {K : RK → PS → Prop} {z : Int} {v : Int32} (hd : decode (mBy Y) pc = .ok (.iconst z, 1)) (hv : Int32.ofInt z = v) (h : Go E Y mc ms (pc + 1) ls (.int v :: st) S k n K) : Go E Y mc ms (pc) ls (st) S k n K := fun p e R s m args below meth c H locs lh F hR hS hl => lv_iconst F.1.1 F.1.2.1 hd hv (h p e R s m args below meth c H locs lh F hR hS hl)
theorem g_bipush {E : EV} {Y : MI} {mc ms pc k n : Nat} {ls : List (Nat × Value)} {st : List Value} {S : PS} {K : RK → PS → Prop} {z : Int} {v : Int32} (hd : decode (mBy Y) pc = .ok (.bipush z, 2)) (hv : (Int8.ofInt z).toInt32 = v) (h : Go E Y mc ms (pc + 2) ls (.int v :: st) S k n K) : Go E Y mc ms (pc) ls (st) S k n K := fun p e R s m args below meth c H locs lh F hR hS hl => lv_bipush F.1.1 F.1.2.1 hd hv (h p e R s m args below meth c H locs lh F hR hS hl)
theorem g_sipush {E : EV} {Y : MI} {mc ms pc k n : Nat} {ls : List (Nat × Value)} {st : List Value} {S : PS} {K : RK → PS → Prop} {z : Int} {v : Int32} (hd : decode (mBy Y) pc = .ok (.sipush z, 3)) (hv : (Int16.ofInt z).toInt32 = v) (h : Go E Y mc ms (pc + 3) ls (.int v :: st) S k n K) : Go E Y mc ms (pc) ls (st) S k n K := fun p e R s m args below meth c H locs lh F hR hS hl => lv_sipush F.1.1 F.1.2.1 hd hv (h p e R s m args below meth c H locs lh F hR hS hl)
theorem g_lconst {E : EV} {Y : MI} {mc ms pc k n : Nat} {ls : List (Nat × Value)} {st : List Value} {S : PS} {K : RK → PS → Prop} {z : Fin 2} {v : Int64} (hd : decode (mBy Y) pc = .ok (.lconst z, 1)) (hv : Int64.ofNat (z : Nat) = v) (h : Go E Y mc ms (pc + 1) ls (.long v :: st) S k n K) : Go E Y mc ms (pc) ls (st) S k n K := fun p e R s m args below meth c H locs lh F hR hS hl => lv_lconst F.1.1 F.1.2.1 hd hv (h p e R s m args below meth c H locs lh F hR hS hl)
theorem g_dconst0 {E : EV} {Y : MI} {mc ms pc k n : Nat} {ls : List (Nat × Value)} {st : List Value} {S : PS} {K : RK → PS → Prop}  (hd : decode (mBy Y) pc = .ok (.dconst 0, 1)) (h : Go E Y mc ms (pc + 1) ls (.double 0 :: st) S k n K) : Go E Y mc ms (pc) ls (st) S k n K := fun p e R s m args below meth c H locs lh F hR hS hl => lv_dconst0 F.1.1 F.1.2.1 hd (h p e R s m args below meth c H locs lh F hR hS hl)
theorem g_ldc {E : EV} {Y : MI} {mc ms pc k n : Nat} {ls : List (Nat × Value)} {st : List Value} {S : PS} {K : RK → PS → Prop} {i : Nat} {v : Int32} (hd : decode (mBy Y) pc = .ok (.ldc i, 2)) (hc : Cond.constant (mNm Y).cls i v ∈ gtbl) (h : Go E Y mc ms (pc + 2) ls (.int v :: st) S k n K) : Go E Y mc ms (pc) ls (st) S k n K := fun p e R s m args below meth c H locs lh F hR hS hl => lv_ldc F.1.1 F.1.2.1 F.1.2.2.2.1 (F.1.2.2.2.2 _ hc) hd (h p e R s m args below meth c H locs lh F hR hS hl)
theorem g_ldcw {E : EV} {Y : MI} {mc ms pc k n : Nat} {ls : List (Nat × Value)} {st : List Value} {S : PS} {K : RK → PS → Prop} {i : Nat} {v : Int32} (hd : decode (mBy Y) pc = .ok (.ldc_w i, 3)) (hc : Cond.constant (mNm Y).cls i v ∈ gtbl) (h : Go E Y mc ms (pc + 3) ls (.int v :: st) S k n K) : Go E Y mc ms (pc) ls (st) S k n K := fun p e R s m args below meth c H locs lh F hR hS hl => lv_ldcw F.1.1 F.1.2.1 F.1.2.2.2.1 (F.1.2.2.2.2 _ hc) hd (h p e R s m args below meth c H locs lh F hR hS hl)
theorem g_ldc2 {E : EV} {Y : MI} {mc ms pc k n : Nat} {ls : List (Nat × Value)} {st : List Value} {S : PS} {K : RK → PS → Prop} {i : Nat} {v : Int64} (hd : decode (mBy Y) pc = .ok (.ldc2_w i, 3)) (hc : Cond.constantLong (mNm Y).cls i v ∈ gtbl) (h : Go E Y mc ms (pc + 3) ls (.long v :: st) S k n K) : Go E Y mc ms (pc) ls (st) S k n K := fun p e R s m args below meth c H locs lh F hR hS hl => lv_ldc2 F.1.1 F.1.2.1 F.1.2.2.2.1 (F.1.2.2.2.2 _ hc) hd (h p e R s m args below meth c H locs lh F hR hS hl)
theorem g_iload {E : EV} {Y : MI} {mc ms pc k n : Nat} {ls : List (Nat × Value)} {st : List Value} {S : PS} {K : RK → PS → Prop} {i j : Nat} {x : Int32} (hd : decode (mBy Y) pc = .ok (.iload i, 2)) (hl0 : ls[j]? = some (i, .int x)) (h : Go E Y mc ms (pc + 2) ls (.int x :: st) S k n K) : Go E Y mc ms (pc) ls (st) S k n K := fun p e R s m args below meth c H locs lh F hR hS hl => lv_iload F.1.1 F.1.2.1 hd (loc_at hl hl0) (h p e R s m args below meth c H locs lh F hR hS hl)
theorem g_iloadn {E : EV} {Y : MI} {mc ms pc k n : Nat} {ls : List (Nat × Value)} {st : List Value} {S : PS} {K : RK → PS → Prop} {i : Fin 4} {i0 j : Nat} {x : Int32} (hd : decode (mBy Y) pc = .ok (.iload_n i, 1)) (hi : (i : Nat) = i0) (hl0 : ls[j]? = some (i0, .int x)) (h : Go E Y mc ms (pc + 1) ls (.int x :: st) S k n K) : Go E Y mc ms (pc) ls (st) S k n K := fun p e R s m args below meth c H locs lh F hR hS hl => lv_iload_n F.1.1 F.1.2.1 hd hi (loc_at hl hl0) (h p e R s m args below meth c H locs lh F hR hS hl)
theorem g_istore {E : EV} {Y : MI} {mc ms pc k n : Nat} {ls : List (Nat × Value)} {st : List Value} {S : PS} {K : RK → PS → Prop} {i : Nat} {x : Int32} {ls2 : List (Nat × Value)} (hd : decode (mBy Y) pc = .ok (.istore i, 2)) (hn : i < mLo Y) (he : stI i (.int x) ls = ls2) (h : Go E Y mc ms (pc + 2) ls2 (st) S k n K) : Go E Y mc ms (pc) ls (.int x :: st) S k n K := fun p e R s m args below meth c H locs lh F hR hS hl => lv_istore F.1.1 F.1.2.1 hd hl hn (gL_stI.trans (congrArg (gL E) he)) (fun lh2 hl2 => h p e R s m args below meth c H locs lh2 F hR hS hl2)
theorem g_istoren {E : EV} {Y : MI} {mc ms pc k n : Nat} {ls : List (Nat × Value)} {st : List Value} {S : PS} {K : RK → PS → Prop} {i : Fin 4} {i0 : Nat} {x : Int32} {ls2 : List (Nat × Value)} (hd : decode (mBy Y) pc = .ok (.istore_n i, 1)) (hi : (i : Nat) = i0) (hn : i0 < mLo Y) (he : stI i0 (.int x) ls = ls2) (h : Go E Y mc ms (pc + 1) ls2 (st) S k n K) : Go E Y mc ms (pc) ls (.int x :: st) S k n K := fun p e R s m args below meth c H locs lh F hR hS hl => lv_istore_n F.1.1 F.1.2.1 hd hi hl hn (gL_stI.trans (congrArg (gL E) he)) (fun lh2 hl2 => h p e R s m args below meth c H locs lh2 F hR hS hl2)
theorem g_lload {E : EV} {Y : MI} {mc ms pc k n : Nat} {ls : List (Nat × Value)} {st : List Value} {S : PS} {K : RK → PS → Prop} {i j : Nat} {x : Int64} (hd : decode (mBy Y) pc = .ok (.lload i, 2)) (hl0 : ls[j]? = some (i, .long x)) (h : Go E Y mc ms (pc + 2) ls (.long x :: st) S k n K) : Go E Y mc ms (pc) ls (st) S k n K := fun p e R s m args below meth c H locs lh F hR hS hl => lv_lload F.1.1 F.1.2.1 hd (loc_at hl hl0) (h p e R s m args below meth c H locs lh F hR hS hl)
theorem g_lloadn {E : EV} {Y : MI} {mc ms pc k n : Nat} {ls : List (Nat × Value)} {st : List Value} {S : PS} {K : RK → PS → Prop} {i : Fin 4} {i0 j : Nat} {x : Int64} (hd : decode (mBy Y) pc = .ok (.lload_n i, 1)) (hi : (i : Nat) = i0) (hl0 : ls[j]? = some (i0, .long x)) (h : Go E Y mc ms (pc + 1) ls (.long x :: st) S k n K) : Go E Y mc ms (pc) ls (st) S k n K := fun p e R s m args below meth c H locs lh F hR hS hl => lv_lload_n F.1.1 F.1.2.1 hd hi (loc_at hl hl0) (h p e R s m args below meth c H locs lh F hR hS hl)
theorem g_lstore {E : EV} {Y : MI} {mc ms pc k n : Nat} {ls : List (Nat × Value)} {st : List Value} {S : PS} {K : RK → PS → Prop} {i : Nat} {x : Int64} {ls2 : List (Nat × Value)} (hd : decode (mBy Y) pc = .ok (.lstore i, 2)) (hn : i + 1 < mLo Y) (he : stL i (.long x) ls = ls2) (h : Go E Y mc ms (pc + 2) ls2 (st) S k n K) : Go E Y mc ms (pc) ls (.long x :: st) S k n K := fun p e R s m args below meth c H locs lh F hR hS hl => lv_lstore F.1.1 F.1.2.1 hd hl hn (gL_stL.trans (congrArg (gL E) he)) (fun lh2 hl2 => h p e R s m args below meth c H locs lh2 F hR hS hl2)
theorem g_lstoren {E : EV} {Y : MI} {mc ms pc k n : Nat} {ls : List (Nat × Value)} {st : List Value} {S : PS} {K : RK → PS → Prop} {i : Fin 4} {i0 : Nat} {x : Int64} {ls2 : List (Nat × Value)} (hd : decode (mBy Y) pc = .ok (.lstore_n i, 1)) (hi : (i : Nat) = i0) (hn : i0 + 1 < mLo Y) (he : stL i0 (.long x) ls = ls2) (h : Go E Y mc ms (pc + 1) ls2 (st) S k n K) : Go E Y mc ms (pc) ls (.long x :: st) S k n K := fun p e R s m args below meth c H locs lh F hR hS hl => lv_lstore_n F.1.1 F.1.2.1 hd hi hl hn (gL_stL.trans (congrArg (gL E) he)) (fun lh2 hl2 => h p e R s m args below meth c H locs lh2 F hR hS hl2)
theorem g_dload {E : EV} {Y : MI} {mc ms pc k n : Nat} {ls : List (Nat × Value)} {st : List Value} {S : PS} {K : RK → PS → Prop} {i j : Nat} {x : UInt64} (hd : decode (mBy Y) pc = .ok (.dload i, 2)) (hl0 : ls[j]? = some (i, .double x)) (h : Go E Y mc ms (pc + 2) ls (.double x :: st) S k n K) : Go E Y mc ms (pc) ls (st) S k n K := fun p e R s m args below meth c H locs lh F hR hS hl => lv_dload F.1.1 F.1.2.1 hd (loc_at hl hl0) (h p e R s m args below meth c H locs lh F hR hS hl)
theorem g_dloadn {E : EV} {Y : MI} {mc ms pc k n : Nat} {ls : List (Nat × Value)} {st : List Value} {S : PS} {K : RK → PS → Prop} {i : Fin 4} {i0 j : Nat} {x : UInt64} (hd : decode (mBy Y) pc = .ok (.dload_n i, 1)) (hi : (i : Nat) = i0) (hl0 : ls[j]? = some (i0, .double x)) (h : Go E Y mc ms (pc + 1) ls (.double x :: st) S k n K) : Go E Y mc ms (pc) ls (st) S k n K := fun p e R s m args below meth c H locs lh F hR hS hl => lv_dload_n F.1.1 F.1.2.1 hd hi (loc_at hl hl0) (h p e R s m args below meth c H locs lh F hR hS hl)
theorem g_dstore {E : EV} {Y : MI} {mc ms pc k n : Nat} {ls : List (Nat × Value)} {st : List Value} {S : PS} {K : RK → PS → Prop} {i : Nat} {x : UInt64} {ls2 : List (Nat × Value)} (hd : decode (mBy Y) pc = .ok (.dstore i, 2)) (hn : i + 1 < mLo Y) (he : stL i (.double x) ls = ls2) (h : Go E Y mc ms (pc + 2) ls2 (st) S k n K) : Go E Y mc ms (pc) ls (.double x :: st) S k n K := fun p e R s m args below meth c H locs lh F hR hS hl => lv_dstore F.1.1 F.1.2.1 hd hl hn (gL_stL.trans (congrArg (gL E) he)) (fun lh2 hl2 => h p e R s m args below meth c H locs lh2 F hR hS hl2)
theorem g_dstoren {E : EV} {Y : MI} {mc ms pc k n : Nat} {ls : List (Nat × Value)} {st : List Value} {S : PS} {K : RK → PS → Prop} {i : Fin 4} {i0 : Nat} {x : UInt64} {ls2 : List (Nat × Value)} (hd : decode (mBy Y) pc = .ok (.dstore_n i, 1)) (hi : (i : Nat) = i0) (hn : i0 + 1 < mLo Y) (he : stL i0 (.double x) ls = ls2) (h : Go E Y mc ms (pc + 1) ls2 (st) S k n K) : Go E Y mc ms (pc) ls (.double x :: st) S k n K := fun p e R s m args below meth c H locs lh F hR hS hl => lv_dstore_n F.1.1 F.1.2.1 hd hi hl hn (gL_stL.trans (congrArg (gL E) he)) (fun lh2 hl2 => h p e R s m args below meth c H locs lh2 F hR hS hl2)
theorem g_aload {E : EV} {Y : MI} {mc ms pc k n : Nat} {ls : List (Nat × Value)} {st : List Value} {S : PS} {K : RK → PS → Prop} {i j : Nat} {x : Nat} (hd : decode (mBy Y) pc = .ok (.aload i, 2)) (hl0 : ls[j]? = some (i, .ref x)) (h : Go E Y mc ms (pc + 2) ls (.ref x :: st) S k n K) : Go E Y mc ms (pc) ls (st) S k n K := fun p e R s m args below meth c H locs lh F hR hS hl => lv_aload F.1.1 F.1.2.1 hd (loc_at hl hl0) (h p e R s m args below meth c H locs lh F hR hS hl)
theorem g_aloadn {E : EV} {Y : MI} {mc ms pc k n : Nat} {ls : List (Nat × Value)} {st : List Value} {S : PS} {K : RK → PS → Prop} {i : Fin 4} {i0 j : Nat} {x : Nat} (hd : decode (mBy Y) pc = .ok (.aload_n i, 1)) (hi : (i : Nat) = i0) (hl0 : ls[j]? = some (i0, .ref x)) (h : Go E Y mc ms (pc + 1) ls (.ref x :: st) S k n K) : Go E Y mc ms (pc) ls (st) S k n K := fun p e R s m args below meth c H locs lh F hR hS hl => lv_aload_n F.1.1 F.1.2.1 hd hi (loc_at hl hl0) (h p e R s m args below meth c H locs lh F hR hS hl)
theorem g_astore {E : EV} {Y : MI} {mc ms pc k n : Nat} {ls : List (Nat × Value)} {st : List Value} {S : PS} {K : RK → PS → Prop} {i : Nat} {x : Nat} {ls2 : List (Nat × Value)} (hd : decode (mBy Y) pc = .ok (.astore i, 2)) (hn : i < mLo Y) (he : stI i (.ref x) ls = ls2) (h : Go E Y mc ms (pc + 2) ls2 (st) S k n K) : Go E Y mc ms (pc) ls (.ref x :: st) S k n K := fun p e R s m args below meth c H locs lh F hR hS hl => lv_astore F.1.1 F.1.2.1 hd hl hn (gL_stI.trans (congrArg (gL E) he)) (fun lh2 hl2 => h p e R s m args below meth c H locs lh2 F hR hS hl2)
theorem g_astoren {E : EV} {Y : MI} {mc ms pc k n : Nat} {ls : List (Nat × Value)} {st : List Value} {S : PS} {K : RK → PS → Prop} {i : Fin 4} {i0 : Nat} {x : Nat} {ls2 : List (Nat × Value)} (hd : decode (mBy Y) pc = .ok (.astore_n i, 1)) (hi : (i : Nat) = i0) (hn : i0 < mLo Y) (he : stI i0 (.ref x) ls = ls2) (h : Go E Y mc ms (pc + 1) ls2 (st) S k n K) : Go E Y mc ms (pc) ls (.ref x :: st) S k n K := fun p e R s m args below meth c H locs lh F hR hS hl => lv_astore_n F.1.1 F.1.2.1 hd hi hl hn (gL_stI.trans (congrArg (gL E) he)) (fun lh2 hl2 => h p e R s m args below meth c H locs lh2 F hR hS hl2)
theorem g_iinc {E : EV} {Y : MI} {mc ms pc k n : Nat} {ls : List (Nat × Value)} {st : List Value} {S : PS} {K : RK → PS → Prop} {i j : Nat} {z : Int} {x v : Int32} {ls2 : List (Nat × Value)} (hd : decode (mBy Y) pc = .ok (.iinc i z, 3)) (hl0 : ls[j]? = some (i, .int x)) (hv : x + Int32.ofInt z = v) (hn : i < mLo Y) (he : stI i (.int v) ls = ls2) (h : Go E Y mc ms (pc + 3) ls2 (st) S k n K) : Go E Y mc ms (pc) ls (st) S k n K := fun p e R s m args below meth c H locs lh F hR hS hl => lv_iinc F.1.1 F.1.2.1 hd hl (k := j) (by unfold gL; rw [List.getElem?_map, hl0]; rfl) hv hn (gL_stI.trans (congrArg (gL E) he)) (fun lh2 hl2 => h p e R s m args below meth c H locs lh2 F hR hS hl2)
theorem g_iadd {E : EV} {Y : MI} {mc ms pc k n : Nat} {ls : List (Nat × Value)} {st : List Value} {S : PS} {K : RK → PS → Prop} {x y : Int32} (hd : decode (mBy Y) pc = .ok (.iadd, 1)) (h : Go E Y mc ms (pc + 1) ls (.int (x + y) :: st) S k n K) : Go E Y mc ms (pc) ls (.int y :: .int x :: st) S k n K := fun p e R s m args below meth c H locs lh F hR hS hl => lv_iadd F.1.1 F.1.2.1 hd (h p e R s m args below meth c H locs lh F hR hS hl)
theorem g_isub {E : EV} {Y : MI} {mc ms pc k n : Nat} {ls : List (Nat × Value)} {st : List Value} {S : PS} {K : RK → PS → Prop} {x y : Int32} (hd : decode (mBy Y) pc = .ok (.isub, 1)) (h : Go E Y mc ms (pc + 1) ls (.int (x - y) :: st) S k n K) : Go E Y mc ms (pc) ls (.int y :: .int x :: st) S k n K := fun p e R s m args below meth c H locs lh F hR hS hl => lv_isub F.1.1 F.1.2.1 hd (h p e R s m args below meth c H locs lh F hR hS hl)
theorem g_imul {E : EV} {Y : MI} {mc ms pc k n : Nat} {ls : List (Nat × Value)} {st : List Value} {S : PS} {K : RK → PS → Prop} {x y : Int32} (hd : decode (mBy Y) pc = .ok (.imul, 1)) (h : Go E Y mc ms (pc + 1) ls (.int (x * y) :: st) S k n K) : Go E Y mc ms (pc) ls (.int y :: .int x :: st) S k n K := fun p e R s m args below meth c H locs lh F hR hS hl => lv_imul F.1.1 F.1.2.1 hd (h p e R s m args below meth c H locs lh F hR hS hl)
theorem g_iand {E : EV} {Y : MI} {mc ms pc k n : Nat} {ls : List (Nat × Value)} {st : List Value} {S : PS} {K : RK → PS → Prop} {x y : Int32} (hd : decode (mBy Y) pc = .ok (.iand, 1)) (h : Go E Y mc ms (pc + 1) ls (.int (x &&& y) :: st) S k n K) : Go E Y mc ms (pc) ls (.int y :: .int x :: st) S k n K := fun p e R s m args below meth c H locs lh F hR hS hl => lv_iand F.1.1 F.1.2.1 hd (h p e R s m args below meth c H locs lh F hR hS hl)
theorem g_ior {E : EV} {Y : MI} {mc ms pc k n : Nat} {ls : List (Nat × Value)} {st : List Value} {S : PS} {K : RK → PS → Prop} {x y : Int32} (hd : decode (mBy Y) pc = .ok (.ior, 1)) (h : Go E Y mc ms (pc + 1) ls (.int (x ||| y) :: st) S k n K) : Go E Y mc ms (pc) ls (.int y :: .int x :: st) S k n K := fun p e R s m args below meth c H locs lh F hR hS hl => lv_ior F.1.1 F.1.2.1 hd (h p e R s m args below meth c H locs lh F hR hS hl)
theorem g_idiv {E : EV} {Y : MI} {mc ms pc k n : Nat} {ls : List (Nat × Value)} {st : List Value} {S : PS} {K : RK → PS → Prop} {x y : Int32} (hd : decode (mBy Y) pc = .ok (.idiv, 1)) (h0 : ¬ y = 0) (h : Go E Y mc ms (pc + 1) ls (.int (x / y) :: st) S k n K) : Go E Y mc ms (pc) ls (.int y :: .int x :: st) S k n K := fun p e R s m args below meth c H locs lh F hR hS hl => lv_idiv F.1.1 F.1.2.1 hd h0 (h p e R s m args below meth c H locs lh F hR hS hl)
theorem g_irem {E : EV} {Y : MI} {mc ms pc k n : Nat} {ls : List (Nat × Value)} {st : List Value} {S : PS} {K : RK → PS → Prop} {x y : Int32} (hd : decode (mBy Y) pc = .ok (.irem, 1)) (h0 : ¬ y = 0) (h : Go E Y mc ms (pc + 1) ls (.int (x - x / y * y) :: st) S k n K) : Go E Y mc ms (pc) ls (.int y :: .int x :: st) S k n K := fun p e R s m args below meth c H locs lh F hR hS hl => lv_irem F.1.1 F.1.2.1 hd h0 (h p e R s m args below meth c H locs lh F hR hS hl)
theorem g_ishl {E : EV} {Y : MI} {mc ms pc k n : Nat} {ls : List (Nat × Value)} {st : List Value} {S : PS} {K : RK → PS → Prop} {x y : Int32} (hd : decode (mBy Y) pc = .ok (.ishl, 1)) (h : Go E Y mc ms (pc + 1) ls (.int (x <<< (y &&& 31)) :: st) S k n K) : Go E Y mc ms (pc) ls (.int y :: .int x :: st) S k n K := fun p e R s m args below meth c H locs lh F hR hS hl => lv_ishl F.1.1 F.1.2.1 hd (h p e R s m args below meth c H locs lh F hR hS hl)
theorem g_ishr {E : EV} {Y : MI} {mc ms pc k n : Nat} {ls : List (Nat × Value)} {st : List Value} {S : PS} {K : RK → PS → Prop} {x y : Int32} (hd : decode (mBy Y) pc = .ok (.ishr, 1)) (h : Go E Y mc ms (pc + 1) ls (.int (x >>> (y &&& 31)) :: st) S k n K) : Go E Y mc ms (pc) ls (.int y :: .int x :: st) S k n K := fun p e R s m args below meth c H locs lh F hR hS hl => lv_ishr F.1.1 F.1.2.1 hd (h p e R s m args below meth c H locs lh F hR hS hl)
theorem g_iushr {E : EV} {Y : MI} {mc ms pc k n : Nat} {ls : List (Nat × Value)} {st : List Value} {S : PS} {K : RK → PS → Prop} {x y v : Int32} (hd : decode (mBy Y) pc = .ok (.iushr, 1)) (hv : (x.toUInt32 >>> (y.toUInt32 &&& Int32.toUInt32 31)).toInt32 = v) (h : Go E Y mc ms (pc + 1) ls (.int v :: st) S k n K) : Go E Y mc ms (pc) ls (.int y :: .int x :: st) S k n K := fun p e R s m args below meth c H locs lh F hR hS hl => lv_iushr F.1.1 F.1.2.1 hd hv (h p e R s m args below meth c H locs lh F hR hS hl)
theorem g_ineg {E : EV} {Y : MI} {mc ms pc k n : Nat} {ls : List (Nat × Value)} {st : List Value} {S : PS} {K : RK → PS → Prop} {x : Int32} (hd : decode (mBy Y) pc = .ok (.ineg, 1)) (h : Go E Y mc ms (pc + 1) ls (.int (-x) :: st) S k n K) : Go E Y mc ms (pc) ls (.int x :: st) S k n K := fun p e R s m args below meth c H locs lh F hR hS hl => lv_ineg F.1.1 F.1.2.1 hd (h p e R s m args below meth c H locs lh F hR hS hl)
theorem g_ladd {E : EV} {Y : MI} {mc ms pc k n : Nat} {ls : List (Nat × Value)} {st : List Value} {S : PS} {K : RK → PS → Prop} {x y : Int64} (hd : decode (mBy Y) pc = .ok (.ladd, 1)) (h : Go E Y mc ms (pc + 1) ls (.long (x + y) :: st) S k n K) : Go E Y mc ms (pc) ls (.long y :: .long x :: st) S k n K := fun p e R s m args below meth c H locs lh F hR hS hl => lv_ladd F.1.1 F.1.2.1 hd (h p e R s m args below meth c H locs lh F hR hS hl)
theorem g_lsub {E : EV} {Y : MI} {mc ms pc k n : Nat} {ls : List (Nat × Value)} {st : List Value} {S : PS} {K : RK → PS → Prop} {x y : Int64} (hd : decode (mBy Y) pc = .ok (.lsub, 1)) (h : Go E Y mc ms (pc + 1) ls (.long (x - y) :: st) S k n K) : Go E Y mc ms (pc) ls (.long y :: .long x :: st) S k n K := fun p e R s m args below meth c H locs lh F hR hS hl => lv_lsub F.1.1 F.1.2.1 hd (h p e R s m args below meth c H locs lh F hR hS hl)
theorem g_lmul {E : EV} {Y : MI} {mc ms pc k n : Nat} {ls : List (Nat × Value)} {st : List Value} {S : PS} {K : RK → PS → Prop} {x y : Int64} (hd : decode (mBy Y) pc = .ok (.lmul, 1)) (h : Go E Y mc ms (pc + 1) ls (.long (x * y) :: st) S k n K) : Go E Y mc ms (pc) ls (.long y :: .long x :: st) S k n K := fun p e R s m args below meth c H locs lh F hR hS hl => lv_lmul F.1.1 F.1.2.1 hd (h p e R s m args below meth c H locs lh F hR hS hl)
theorem g_lcmp {E : EV} {Y : MI} {mc ms pc k n : Nat} {ls : List (Nat × Value)} {st : List Value} {S : PS} {K : RK → PS → Prop} {x y : Int64} (hd : decode (mBy Y) pc = .ok (.lcmp, 1)) (h : Go E Y mc ms (pc + 1) ls (.int (lg_cmp x y) :: st) S k n K) : Go E Y mc ms (pc) ls (.long y :: .long x :: st) S k n K := fun p e R s m args below meth c H locs lh F hR hS hl => W.lcmp F.1.1 F.1.2.1 hd (h p e R s m args below meth c H locs lh F hR hS hl)
theorem g_i2l {E : EV} {Y : MI} {mc ms pc k n : Nat} {ls : List (Nat × Value)} {st : List Value} {S : PS} {K : RK → PS → Prop} {x : Int32} {v : Int64} (hd : decode (mBy Y) pc = .ok (.i2l, 1)) (hv : x.toInt64 = v) (h : Go E Y mc ms (pc + 1) ls (.long v :: st) S k n K) : Go E Y mc ms (pc) ls (.int x :: st) S k n K := fun p e R s m args below meth c H locs lh F hR hS hl => lv_i2l F.1.1 F.1.2.1 hd hv (h p e R s m args below meth c H locs lh F hR hS hl)
theorem g_l2i {E : EV} {Y : MI} {mc ms pc k n : Nat} {ls : List (Nat × Value)} {st : List Value} {S : PS} {K : RK → PS → Prop} {x : Int64} {v : Int32} (hd : decode (mBy Y) pc = .ok (.l2i, 1)) (hv : x.toInt32 = v) (h : Go E Y mc ms (pc + 1) ls (.int v :: st) S k n K) : Go E Y mc ms (pc) ls (.long x :: st) S k n K := fun p e R s m args below meth c H locs lh F hR hS hl => lv_l2i F.1.1 F.1.2.1 hd hv (h p e R s m args below meth c H locs lh F hR hS hl)
theorem g_i2b {E : EV} {Y : MI} {mc ms pc k n : Nat} {ls : List (Nat × Value)} {st : List Value} {S : PS} {K : RK → PS → Prop} {x v : Int32} (hd : decode (mBy Y) pc = .ok (.i2b, 1)) (hv : x.toInt8.toInt32 = v) (h : Go E Y mc ms (pc + 1) ls (.int v :: st) S k n K) : Go E Y mc ms (pc) ls (.int x :: st) S k n K := fun p e R s m args below meth c H locs lh F hR hS hl => lv_i2b F.1.1 F.1.2.1 hd hv (h p e R s m args below meth c H locs lh F hR hS hl)
theorem g_i2d {E : EV} {Y : MI} {mc ms pc k n : Nat} {ls : List (Nat × Value)} {st : List Value} {S : PS} {K : RK → PS → Prop} {x : Int32} (hd : decode (mBy Y) pc = .ok (.i2d, 1)) (h : Go E Y mc ms (pc + 1) ls (.double (FP.i2d x) :: st) S k n K) : Go E Y mc ms (pc) ls (.int x :: st) S k n K := fun p e R s m args below meth c H locs lh F hR hS hl => lv_i2d F.1.1 F.1.2.1 hd (h p e R s m args below meth c H locs lh F hR hS hl)
theorem g_ddiv {E : EV} {Y : MI} {mc ms pc k n : Nat} {ls : List (Nat × Value)} {st : List Value} {S : PS} {K : RK → PS → Prop} {x y : UInt64} (hd : decode (mBy Y) pc = .ok (.ddiv, 1)) (h0 : vf_n64 (FP.ddiv x y)) (h : Go E Y mc ms (pc + 1) ls (.double (FP.ddiv x y) :: st) S k n K) : Go E Y mc ms (pc) ls (.double y :: .double x :: st) S k n K := fun p e R s m args below meth c H locs lh F hR hS hl => lv_ddiv F.1.1 F.1.2.1 hd h0 (h p e R s m args below meth c H locs lh F hR hS hl)
theorem g_dcmp {E : EV} {Y : MI} {mc ms pc k n : Nat} {ls : List (Nat × Value)} {st : List Value} {S : PS} {K : RK → PS → Prop} {x y : UInt64} {op : CmpOp} (hd : decode (mBy Y) pc = .ok (.dcmp op, 1)) (h : Go E Y mc ms (pc + 1) ls (.int (Op.cmpValue (FP.dcmp x y) op) :: st) S k n K) : Go E Y mc ms (pc) ls (.double y :: .double x :: st) S k n K := fun p e R s m args below meth c H locs lh F hR hS hl => lv_dcmp F.1.1 F.1.2.1 hd (h p e R s m args below meth c H locs lh F hR hS hl)
theorem g_dup {E : EV} {Y : MI} {mc ms pc k n : Nat} {ls : List (Nat × Value)} {st : List Value} {S : PS} {K : RK → PS → Prop} {v : Value} (hd : decode (mBy Y) pc = .ok (.dup, 1)) (hc : v.category = 1) (h : Go E Y mc ms (pc + 1) ls (v :: v :: st) S k n K) : Go E Y mc ms (pc) ls (v :: st) S k n K := fun p e R s m args below meth c H locs lh F hR hS hl => lv_dup F.1.1 F.1.2.1 hd ((gV_cat E v).trans hc) (h p e R s m args below meth c H locs lh F hR hS hl)
theorem g_dup2 {E : EV} {Y : MI} {mc ms pc k n : Nat} {ls : List (Nat × Value)} {st : List Value} {S : PS} {K : RK → PS → Prop} {v w : Value} (hd : decode (mBy Y) pc = .ok (.dup2, 1)) (hc : v.category = 1) (hc2 : w.category = 1) (h : Go E Y mc ms (pc + 1) ls (v :: w :: v :: w :: st) S k n K) : Go E Y mc ms (pc) ls (v :: w :: st) S k n K := fun p e R s m args below meth c H locs lh F hR hS hl => lv_dup2_11 F.1.1 F.1.2.1 hd ((gV_cat E _).trans hc) ((gV_cat E _).trans hc2) (h p e R s m args below meth c H locs lh F hR hS hl)
theorem g_pop2 {E : EV} {Y : MI} {mc ms pc k n : Nat} {ls : List (Nat × Value)} {st : List Value} {S : PS} {K : RK → PS → Prop} {v : Value} (hd : decode (mBy Y) pc = .ok (.pop2, 1)) (hc : v.category = 2) (h : Go E Y mc ms (pc + 1) ls (st) S k n K) : Go E Y mc ms (pc) ls (v :: st) S k n K := fun p e R s m args below meth c H locs lh F hR hS hl => lv_pop2_2 F.1.1 F.1.2.1 hd ((gV_cat E v).trans hc) (h p e R s m args below meth c H locs lh F hR hS hl)
theorem g_pop {E : EV} {Y : MI} {mc ms pc k n : Nat} {ls : List (Nat × Value)} {st : List Value} {S : PS} {K : RK → PS → Prop} {v : Value} (hd : decode (mBy Y) pc = .ok (.pop, 1)) (hc : v.category = 1) (h : Go E Y mc ms (pc + 1) ls (st) S k n K) : Go E Y mc ms (pc) ls (v :: st) S k n K := fun p e R s m args below meth c H locs lh F hR hS hl => lv_pop F.1.1 F.1.2.1 hd ((gV_cat E v).trans hc) (h p e R s m args below meth c H locs lh F hR hS hl)
theorem g_goto {E : EV} {Y : MI} {mc ms pc k n : Nat} {ls : List (Nat × Value)} {st : List Value} {S : PS} {K : RK → PS → Prop} {off : Int} {tgt : Nat} (hd : decode (mBy Y) pc = .ok (.goto off, 3)) (ht : (pc : Int) + off = (tgt : Int)) (h : Go E Y mc ms (tgt) ls (st) S k n K) : Go E Y mc ms (pc) ls (st) S k n K := fun p e R s m args below meth c H locs lh F hR hS hl => lv_goto F.1.1 F.1.2.1 hd ht (h p e R s m args below meth c H locs lh F hR hS hl)
theorem g_icmp_eq {E : EV} {Y : MI} {mc ms pc k n : Nat} {ls : List (Nat × Value)} {st : List Value} {S : PS} {K : RK → PS → Prop} {x y : Int32} {off : Int} {tgt : Nat} (hd : decode (mBy Y) pc = .ok (.if_icmp .eq off, 3)) (ht : (pc : Int) + off = (tgt : Int)) (h1 : x = y → Go E Y mc ms (tgt) ls (st) S k n K) (h2 : ¬ (x = y) → Go E Y mc ms (pc + 3) ls (st) S k n K) : Go E Y mc ms (pc) ls (.int y :: .int x :: st) S k n K := fun p e R s m args below meth c H locs lh F hR hS hl => lv_icmp_eq F.1.1 F.1.2.1 hd ht (fun hc => h1 hc p e R s m args below meth c H locs lh F hR hS hl) (fun hc => h2 hc p e R s m args below meth c H locs lh F hR hS hl)
theorem g_if_eq {E : EV} {Y : MI} {mc ms pc k n : Nat} {ls : List (Nat × Value)} {st : List Value} {S : PS} {K : RK → PS → Prop} {x : Int32} {off : Int} {tgt : Nat} (hd : decode (mBy Y) pc = .ok (.ifCond .eq off, 3)) (ht : (pc : Int) + off = (tgt : Int)) (h1 : x = 0 → Go E Y mc ms (tgt) ls (st) S k n K) (h2 : ¬ (x = 0) → Go E Y mc ms (pc + 3) ls (st) S k n K) : Go E Y mc ms (pc) ls (.int x :: st) S k n K := fun p e R s m args below meth c H locs lh F hR hS hl => lv_if_eq F.1.1 F.1.2.1 hd ht (fun hc => h1 hc p e R s m args below meth c H locs lh F hR hS hl) (fun hc => h2 hc p e R s m args below meth c H locs lh F hR hS hl)
theorem g_icmp_ne {E : EV} {Y : MI} {mc ms pc k n : Nat} {ls : List (Nat × Value)} {st : List Value} {S : PS} {K : RK → PS → Prop} {x y : Int32} {off : Int} {tgt : Nat} (hd : decode (mBy Y) pc = .ok (.if_icmp .ne off, 3)) (ht : (pc : Int) + off = (tgt : Int)) (h1 : ¬ x = y → Go E Y mc ms (tgt) ls (st) S k n K) (h2 : x = y → Go E Y mc ms (pc + 3) ls (st) S k n K) : Go E Y mc ms (pc) ls (.int y :: .int x :: st) S k n K := fun p e R s m args below meth c H locs lh F hR hS hl => lv_icmp_ne F.1.1 F.1.2.1 hd ht (fun hc => h1 hc p e R s m args below meth c H locs lh F hR hS hl) (fun hc => h2 hc p e R s m args below meth c H locs lh F hR hS hl)
theorem g_if_ne {E : EV} {Y : MI} {mc ms pc k n : Nat} {ls : List (Nat × Value)} {st : List Value} {S : PS} {K : RK → PS → Prop} {x : Int32} {off : Int} {tgt : Nat} (hd : decode (mBy Y) pc = .ok (.ifCond .ne off, 3)) (ht : (pc : Int) + off = (tgt : Int)) (h1 : ¬ x = 0 → Go E Y mc ms (tgt) ls (st) S k n K) (h2 : x = 0 → Go E Y mc ms (pc + 3) ls (st) S k n K) : Go E Y mc ms (pc) ls (.int x :: st) S k n K := fun p e R s m args below meth c H locs lh F hR hS hl => lv_if_ne F.1.1 F.1.2.1 hd ht (fun hc => h1 hc p e R s m args below meth c H locs lh F hR hS hl) (fun hc => h2 hc p e R s m args below meth c H locs lh F hR hS hl)
theorem g_icmp_lt {E : EV} {Y : MI} {mc ms pc k n : Nat} {ls : List (Nat × Value)} {st : List Value} {S : PS} {K : RK → PS → Prop} {x y : Int32} {off : Int} {tgt : Nat} (hd : decode (mBy Y) pc = .ok (.if_icmp .lt off, 3)) (ht : (pc : Int) + off = (tgt : Int)) (h1 : x < y → Go E Y mc ms (tgt) ls (st) S k n K) (h2 : ¬ (x < y) → Go E Y mc ms (pc + 3) ls (st) S k n K) : Go E Y mc ms (pc) ls (.int y :: .int x :: st) S k n K := fun p e R s m args below meth c H locs lh F hR hS hl => lv_icmp_lt F.1.1 F.1.2.1 hd ht (fun hc => h1 hc p e R s m args below meth c H locs lh F hR hS hl) (fun hc => h2 hc p e R s m args below meth c H locs lh F hR hS hl)
theorem g_if_lt {E : EV} {Y : MI} {mc ms pc k n : Nat} {ls : List (Nat × Value)} {st : List Value} {S : PS} {K : RK → PS → Prop} {x : Int32} {off : Int} {tgt : Nat} (hd : decode (mBy Y) pc = .ok (.ifCond .lt off, 3)) (ht : (pc : Int) + off = (tgt : Int)) (h1 : x < 0 → Go E Y mc ms (tgt) ls (st) S k n K) (h2 : ¬ (x < 0) → Go E Y mc ms (pc + 3) ls (st) S k n K) : Go E Y mc ms (pc) ls (.int x :: st) S k n K := fun p e R s m args below meth c H locs lh F hR hS hl => lv_if_lt F.1.1 F.1.2.1 hd ht (fun hc => h1 hc p e R s m args below meth c H locs lh F hR hS hl) (fun hc => h2 hc p e R s m args below meth c H locs lh F hR hS hl)
theorem g_icmp_ge {E : EV} {Y : MI} {mc ms pc k n : Nat} {ls : List (Nat × Value)} {st : List Value} {S : PS} {K : RK → PS → Prop} {x y : Int32} {off : Int} {tgt : Nat} (hd : decode (mBy Y) pc = .ok (.if_icmp .ge off, 3)) (ht : (pc : Int) + off = (tgt : Int)) (h1 : y ≤ x → Go E Y mc ms (tgt) ls (st) S k n K) (h2 : ¬ (y ≤ x) → Go E Y mc ms (pc + 3) ls (st) S k n K) : Go E Y mc ms (pc) ls (.int y :: .int x :: st) S k n K := fun p e R s m args below meth c H locs lh F hR hS hl => lv_icmp_ge F.1.1 F.1.2.1 hd ht (fun hc => h1 hc p e R s m args below meth c H locs lh F hR hS hl) (fun hc => h2 hc p e R s m args below meth c H locs lh F hR hS hl)
theorem g_if_ge {E : EV} {Y : MI} {mc ms pc k n : Nat} {ls : List (Nat × Value)} {st : List Value} {S : PS} {K : RK → PS → Prop} {x : Int32} {off : Int} {tgt : Nat} (hd : decode (mBy Y) pc = .ok (.ifCond .ge off, 3)) (ht : (pc : Int) + off = (tgt : Int)) (h1 : 0 ≤ x → Go E Y mc ms (tgt) ls (st) S k n K) (h2 : ¬ (0 ≤ x) → Go E Y mc ms (pc + 3) ls (st) S k n K) : Go E Y mc ms (pc) ls (.int x :: st) S k n K := fun p e R s m args below meth c H locs lh F hR hS hl => lv_if_ge F.1.1 F.1.2.1 hd ht (fun hc => h1 hc p e R s m args below meth c H locs lh F hR hS hl) (fun hc => h2 hc p e R s m args below meth c H locs lh F hR hS hl)
theorem g_icmp_gt {E : EV} {Y : MI} {mc ms pc k n : Nat} {ls : List (Nat × Value)} {st : List Value} {S : PS} {K : RK → PS → Prop} {x y : Int32} {off : Int} {tgt : Nat} (hd : decode (mBy Y) pc = .ok (.if_icmp .gt off, 3)) (ht : (pc : Int) + off = (tgt : Int)) (h1 : y < x → Go E Y mc ms (tgt) ls (st) S k n K) (h2 : ¬ (y < x) → Go E Y mc ms (pc + 3) ls (st) S k n K) : Go E Y mc ms (pc) ls (.int y :: .int x :: st) S k n K := fun p e R s m args below meth c H locs lh F hR hS hl => lv_icmp_gt F.1.1 F.1.2.1 hd ht (fun hc => h1 hc p e R s m args below meth c H locs lh F hR hS hl) (fun hc => h2 hc p e R s m args below meth c H locs lh F hR hS hl)
theorem g_if_gt {E : EV} {Y : MI} {mc ms pc k n : Nat} {ls : List (Nat × Value)} {st : List Value} {S : PS} {K : RK → PS → Prop} {x : Int32} {off : Int} {tgt : Nat} (hd : decode (mBy Y) pc = .ok (.ifCond .gt off, 3)) (ht : (pc : Int) + off = (tgt : Int)) (h1 : 0 < x → Go E Y mc ms (tgt) ls (st) S k n K) (h2 : ¬ (0 < x) → Go E Y mc ms (pc + 3) ls (st) S k n K) : Go E Y mc ms (pc) ls (.int x :: st) S k n K := fun p e R s m args below meth c H locs lh F hR hS hl => lv_if_gt F.1.1 F.1.2.1 hd ht (fun hc => h1 hc p e R s m args below meth c H locs lh F hR hS hl) (fun hc => h2 hc p e R s m args below meth c H locs lh F hR hS hl)
theorem g_icmp_le {E : EV} {Y : MI} {mc ms pc k n : Nat} {ls : List (Nat × Value)} {st : List Value} {S : PS} {K : RK → PS → Prop} {x y : Int32} {off : Int} {tgt : Nat} (hd : decode (mBy Y) pc = .ok (.if_icmp .le off, 3)) (ht : (pc : Int) + off = (tgt : Int)) (h1 : x ≤ y → Go E Y mc ms (tgt) ls (st) S k n K) (h2 : ¬ (x ≤ y) → Go E Y mc ms (pc + 3) ls (st) S k n K) : Go E Y mc ms (pc) ls (.int y :: .int x :: st) S k n K := fun p e R s m args below meth c H locs lh F hR hS hl => lv_icmp_le F.1.1 F.1.2.1 hd ht (fun hc => h1 hc p e R s m args below meth c H locs lh F hR hS hl) (fun hc => h2 hc p e R s m args below meth c H locs lh F hR hS hl)
theorem g_if_le {E : EV} {Y : MI} {mc ms pc k n : Nat} {ls : List (Nat × Value)} {st : List Value} {S : PS} {K : RK → PS → Prop} {x : Int32} {off : Int} {tgt : Nat} (hd : decode (mBy Y) pc = .ok (.ifCond .le off, 3)) (ht : (pc : Int) + off = (tgt : Int)) (h1 : x ≤ 0 → Go E Y mc ms (tgt) ls (st) S k n K) (h2 : ¬ (x ≤ 0) → Go E Y mc ms (pc + 3) ls (st) S k n K) : Go E Y mc ms (pc) ls (.int x :: st) S k n K := fun p e R s m args below meth c H locs lh F hR hS hl => lv_if_le F.1.1 F.1.2.1 hd ht (fun hc => h1 hc p e R s m args below meth c H locs lh F hR hS hl) (fun hc => h2 hc p e R s m args below meth c H locs lh F hR hS hl)
theorem g_tableIn {E : EV} {Y : MI} {mc ms pc k n : Nat} {ls : List (Nat × Value)} {st : List Value} {S : PS} {K : RK → PS → Prop} {dflt lo hi : Int} {offs : Array Int} {len : Nat} {x : Int32} {off : Int} {tgt : Nat} (hd : decode (mBy Y) pc = .ok (.tableswitch dflt lo hi offs, len)) (h1 : ¬ x.toInt < lo) (h2 : ¬ hi < x.toInt) (ho : offs[(x.toInt - lo).toNat]? = some off) (ht : (pc : Int) + off = (tgt : Int)) (h : Go E Y mc ms (tgt) ls (st) S k n K) : Go E Y mc ms (pc) ls (.int x :: st) S k n K := fun p e R s m args below meth c H locs lh F hR hS hl => lv_tableIn F.1.1 F.1.2.1 hd h1 h2 ho ht (h p e R s m args below meth c H locs lh F hR hS hl)
theorem g_tableOut {E : EV} {Y : MI} {mc ms pc k n : Nat} {ls : List (Nat × Value)} {st : List Value} {S : PS} {K : RK → PS → Prop} {dflt lo hi : Int} {offs : Array Int} {len : Nat} {x : Int32} {tgt : Nat} (hd : decode (mBy Y) pc = .ok (.tableswitch dflt lo hi offs, len)) (h0 : x.toInt < lo ∨ hi < x.toInt) (ht : (pc : Int) + dflt = (tgt : Int)) (h : Go E Y mc ms (tgt) ls (st) S k n K) : Go E Y mc ms (pc) ls (.int x :: st) S k n K := fun p e R s m args below meth c H locs lh F hR hS hl => lv_tableOut F.1.1 F.1.2.1 hd h0 ht (h p e R s m args below meth c H locs lh F hR hS hl)
theorem g_lookup {E : EV} {Y : MI} {mc ms pc k n : Nat} {ls : List (Nat × Value)} {st : List Value} {S : PS} {K : RK → PS → Prop} {dflt : Int} {ps : Array (Int × Int)} {len : Nat} {x : Int32} {off : Int} {tgt : Nat} (hd : decode (mBy Y) pc = .ok (.lookupswitch dflt ps, len)) (hp : (ps.toList.zip (ps.toList.drop 1)).all (fun (a, next) => a.1 < next.1) = true) (ho : Op.lookupswitch.offset ps.toList dflt x.toInt = off) (ht : (pc : Int) + off = (tgt : Int)) (h : Go E Y mc ms (tgt) ls (st) S k n K) : Go E Y mc ms (pc) ls (.int x :: st) S k n K := fun p e R s m args below meth c H locs lh F hR hS hl => lv_lookup F.1.1 F.1.2.1 hd hp ho ht (h p e R s m args below meth c H locs lh F hR hS hl)
/-! MEMORY -/
theorem eT_at {E : EV} : ∀ t, t < 6 → (eT E)[t]? = some (eC E t, aT t)
  | 0, _ => rfl
  | 1, _ => rfl
  | 2, _ => rfl
  | 3, _ => rfl
  | 4, _ => rfl
  | 5, _ => rfl
theorem cE_obj {E : EV} {ci : Nat} {vs : List Value} (h : ci < 100) : cE E (ci, vs) = .inr (ci, vs.map (gV E)) := by unfold cE; rw [if_pos h]
theorem cE_arr {E : EV} {t : Nat} {vs : List Value} : cE E (100 + t, vs) = .inl (eC E t, vs.length, arrE E t vs) := by
  unfold cE
  rw [if_neg (by show ¬ 100 + t < 100; omega)]
  show Sum.inl (eC E (100 + t - 100), vs.length, arrE E (100 + t - 100) vs) = _
  rw [Nat.add_sub_cancel_left]
theorem gV_at {E : EV} {vs : List Value} {k : Nat} {v : Value} (h : vs[k]? = some v) : (vs.map (gV E))[k]? = some (gV E v) := by rw [List.getElem?_map, h]; rfl
theorem va_SR {E : EV} {H0 H1 : Heap} {locs : List Loc} : va_S (eA E) H0 H1 locs → va_S (eA E) H0 H1 locs := id
theorem g_getfield {E : EV} {Y : MI} {mc ms pc k n : Nat} {ls : List (Nat × Value)} {st : List Value} {S : PS} {K : RK → PS → Prop} {i a ci f : Nat} {vs : List Value} {v : Value} (hd : decode (mBy Y) pc = .ok (.getfield i, 3))
    (hw : Cond.fieldLink (mNm Y).cls i (TC ci f).1 (TC ci f).2.1 (TC ci f).2.2.1 ∈ gtbl) (hci : ci < 18) (hf : f < NC ci) (ha : a < XB) (hc : S.1[a]? = some (ci, vs)) (hv : vs[f]? = some v)
    (h : Go E Y mc ms (pc + 3) ls (v :: st) S k n K) : Go E Y mc ms pc ls (.ref a :: st) S k n K := by
  intro p e R s m args below meth c H locs lh F hR hS hl
  have e1 : gV E (.ref a) = .ref (eP E a) := congrArg Value.ref (gA_in ha)
  show W p (eL E) e R s m args below meth c H locs k n _ (F0 m pc lh (gV E (.ref a) :: st.map (gV E)))
  rw [e1]
  have h1 := cW_at (E := E) hc (Nat.lt_trans hci (by decide))
  rw [cE_obj (by omega)] at h1
  exact va_get (D := eD E) (ci := ci) (v := gV E v) (C := RC ci) (T := TC ci) (N := NC ci) F.1.1 F.1.2.1 F.1.2.2.2.2 (uwC ci hci) F.1.2.2.2.1 F.2.2.2.1.1 hR.1 (cX S.1 a) h1 (CL_at ci hci) f hf (F.1.2.2.2.2 _ hw) (fun _ h9 => h9) (gV_at hv) hd (h p e R s m args below meth c H locs lh F hR hS hl)

/-- after a store: the world with the cell a changed -/
theorem Rep.setq {E : EV} {S : PS} {H1 : Heap} {a z : Nat} {c c' : PC} (hP : va_P (eD E) CL ((cW E S.1).set (cX S.1 a) (eP E a, cE E c')) H1) (hD : va_D (eA E) (cW E S.1)) (hc : S.1[a]? = some c) (hk : c.1 < 900) (hk' : c'.1 < 900) : Rep E (S.1.set a c', S.2) z H1 := by
  have hD' := hD.set (e := cE E c') (cW_at (E := E) hc hk)
  rw [cW_set hc hk hk'] at hP hD'
  exact ⟨hP, hD'⟩
theorem gV_set {E : EV} {vs : List Value} {f : Nat} {v : Value} : (vs.map (gV E)).set f (gV E v) = (vs.set f v).map (gV E) := by
  rw [List.map_set]
theorem len_at {w : List PC} {a : Nat} {c : PC} (h : w[a]? = some c) : a < w.length := (List.getElem?_eq_some_iff.mp h).1
/-- a value's type: what a field of it may hold -/
def okV (ty : FieldType) (v : Value) : Prop := narrow ty v = v ∧ fits ty v = true
theorem okV_int (x : Int32) : okV .int (.int x) := ⟨rfl, rfl⟩
theorem okV_long (x : Int64) : okV .long (.long x) := ⟨rfl, rfl⟩
theorem okV_obj (C : String) (a : Nat) : okV (.object C) (.ref a) := ⟨rfl, rfl⟩
theorem okV_arr (t : FieldType) (a : Nat) : okV (.array t) (.ref a) := ⟨rfl, rfl⟩
theorem okV_g {E : EV} {ty : FieldType} {v : Value} (h : okV ty v) : okV ty (gV E v) := by
  cases v with
  | ref a =>
    obtain ⟨h1, h2⟩ := h
    cases ty <;> first | exact ⟨rfl, rfl⟩ | (exact absurd h2 (by simp [fits])) | (exact absurd h1 (by simp [narrow]))
  | _ => exact h
theorem g_putfield {E : EV} {Y : MI} {mc ms pc k n : Nat} {ls : List (Nat × Value)} {st : List Value} {S : PS} {K : RK → PS → Prop} {i a ci f : Nat} {vs : List Value} {v : Value} (hd : decode (mBy Y) pc = .ok (.putfield i, 3))
    (hw : Cond.fieldLink (mNm Y).cls i (TC ci f).1 (TC ci f).2.1 (TC ci f).2.2.1 ∈ gtbl) (hci : ci < 18) (hf : f < NC ci) (hfin : (TC ci f).2.2.2 = false) (hty : okV (TYC ci f) v) (ha : a < XB) (hc : S.1[a]? = some (ci, vs)) (hl0 : f < vs.length)
    (h : Go E Y mc ms (pc + 3) ls st (S.1.set a (ci, vs.set f v), S.2) k n K) : Go E Y mc ms pc ls (v :: .ref a :: st) S k n K := by
  intro p e R s m args below meth c H locs lh F hR hS hl
  have e1 : gV E (.ref a) = .ref (eP E a) := congrArg Value.ref (gA_in ha)
  show W p (eL E) e R s m args below meth c H locs k n _ (F0 m pc lh (gV E v :: gV E (.ref a) :: st.map (gV E)))
  rw [e1]
  have h1 := cW_at (E := E) hc (Nat.lt_trans hci (by decide))
  rw [cE_obj (by omega)] at h1
  refine va_put (D := eD E) (ci := ci) (v := gV E v) (ty := TYC ci f) (C := RC ci) (T := TC ci) (N := NC ci) F.1.1 F.1.2.1 F.1.2.2.2.2 (uwC ci hci) (TYC ci) (tyC ci hci) (nmC ci hci) F.1.2.2.2.1 F.2.2.2.1.1 hR.1 hR.2 hS (cX S.1 a) h1 (CL_at ci hci) f hf (F.1.2.2.2.2 _ hw) (fun _ h9 => h9) hfin (tyC ci hci f hf) (okV_g hty).1 (okV_g hty).2 (by rw [List.length_map]; exact hl0) hd (fun H1 locs1 hP1 hD1 hS1 => ?_)
  refine h p e R s m args below meth c H1 locs1 lh F ?_ hS1 hl
  refine Rep.setq (c' := (ci, vs.set f v)) ?_ hR.2 hc (Nat.lt_trans hci (by decide)) (Nat.lt_trans hci (by decide))
  rw [cE_obj (by omega), ← gV_set]
  exact hP1
theorem g_putfinal {E : EV} {Y : MI} {mc ms pc k n : Nat} {ls : List (Nat × Value)} {st : List Value} {S : PS} {K : RK → PS → Prop} {i a ci f : Nat} {vs : List Value} {v : Value} (hd : decode (mBy Y) pc = .ok (.putfield i, 3))
    (hw : Cond.fieldLink (mNm Y).cls i (TC ci f).1 (TC ci f).2.1 (TC ci f).2.2.1 ∈ gtbl) (hci : ci < 18) (hf : f < NC ci) (hfin : (TC ci f).2.2.2 = true) (hin : (mNm Y).name = "<init>") (hdc : (TC ci f).1 = (mNm Y).cls) (hty : okV (TYC ci f) v) (ha : a < XB) (hc : S.1[a]? = some (ci, vs)) (hl0 : f < vs.length)
    (h : Go E Y mc ms (pc + 3) ls st (S.1.set a (ci, vs.set f v), S.2) k n K) : Go E Y mc ms pc ls (v :: .ref a :: st) S k n K := by
  intro p e R s m args below meth c H locs lh F hR hS hl
  have e1 : gV E (.ref a) = .ref (eP E a) := congrArg Value.ref (gA_in ha)
  show W p (eL E) e R s m args below meth c H locs k n _ (F0 m pc lh (gV E v :: gV E (.ref a) :: st.map (gV E)))
  rw [e1]
  have h1 := cW_at (E := E) hc (Nat.lt_trans hci (by decide))
  rw [cE_obj (by omega)] at h1
  refine va_putF (D := eD E) (ci := ci) (v := gV E v) (ty := TYC ci f) (C := RC ci) (T := TC ci) (N := NC ci) F.1.1 F.1.2.1 F.1.2.2.2.2 (uwC ci hci) (TYC ci) (tyC ci hci) (nmC ci hci) F.1.2.2.2.1 F.2.2.2.1.1 hR.1 hR.2 hS (cX S.1 a) h1 (CL_at ci hci) f hf (F.1.2.2.2.2 _ hw) (fun _ h9 => h9) hfin (F.2.1.2.2.1.trans hin) hdc (tyC ci hci f hf) (okV_g hty).1 (okV_g hty).2 (by rw [List.length_map]; exact hl0) hd (fun H1 locs1 hP1 hD1 hS1 => ?_)
  refine h p e R s m args below meth c H1 locs1 lh F ?_ hS1 hl
  refine Rep.setq (c' := (ci, vs.set f v)) ?_ hR.2 hc (Nat.lt_trans hci (by decide)) (Nat.lt_trans hci (by decide))
  rw [cE_obj (by omega), ← gV_set]
  exact hP1
theorem arr_at {E : EV} {w : List PC} {a t : Nat} {vs : List Value} (h : w[a]? = some (100 + t, vs)) (ht : t < 6) : (cW E w)[cX w a]? = some (eP E a, .inl (eC E t, vs.length, arrE E t vs)) := by
  have h1 := cW_at (E := E) h (show 100 + t < 900 by omega)
  rw [cE_arr] at h1
  exact h1
theorem getD_at {vs : List Value} {j : Nat} {v : Value} (h : vs[j]? = some v) : vs.getD j .null = v := by
  rw [List.getD_eq_getElem?_getD, h]; rfl
theorem getD_set {vs : List Value} {i j : Nat} {v : Value} (hv : i < vs.length) : (vs.set i v).getD j .null = if j = i then v else vs.getD j .null := by
  rw [List.getD_eq_getElem?_getD, List.getElem?_set, List.getD_eq_getElem?_getD]
  by_cases hj : j = i
  · subst hj
    rw [if_pos rfl, if_pos rfl, if_pos hv]
    rfl
  · rw [if_neg (fun h => hj h.symm), if_neg hj]
theorem in_at {x : Int32} {vs : List Value} {v : Value} (h0 : 0 ≤ x.toInt) (h : vs[x.toInt.toNat]? = some v) : vp_in x vs.length := by
  have := (List.getElem?_eq_some_iff.mp h).1
  exact vp_in_iff.mpr ⟨h0, by omega⟩
theorem clamp_eq (x : Int32) : x.toNatClampNeg = x.toInt.toNat := rfl
theorem g_alen {E : EV} {Y : MI} {mc ms pc k n : Nat} {ls : List (Nat × Value)} {st : List Value} {S : PS} {K : RK → PS → Prop} {a t : Nat} {vs : List Value} {v : Int32} (hd : decode (mBy Y) pc = .ok (.arraylength, 1)) (ht : t < 6) (ha : a < XB) (hc : S.1[a]? = some (100 + t, vs)) (hv : Int32.ofNat vs.length = v)
    (h : Go E Y mc ms (pc + 1) ls (.int v :: st) S k n K) : Go E Y mc ms pc ls (.ref a :: st) S k n K := by
  intro p e R s m args below meth c H locs lh F hR hS hl
  have e1 : gV E (.ref a) = .ref (eP E a) := congrArg Value.ref (gA_in ha)
  show W p (eL E) e R s m args below meth c H locs k n _ (F0 m pc lh (gV E (.ref a) :: st.map (gV E)))
  rw [e1]
  exact va_alen F.1.1 F.1.2.1 F.2.2.2.1.1 hR.1 (cX S.1 a) t (arr_at hc ht) (eT_at t ht) hv hd (h p e R s m args below meth c H locs lh F hR hS hl)
theorem g_iaload {E : EV} {Y : MI} {mc ms pc k n : Nat} {ls : List (Nat × Value)} {st : List Value} {S : PS} {K : RK → PS → Prop} {a : Nat} {vs : List Value} {x : Int32} {y : Int32} (hd : decode (mBy Y) pc = .ok (.iaload, 1)) (ha : a < XB) (hc : S.1[a]? = some (100 + 0, vs)) (h0 : 0 ≤ x.toInt) (hv : vs[x.toInt.toNat]? = some (.int y))
    (h : Go E Y mc ms (pc + 1) ls (.int y :: st) S k n K) : Go E Y mc ms pc ls (.int x :: .ref a :: st) S k n K := by
  intro p e R s m args below meth c H locs lh F hR hS hl
  have e1 : gV E (.ref a) = .ref (eP E a) := congrArg Value.ref (gA_in ha)
  show W p (eL E) e R s m args below meth c H locs k n _ (F0 m pc lh (.int x :: gV E (.ref a) :: st.map (gV E)))
  rw [e1]
  refine va_iald F.1.1 F.1.2.1 F.2.2.2.1.1 hR.1 (cX S.1 a) 0 (arr_at hc (by decide)) (eT_at 0 (by decide)) (in_at h0 hv) hd ?_
  have e2 : vInt (vs.getD x.toNatClampNeg .null) = y := by rw [clamp_eq, getD_at hv]; rfl
  show W p (eL E) e R s m args below meth c H locs k n _ (F0 m (pc + 1) lh (.int (vInt (vs.getD x.toNatClampNeg .null)) :: st.map (gV E)))
  rw [e2]
  exact h p e R s m args below meth c H locs lh F hR hS hl
theorem g_baload {E : EV} {Y : MI} {mc ms pc k n : Nat} {ls : List (Nat × Value)} {st : List Value} {S : PS} {K : RK → PS → Prop} {a : Nat} {vs : List Value} {x : Int32} {y : Int32} (hd : decode (mBy Y) pc = .ok (.baload, 1)) (ha : a < XB) (hc : S.1[a]? = some (100 + 1, vs)) (h0 : 0 ≤ x.toInt) (hv : vs[x.toInt.toNat]? = some (.int y))
    (h : Go E Y mc ms (pc + 1) ls (.int y :: st) S k n K) : Go E Y mc ms pc ls (.int x :: .ref a :: st) S k n K := by
  intro p e R s m args below meth c H locs lh F hR hS hl
  have e1 : gV E (.ref a) = .ref (eP E a) := congrArg Value.ref (gA_in ha)
  show W p (eL E) e R s m args below meth c H locs k n _ (F0 m pc lh (.int x :: gV E (.ref a) :: st.map (gV E)))
  rw [e1]
  refine va_bald F.1.1 F.1.2.1 F.2.2.2.1.1 hR.1 (cX S.1 a) 1 (arr_at hc (by decide)) (eT_at 1 (by decide)) (in_at h0 hv) hd ?_
  have e2 : vInt (vs.getD x.toNatClampNeg .null) = y := by rw [clamp_eq, getD_at hv]; rfl
  show W p (eL E) e R s m args below meth c H locs k n _ (F0 m (pc + 1) lh (.int (vInt (vs.getD x.toNatClampNeg .null)) :: st.map (gV E)))
  rw [e2]
  exact h p e R s m args below meth c H locs lh F hR hS hl
theorem g_zaload {E : EV} {Y : MI} {mc ms pc k n : Nat} {ls : List (Nat × Value)} {st : List Value} {S : PS} {K : RK → PS → Prop} {a : Nat} {vs : List Value} {x : Int32} {y : Int32} (hd : decode (mBy Y) pc = .ok (.baload, 1)) (ha : a < XB) (hc : S.1[a]? = some (100 + 2, vs)) (h0 : 0 ≤ x.toInt) (hv : vs[x.toInt.toNat]? = some (.int y))
    (h : Go E Y mc ms (pc + 1) ls (.int y :: st) S k n K) : Go E Y mc ms pc ls (.int x :: .ref a :: st) S k n K := by
  intro p e R s m args below meth c H locs lh F hR hS hl
  have e1 : gV E (.ref a) = .ref (eP E a) := congrArg Value.ref (gA_in ha)
  show W p (eL E) e R s m args below meth c H locs k n _ (F0 m pc lh (.int x :: gV E (.ref a) :: st.map (gV E)))
  rw [e1]
  refine va_zald F.1.1 F.1.2.1 F.2.2.2.1.1 hR.1 (cX S.1 a) 2 (arr_at hc (by decide)) (eT_at 2 (by decide)) (in_at h0 hv) hd ?_
  have e2 : vInt (vs.getD x.toNatClampNeg .null) = y := by rw [clamp_eq, getD_at hv]; rfl
  show W p (eL E) e R s m args below meth c H locs k n _ (F0 m (pc + 1) lh (.int (vInt (vs.getD x.toNatClampNeg .null)) :: st.map (gV E)))
  rw [e2]
  exact h p e R s m args below meth c H locs lh F hR hS hl
theorem g_iastore {E : EV} {Y : MI} {mc ms pc k n : Nat} {ls : List (Nat × Value)} {st : List Value} {S : PS} {K : RK → PS → Prop} {a : Nat} {vs : List Value} {x : Int32} {y : Int32} (hd : decode (mBy Y) pc = .ok (.iastore, 1)) (ha : a < XB) (hc : S.1[a]? = some (100 + 0, vs)) (h0 : 0 ≤ x.toInt) (hv : x.toInt.toNat < vs.length)
    (h : Go E Y mc ms (pc + 1) ls st (S.1.set a (100 + 0, vs.set x.toInt.toNat (.int (y))), S.2) k n K) : Go E Y mc ms pc ls (.int y :: .int x :: .ref a :: st) S k n K := by
  intro p e R s m args below meth c H locs lh F hR hS hl
  have e1 : gV E (.ref a) = .ref (eP E a) := congrArg Value.ref (gA_in ha)
  show W p (eL E) e R s m args below meth c H locs k n _ (F0 m pc lh (.int y :: .int x :: gV E (.ref a) :: st.map (gV E)))
  rw [e1]
  refine va_iast F.1.1 F.1.2.1 F.2.2.2.1.1 hR.1 hR.2 hS (cX S.1 a) 0 (arr_at hc (by decide)) (eT_at 0 (by decide)) (vp_in_iff.mpr ⟨h0, by omega⟩) hd (fun H1 locs1 hP1 hD1 hS1 => ?_)
  refine h p e R s m args below meth c H1 locs1 lh F ?_ hS1 hl
  refine Rep.setq (c' := (100 + 0, vs.set x.toInt.toNat (.int (y)))) ?_ hR.2 hc (Nat.le_of_ble_eq_true rfl) (Nat.le_of_ble_eq_true rfl)
  rw [cE_arr, List.length_set]
  have e2 : upd (fun j => vInt (vs.getD j .null)) x.toNatClampNeg (y) = fun j => vInt ((vs.set x.toInt.toNat (.int (y))).getD j .null) := by
    funext j
    rw [getD_set hv, clamp_eq]
    unfold upd
    by_cases hj : j = x.toInt.toNat
    · rw [if_pos hj, if_pos hj]; rfl
    · rw [if_neg hj, if_neg hj]
  show va_P (eD E) CL ((cW E S.1).set (cX S.1 a) (eP E a, .inl (eC E 0, vs.length, .inl (fun j => vInt ((vs.set x.toInt.toNat (.int (y))).getD j .null))))) H1
  rw [← e2]
  exact hP1
theorem g_bastore {E : EV} {Y : MI} {mc ms pc k n : Nat} {ls : List (Nat × Value)} {st : List Value} {S : PS} {K : RK → PS → Prop} {a : Nat} {vs : List Value} {x : Int32} {y : Int32} (hd : decode (mBy Y) pc = .ok (.bastore, 1)) (ha : a < XB) (hc : S.1[a]? = some (100 + 1, vs)) (h0 : 0 ≤ x.toInt) (hv : x.toInt.toNat < vs.length)
    (h : Go E Y mc ms (pc + 1) ls st (S.1.set a (100 + 1, vs.set x.toInt.toNat (.int (vp_nar .byte y))), S.2) k n K) : Go E Y mc ms pc ls (.int y :: .int x :: .ref a :: st) S k n K := by
  intro p e R s m args below meth c H locs lh F hR hS hl
  have e1 : gV E (.ref a) = .ref (eP E a) := congrArg Value.ref (gA_in ha)
  show W p (eL E) e R s m args below meth c H locs k n _ (F0 m pc lh (.int y :: .int x :: gV E (.ref a) :: st.map (gV E)))
  rw [e1]
  refine va_bast F.1.1 F.1.2.1 F.2.2.2.1.1 hR.1 hR.2 hS (cX S.1 a) 1 (arr_at hc (by decide)) (eT_at 1 (by decide)) (vp_in_iff.mpr ⟨h0, by omega⟩) hd (fun H1 locs1 hP1 hD1 hS1 => ?_)
  refine h p e R s m args below meth c H1 locs1 lh F ?_ hS1 hl
  refine Rep.setq (c' := (100 + 1, vs.set x.toInt.toNat (.int (vp_nar .byte y)))) ?_ hR.2 hc (Nat.le_of_ble_eq_true rfl) (Nat.le_of_ble_eq_true rfl)
  rw [cE_arr, List.length_set]
  have e2 : upd (fun j => vInt (vs.getD j .null)) x.toNatClampNeg (vp_nar .byte y) = fun j => vInt ((vs.set x.toInt.toNat (.int (vp_nar .byte y))).getD j .null) := by
    funext j
    rw [getD_set hv, clamp_eq]
    unfold upd
    by_cases hj : j = x.toInt.toNat
    · rw [if_pos hj, if_pos hj]; rfl
    · rw [if_neg hj, if_neg hj]
  show va_P (eD E) CL ((cW E S.1).set (cX S.1 a) (eP E a, .inl (eC E 1, vs.length, .inl (fun j => vInt ((vs.set x.toInt.toNat (.int (vp_nar .byte y))).getD j .null))))) H1
  rw [← e2]
  exact hP1
theorem g_zastore {E : EV} {Y : MI} {mc ms pc k n : Nat} {ls : List (Nat × Value)} {st : List Value} {S : PS} {K : RK → PS → Prop} {a : Nat} {vs : List Value} {x : Int32} {y : Int32} (hd : decode (mBy Y) pc = .ok (.bastore, 1)) (ha : a < XB) (hc : S.1[a]? = some (100 + 2, vs)) (h0 : 0 ≤ x.toInt) (hv : x.toInt.toNat < vs.length)
    (h : Go E Y mc ms (pc + 1) ls st (S.1.set a (100 + 2, vs.set x.toInt.toNat (.int (vp_nar .boolean y))), S.2) k n K) : Go E Y mc ms pc ls (.int y :: .int x :: .ref a :: st) S k n K := by
  intro p e R s m args below meth c H locs lh F hR hS hl
  have e1 : gV E (.ref a) = .ref (eP E a) := congrArg Value.ref (gA_in ha)
  show W p (eL E) e R s m args below meth c H locs k n _ (F0 m pc lh (.int y :: .int x :: gV E (.ref a) :: st.map (gV E)))
  rw [e1]
  refine va_zast F.1.1 F.1.2.1 F.2.2.2.1.1 hR.1 hR.2 hS (cX S.1 a) 2 (arr_at hc (by decide)) (eT_at 2 (by decide)) (vp_in_iff.mpr ⟨h0, by omega⟩) hd (fun H1 locs1 hP1 hD1 hS1 => ?_)
  refine h p e R s m args below meth c H1 locs1 lh F ?_ hS1 hl
  refine Rep.setq (c' := (100 + 2, vs.set x.toInt.toNat (.int (vp_nar .boolean y)))) ?_ hR.2 hc (Nat.le_of_ble_eq_true rfl) (Nat.le_of_ble_eq_true rfl)
  rw [cE_arr, List.length_set]
  have e2 : upd (fun j => vInt (vs.getD j .null)) x.toNatClampNeg (vp_nar .boolean y) = fun j => vInt ((vs.set x.toInt.toNat (.int (vp_nar .boolean y))).getD j .null) := by
    funext j
    rw [getD_set hv, clamp_eq]
    unfold upd
    by_cases hj : j = x.toInt.toNat
    · rw [if_pos hj, if_pos hj]; rfl
    · rw [if_neg hj, if_neg hj]
  show va_P (eD E) CL ((cW E S.1).set (cX S.1 a) (eP E a, .inl (eC E 2, vs.length, .inl (fun j => vInt ((vs.set x.toInt.toNat (.int (vp_nar .boolean y))).getD j .null))))) H1
  rw [← e2]
  exact hP1
