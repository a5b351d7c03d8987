def nCell : Nat := 514
def SH : List (List (Nat × Nat × List Nat)) := [[(10, 0, [61, 1, 505, 5, 63, 3]), (1, 0, [2, 0]), (100, 1600, []), (1, 0, [4, 0]), (100, 20, []), (4, 0, [6, 0, 0, 28, 29, 30, 31, 32]), (8, 0, [7, 15, 21, 24, 0, 0, 0, 0]), (0, 0, [8, 9, 10, 11, 12, 13, 14, 0]), (100, 40, []), (100, 40, []), (100, 40, []), (100, 40, []), (100, 40, []), (100, 40, []), (100, 40, []), (9, 0, [16, 17, 18, 19, 20, 0]), (100, 10, []), (100, 10, []), (100, 10, []), (100, 10, []), (100, 10, []), (7, 0, [22, 23, 0]), (100, 8, []), (100, 8, [])], [(2, 0, [25, 26, 27]), (100, 8, []), (100, 8, []), (100, 8, []), (100, 65, []), (100, 65, []), (100, 65, []), (100, 65, []), (100, 330, []), (4, 0, [34, 0, 0, 56, 57, 58, 59, 60]), (8, 0, [35, 43, 49, 52, 0, 0, 0, 0]), (0, 0, [36, 37, 38, 39, 40, 41, 42, 0]), (100, 40, []), (100, 40, []), (100, 40, []), (100, 40, []), (100, 40, []), (100, 40, []), (100, 40, []), (9, 0, [44, 45, 46, 47, 48, 0]), (100, 10, []), (100, 10, []), (100, 10, []), (100, 10, [])], [(100, 10, []), (7, 0, [50, 51, 0]), (100, 8, []), (100, 8, []), (2, 0, [53, 54, 55]), (100, 8, []), (100, 8, []), (100, 8, []), (100, 65, []), (100, 65, []), (100, 65, []), (100, 65, []), (100, 330, []), (5, 0, [1, 33, 62, 0, 0, 0, 0, 0]), (100, 6, []), (3, 0, [64, 0, 0]), (105, 20, [65, 87, 109, 131, 153, 175, 197, 219, 241, 263, 285, 307, 329, 351, 373, 395, 417, 439, 461, 483]), (8, 0, [66, 74, 80, 83, 0, 0, 0, 0]), (0, 0, [67, 68, 69, 70, 71, 72, 73, 0]), (100, 40, []), (100, 40, []), (100, 40, []), (100, 40, []), (100, 40, [])], [(100, 40, []), (100, 40, []), (9, 0, [75, 76, 77, 78, 79, 0]), (100, 10, []), (100, 10, []), (100, 10, []), (100, 10, []), (100, 10, []), (7, 0, [81, 82, 0]), (100, 8, []), (100, 8, []), (2, 0, [84, 85, 86]), (100, 8, []), (100, 8, []), (100, 8, []), (8, 0, [88, 96, 102, 105, 0, 0, 0, 0]), (0, 0, [89, 90, 91, 92, 93, 94, 95, 0]), (100, 40, []), (100, 40, []), (100, 40, []), (100, 40, []), (100, 40, []), (100, 40, []), (100, 40, [])], [(9, 0, [97, 98, 99, 100, 101, 0]), (100, 10, []), (100, 10, []), (100, 10, []), (100, 10, []), (100, 10, []), (7, 0, [103, 104, 0]), (100, 8, []), (100, 8, []), (2, 0, [106, 107, 108]), (100, 8, []), (100, 8, []), (100, 8, []), (8, 0, [110, 118, 124, 127, 0, 0, 0, 0]), (0, 0, [111, 112, 113, 114, 115, 116, 117, 0]), (100, 40, []), (100, 40, []), (100, 40, []), (100, 40, []), (100, 40, []), (100, 40, []), (100, 40, []), (9, 0, [119, 120, 121, 122, 123, 0]), (100, 10, [])], [(100, 10, []), (100, 10, []), (100, 10, []), (100, 10, []), (7, 0, [125, 126, 0]), (100, 8, []), (100, 8, []), (2, 0, [128, 129, 130]), (100, 8, []), (100, 8, []), (100, 8, []), (8, 0, [132, 140, 146, 149, 0, 0, 0, 0]), (0, 0, [133, 134, 135, 136, 137, 138, 139, 0]), (100, 40, []), (100, 40, []), (100, 40, []), (100, 40, []), (100, 40, []), (100, 40, []), (100, 40, []), (9, 0, [141, 142, 143, 144, 145, 0]), (100, 10, []), (100, 10, []), (100, 10, [])], [(100, 10, []), (100, 10, []), (7, 0, [147, 148, 0]), (100, 8, []), (100, 8, []), (2, 0, [150, 151, 152]), (100, 8, []), (100, 8, []), (100, 8, []), (8, 0, [154, 162, 168, 171, 0, 0, 0, 0]), (0, 0, [155, 156, 157, 158, 159, 160, 161, 0]), (100, 40, []), (100, 40, []), (100, 40, []), (100, 40, []), (100, 40, []), (100, 40, []), (100, 40, []), (9, 0, [163, 164, 165, 166, 167, 0]), (100, 10, []), (100, 10, []), (100, 10, []), (100, 10, []), (100, 10, [])], [(7, 0, [169, 170, 0]), (100, 8, []), (100, 8, []), (2, 0, [172, 173, 174]), (100, 8, []), (100, 8, []), (100, 8, []), (8, 0, [176, 184, 190, 193, 0, 0, 0, 0]), (0, 0, [177, 178, 179, 180, 181, 182, 183, 0]), (100, 40, []), (100, 40, []), (100, 40, []), (100, 40, []), (100, 40, []), (100, 40, []), (100, 40, []), (9, 0, [185, 186, 187, 188, 189, 0]), (100, 10, []), (100, 10, []), (100, 10, []), (100, 10, []), (100, 10, []), (7, 0, [191, 192, 0]), (100, 8, [])], [(100, 8, []), (2, 0, [194, 195, 196]), (100, 8, []), (100, 8, []), (100, 8, []), (8, 0, [198, 206, 212, 215, 0, 0, 0, 0]), (0, 0, [199, 200, 201, 202, 203, 204, 205, 0]), (100, 40, []), (100, 40, []), (100, 40, []), (100, 40, []), (100, 40, []), (100, 40, []), (100, 40, []), (9, 0, [207, 208, 209, 210, 211, 0]), (100, 10, []), (100, 10, []), (100, 10, []), (100, 10, []), (100, 10, []), (7, 0, [213, 214, 0]), (100, 8, []), (100, 8, []), (2, 0, [216, 217, 218])], [(100, 8, []), (100, 8, []), (100, 8, []), (8, 0, [220, 228, 234, 237, 0, 0, 0, 0]), (0, 0, [221, 222, 223, 224, 225, 226, 227, 0]), (100, 40, []), (100, 40, []), (100, 40, []), (100, 40, []), (100, 40, []), (100, 40, []), (100, 40, []), (9, 0, [229, 230, 231, 232, 233, 0]), (100, 10, []), (100, 10, []), (100, 10, []), (100, 10, []), (100, 10, []), (7, 0, [235, 236, 0]), (100, 8, []), (100, 8, []), (2, 0, [238, 239, 240]), (100, 8, []), (100, 8, [])], [(100, 8, []), (8, 0, [242, 250, 256, 259, 0, 0, 0, 0]), (0, 0, [243, 244, 245, 246, 247, 248, 249, 0]), (100, 40, []), (100, 40, []), (100, 40, []), (100, 40, []), (100, 40, []), (100, 40, []), (100, 40, []), (9, 0, [251, 252, 253, 254, 255, 0]), (100, 10, []), (100, 10, []), (100, 10, []), (100, 10, []), (100, 10, []), (7, 0, [257, 258, 0]), (100, 8, []), (100, 8, []), (2, 0, [260, 261, 262]), (100, 8, []), (100, 8, []), (100, 8, []), (8, 0, [264, 272, 278, 281, 0, 0, 0, 0])], [(0, 0, [265, 266, 267, 268, 269, 270, 271, 0]), (100, 40, []), (100, 40, []), (100, 40, []), (100, 40, []), (100, 40, []), (100, 40, []), (100, 40, []), (9, 0, [273, 274, 275, 276, 277, 0]), (100, 10, []), (100, 10, []), (100, 10, []), (100, 10, []), (100, 10, []), (7, 0, [279, 280, 0]), (100, 8, []), (100, 8, []), (2, 0, [282, 283, 284]), (100, 8, []), (100, 8, []), (100, 8, []), (8, 0, [286, 294, 300, 303, 0, 0, 0, 0]), (0, 0, [287, 288, 289, 290, 291, 292, 293, 0]), (100, 40, [])], [(100, 40, []), (100, 40, []), (100, 40, []), (100, 40, []), (100, 40, []), (100, 40, []), (9, 0, [295, 296, 297, 298, 299, 0]), (100, 10, []), (100, 10, []), (100, 10, []), (100, 10, []), (100, 10, []), (7, 0, [301, 302, 0]), (100, 8, []), (100, 8, []), (2, 0, [304, 305, 306]), (100, 8, []), (100, 8, []), (100, 8, []), (8, 0, [308, 316, 322, 325, 0, 0, 0, 0]), (0, 0, [309, 310, 311, 312, 313, 314, 315, 0]), (100, 40, []), (100, 40, []), (100, 40, [])], [(100, 40, []), (100, 40, []), (100, 40, []), (100, 40, []), (9, 0, [317, 318, 319, 320, 321, 0]), (100, 10, []), (100, 10, []), (100, 10, []), (100, 10, []), (100, 10, []), (7, 0, [323, 324, 0]), (100, 8, []), (100, 8, []), (2, 0, [326, 327, 328]), (100, 8, []), (100, 8, []), (100, 8, []), (8, 0, [330, 338, 344, 347, 0, 0, 0, 0]), (0, 0, [331, 332, 333, 334, 335, 336, 337, 0]), (100, 40, []), (100, 40, []), (100, 40, []), (100, 40, []), (100, 40, [])], [(100, 40, []), (100, 40, []), (9, 0, [339, 340, 341, 342, 343, 0]), (100, 10, []), (100, 10, []), (100, 10, []), (100, 10, []), (100, 10, []), (7, 0, [345, 346, 0]), (100, 8, []), (100, 8, []), (2, 0, [348, 349, 350]), (100, 8, []), (100, 8, []), (100, 8, []), (8, 0, [352, 360, 366, 369, 0, 0, 0, 0]), (0, 0, [353, 354, 355, 356, 357, 358, 359, 0]), (100, 40, []), (100, 40, []), (100, 40, []), (100, 40, []), (100, 40, []), (100, 40, []), (100, 40, [])], [(9, 0, [361, 362, 363, 364, 365, 0]), (100, 10, []), (100, 10, []), (100, 10, []), (100, 10, []), (100, 10, []), (7, 0, [367, 368, 0]), (100, 8, []), (100, 8, []), (2, 0, [370, 371, 372]), (100, 8, []), (100, 8, []), (100, 8, []), (8, 0, [374, 382, 388, 391, 0, 0, 0, 0]), (0, 0, [375, 376, 377, 378, 379, 380, 381, 0]), (100, 40, []), (100, 40, []), (100, 40, []), (100, 40, []), (100, 40, []), (100, 40, []), (100, 40, []), (9, 0, [383, 384, 385, 386, 387, 0]), (100, 10, [])], [(100, 10, []), (100, 10, []), (100, 10, []), (100, 10, []), (7, 0, [389, 390, 0]), (100, 8, []), (100, 8, []), (2, 0, [392, 393, 394]), (100, 8, []), (100, 8, []), (100, 8, []), (8, 0, [396, 404, 410, 413, 0, 0, 0, 0]), (0, 0, [397, 398, 399, 400, 401, 402, 403, 0]), (100, 40, []), (100, 40, []), (100, 40, []), (100, 40, []), (100, 40, []), (100, 40, []), (100, 40, []), (9, 0, [405, 406, 407, 408, 409, 0]), (100, 10, []), (100, 10, []), (100, 10, [])], [(100, 10, []), (100, 10, []), (7, 0, [411, 412, 0]), (100, 8, []), (100, 8, []), (2, 0, [414, 415, 416]), (100, 8, []), (100, 8, []), (100, 8, []), (8, 0, [418, 426, 432, 435, 0, 0, 0, 0]), (0, 0, [419, 420, 421, 422, 423, 424, 425, 0]), (100, 40, []), (100, 40, []), (100, 40, []), (100, 40, []), (100, 40, []), (100, 40, []), (100, 40, []), (9, 0, [427, 428, 429, 430, 431, 0]), (100, 10, []), (100, 10, []), (100, 10, []), (100, 10, []), (100, 10, [])], [(7, 0, [433, 434, 0]), (100, 8, []), (100, 8, []), (2, 0, [436, 437, 438]), (100, 8, []), (100, 8, []), (100, 8, []), (8, 0, [440, 448, 454, 457, 0, 0, 0, 0]), (0, 0, [441, 442, 443, 444, 445, 446, 447, 0]), (100, 40, []), (100, 40, []), (100, 40, []), (100, 40, []), (100, 40, []), (100, 40, []), (100, 40, []), (9, 0, [449, 450, 451, 452, 453, 0]), (100, 10, []), (100, 10, []), (100, 10, []), (100, 10, []), (100, 10, []), (7, 0, [455, 456, 0]), (100, 8, [])], [(100, 8, []), (2, 0, [458, 459, 460]), (100, 8, []), (100, 8, []), (100, 8, []), (8, 0, [462, 470, 476, 479, 0, 0, 0, 0]), (0, 0, [463, 464, 465, 466, 467, 468, 469, 0]), (100, 40, []), (100, 40, []), (100, 40, []), (100, 40, []), (100, 40, []), (100, 40, []), (100, 40, []), (9, 0, [471, 472, 473, 474, 475, 0]), (100, 10, []), (100, 10, []), (100, 10, []), (100, 10, []), (100, 10, []), (7, 0, [477, 478, 0]), (100, 8, []), (100, 8, []), (2, 0, [480, 481, 482])], [(100, 8, []), (100, 8, []), (100, 8, []), (8, 0, [484, 492, 498, 501, 0, 0, 0, 0]), (0, 0, [485, 486, 487, 488, 489, 490, 491, 0]), (100, 40, []), (100, 40, []), (100, 40, []), (100, 40, []), (100, 40, []), (100, 40, []), (100, 40, []), (9, 0, [493, 494, 495, 496, 497, 0]), (100, 10, []), (100, 10, []), (100, 10, []), (100, 10, []), (100, 10, []), (7, 0, [499, 500, 0]), (100, 8, []), (100, 8, []), (2, 0, [502, 503, 504]), (100, 8, []), (100, 8, [])], [(100, 8, []), (6, 0, [5, 6, 506, 507, 508, 509, 510, 511, 512, 513]), (100, 40, []), (100, 4, []), (100, 65, []), (100, 40, []), (100, 65, []), (100, 40, []), (100, 8, []), (100, 65, [])]]
/-! THE GRAPH OF THE OBJECTS, as it stands once both objects and the law's two arrays are made: only numbers change in it -/
abbrev St : Type := (Nat → Nat → Int32) × (Nat → Nat → Int64) × (Nat → Nat → UInt64)
def shA (a : Nat) : Nat × Nat × List Nat := (SH.getD (a / 24) []).getD (a % 24) (0, 0, [])
def kd (a : Nat) : Nat := (shA a).1
def ln (a : Nat) : Nat := (shA a).2.1
def tgt (a f : Nat) : Nat := ((shA a).2.2).getD f 0
def IsC (c a : Nat) : Prop := a < nCell ∧ kd a = c
def IsA (t n a : Nat) : Prop := a < nCell ∧ kd a = 100 + t ∧ ln a = n
def fv (S : St) (a f : Nat) : Value := match TYC (kd a) f with
  | .int => .int (S.1 a f)
  | .long => .long (S.2.1 a f)
  | _ => .ref (tgt a f)
def av (S : St) (a i : Nat) : Value := if kd a = 105 then .ref (tgt a i) else if kd a = 103 then .long (S.2.1 a i) else if kd a = 104 then .double (S.2.2 a i) else .int (S.1 a i)
def sl (S : St) (a : Nat) : List Value := if kd a < 100 then (List.range (NC (kd a))).map (fv S a) else (List.range (ln a)).map (av S a)
def gm (S : St) : List PC := (List.range nCell).map (fun a => (kd a, sl S a))
abbrev WS (S : St) : PS := (gm S, false)
theorem gm_at {S : St} {a : Nat} (h : a < nCell) : (gm S)[a]? = some (kd a, sl S a) := by
  unfold gm
  rw [List.getElem?_map, List.getElem?_range h]; rfl
theorem lt_XB {a : Nat} (h : a < nCell) : a < XB := Nat.lt_trans h (by decide)
theorem gm_C {S : St} {c a : Nat} (h : IsC c a) : (gm S)[a]? = some (c, sl S a) := by
  rw [← h.2]
  exact gm_at h.1
theorem gm_A {S : St} {t n a : Nat} (h : IsA t n a) : (gm S)[a]? = some (100 + t, sl S a) := by
  rw [← h.2.1]
  exact gm_at h.1
theorem sl_C {S : St} {c a f : Nat} (h : IsC c a) (hc : c < 18) (hf : f < NC c) : (sl S a)[f]? = some (fv S a f) := by
  unfold sl
  rw [if_pos (by rw [h.2]; omega), List.getElem?_map, List.getElem?_range (by rw [h.2]; exact hf)]; rfl
theorem sl_A {S : St} {t n a i : Nat} (h : IsA t n a) (hi : i < n) : (sl S a)[i]? = some (av S a i) := by
  unfold sl
  rw [if_neg (by rw [h.2.1]; omega), List.getElem?_map, List.getElem?_range (by rw [h.2.2]; exact hi)]; rfl
theorem sl_Clen {S : St} {c a : Nat} (h : IsC c a) (hc : c < 18) : (sl S a).length = NC c := by
  unfold sl
  rw [if_pos (by rw [h.2]; omega), List.length_map, List.length_range, h.2]
theorem sl_Alen {S : St} {t n a : Nat} (h : IsA t n a) : (sl S a).length = n := by
  unfold sl
  rw [if_neg (by rw [h.2.1]; omega), List.length_map, List.length_range, h.2.2]
theorem fv_int {S : St} {c a f : Nat} (h : IsC c a) (ht : TYC c f = .int) : fv S a f = .int (S.1 a f) := by unfold fv; rw [h.2, ht]
theorem fv_long {S : St} {c a f : Nat} (h : IsC c a) (ht : TYC c f = .long) : fv S a f = .long (S.2.1 a f) := by unfold fv; rw [h.2, ht]
theorem fv_obj {S : St} {c a f : Nat} {C : String} (h : IsC c a) (ht : TYC c f = .object C) : fv S a f = .ref (tgt a f) := by unfold fv; rw [h.2, ht]
theorem fv_arr {S : St} {c a f : Nat} {t : FieldType} (h : IsC c a) (ht : TYC c f = .array t) : fv S a f = .ref (tgt a f) := by unfold fv; rw [h.2, ht]
theorem av_int {S : St} {t n a i : Nat} (h : IsA t n a) (ht : t < 3) : av S a i = .int (S.1 a i) := by unfold av; rw [h.2.1, if_neg (by omega), if_neg (by omega), if_neg (by omega)]
theorem av_long {S : St} {n a i : Nat} (h : IsA 3 n a) : av S a i = .long (S.2.1 a i) := by unfold av; rw [h.2.1, if_neg (by omega), if_pos rfl]
theorem av_dbl {S : St} {n a i : Nat} (h : IsA 4 n a) : av S a i = .double (S.2.2 a i) := by unfold av; rw [h.2.1, if_neg (by omega), if_neg (by omega), if_pos rfl]
theorem av_ref {S : St} {n a i : Nat} (h : IsA 5 n a) : av S a i = .ref (tgt a i) := by unfold av; rw [h.2.1, if_pos rfl]
/-! one number changed -/
def uI (S : St) (a f : Nat) (x : Int32) : St := (fun a' f' => if a' = a ∧ f' = f then x else S.1 a' f', S.2)
def uL (S : St) (a f : Nat) (x : Int64) : St := (S.1, fun a' f' => if a' = a ∧ f' = f then x else S.2.1 a' f', S.2.2)
def uD (S : St) (a f : Nat) (x : UInt64) : St := (S.1, S.2.1, fun a' f' => if a' = a ∧ f' = f then x else S.2.2 a' f')
theorem gm_set {S S' : St} {a : Nat} {c' : PC} (h1 : a < nCell → (kd a, sl S' a) = c') (h2 : ∀ b, b ≠ a → sl S' b = sl S b) : gm S' = (gm S).set a c' := by
  apply List.ext_getElem?
  intro j
  unfold gm
  rw [List.getElem?_set]
  simp only [List.getElem?_map, List.length_map, List.length_range]
  by_cases hj : a = j
  · subst hj
    rw [if_pos rfl]
    by_cases hl : a < nCell
    · rw [if_pos hl, List.getElem?_range hl, ← h1 hl]; rfl
    · rw [if_neg hl, List.getElem?_eq_none (by rw [List.length_range]; omega)]; rfl
  · rw [if_neg hj]
    by_cases hl : j < nCell
    · rw [List.getElem?_range hl]
      show some (kd j, sl S' j) = some (kd j, sl S j)
      rw [h2 j (fun e => hj e.symm)]
    · rw [List.getElem?_eq_none (by rw [List.length_range]; omega)]; rfl
theorem map_set {α : Type} {n f : Nat} {g g' : Nat → α} {v : α} (h1 : f < n → g' f = v) (h2 : ∀ j, j ≠ f → g' j = g j) : (List.range n).map g' = ((List.range n).map g).set f v := by
  apply List.ext_getElem?
  intro j
  rw [List.getElem?_set]
  simp only [List.getElem?_map, List.length_map, List.length_range]
  by_cases hj : f = j
  · subst hj
    rw [if_pos rfl]
    by_cases hl : f < n
    · rw [if_pos hl, List.getElem?_range hl, ← h1 hl]; rfl
    · rw [if_neg hl, List.getElem?_eq_none (by rw [List.length_range]; omega)]; rfl
  · rw [if_neg hj]
    by_cases hl : j < n
    · rw [List.getElem?_range hl]
      show some (g' j) = some (g j)
      rw [h2 j (fun e => hj e.symm)]
    · rw [List.getElem?_eq_none (by rw [List.length_range]; omega)]; rfl
theorem uI_at {S : St} {a f : Nat} {x : Int32} : (uI S a f x).1 a f = x := by show (if _ then _ else _) = _; rw [if_pos ⟨rfl, rfl⟩]
theorem uI_ne {S : St} {a f a' f' : Nat} {x : Int32} (h : ¬ (a' = a ∧ f' = f)) : (uI S a f x).1 a' f' = S.1 a' f' := by show (if _ then _ else _) = _; rw [if_neg h]
theorem uL_at {S : St} {a f : Nat} {x : Int64} : (uL S a f x).2.1 a f = x := by show (if _ then _ else _) = _; rw [if_pos ⟨rfl, rfl⟩]
theorem uL_ne {S : St} {a f a' f' : Nat} {x : Int64} (h : ¬ (a' = a ∧ f' = f)) : (uL S a f x).2.1 a' f' = S.2.1 a' f' := by show (if _ then _ else _) = _; rw [if_neg h]
theorem uD_at {S : St} {a f : Nat} {x : UInt64} : (uD S a f x).2.2 a f = x := by show (if _ then _ else _) = _; rw [if_pos ⟨rfl, rfl⟩]
theorem uD_ne {S : St} {a f a' f' : Nat} {x : UInt64} (h : ¬ (a' = a ∧ f' = f)) : (uD S a f x).2.2 a' f' = S.2.2 a' f' := by show (if _ then _ else _) = _; rw [if_neg h]
theorem sl_congr {S S' : St} {b : Nat} (h1 : ∀ f, S'.1 b f = S.1 b f) (h2 : ∀ f, S'.2.1 b f = S.2.1 b f) (h3 : ∀ f, S'.2.2 b f = S.2.2 b f) : sl S' b = sl S b := by
  unfold sl
  split
  · exact List.map_congr_left (fun f _ => by unfold fv; rw [h1, h2])
  · exact List.map_congr_left (fun f _ => by unfold av; rw [h1, h2, h3])
theorem gm_uIC {S : St} {c a f : Nat} {x : Int32} (h : IsC c a) (hc : c < 18) (ht : TYC c f = .int) : gm (uI S a f x) = (gm S).set a (c, (sl S a).set f (.int x)) := by
  refine gm_set (fun _ => ?_) (fun b hb => sl_congr (fun f' => uI_ne (fun q => hb q.1)) (fun _ => rfl) (fun _ => rfl))
  rw [h.2]
  congr 1
  unfold sl
  rw [if_pos (by rw [h.2]; omega), if_pos (by rw [h.2]; omega)]
  refine map_set (fun _ => ?_) (fun j hj => ?_)
  · rw [fv_int h ht, uI_at]
  · unfold fv; rw [uI_ne (fun q => hj q.2)]; rfl
theorem gm_uLC {S : St} {c a f : Nat} {x : Int64} (h : IsC c a) (hc : c < 18) (ht : TYC c f = .long) : gm (uL S a f x) = (gm S).set a (c, (sl S a).set f (.long x)) := by
  refine gm_set (fun _ => ?_) (fun b hb => sl_congr (fun _ => rfl) (fun f' => uL_ne (fun q => hb q.1)) (fun _ => rfl))
  rw [h.2]
  congr 1
  unfold sl
  rw [if_pos (by rw [h.2]; omega), if_pos (by rw [h.2]; omega)]
  refine map_set (fun _ => ?_) (fun j hj => ?_)
  · rw [fv_long h ht, uL_at]
  · unfold fv; rw [uL_ne (fun q => hj q.2)]; rfl
theorem gm_uIA {S : St} {t n a i : Nat} {x : Int32} (h : IsA t n a) (ht : t < 3) : gm (uI S a i x) = (gm S).set a (100 + t, (sl S a).set i (.int x)) := by
  refine gm_set (fun _ => ?_) (fun b hb => sl_congr (fun f' => uI_ne (fun q => hb q.1)) (fun _ => rfl) (fun _ => rfl))
  rw [h.2.1]
  congr 1
  unfold sl
  rw [if_neg (by rw [h.2.1]; omega), if_neg (by rw [h.2.1]; omega)]
  refine map_set (fun _ => ?_) (fun j hj => ?_)
  · rw [av_int h ht, uI_at]
  · unfold av; rw [uI_ne (fun q => hj q.2)]; rfl
theorem gm_uLA {S : St} {n a i : Nat} {x : Int64} (h : IsA 3 n a) : gm (uL S a i x) = (gm S).set a (103, (sl S a).set i (.long x)) := by
  refine gm_set (fun _ => ?_) (fun b hb => sl_congr (fun _ => rfl) (fun f' => uL_ne (fun q => hb q.1)) (fun _ => rfl))
  rw [h.2.1]
  congr 1
  unfold sl
  rw [if_neg (by rw [h.2.1]; omega), if_neg (by rw [h.2.1]; omega)]
  refine map_set (fun _ => ?_) (fun j hj => ?_)
  · rw [av_long h, uL_at]
  · unfold av; rw [uL_ne (fun q => hj q.2)]; rfl
theorem gm_uDA {S : St} {n a i : Nat} {x : UInt64} (h : IsA 4 n a) : gm (uD S a i x) = (gm S).set a (104, (sl S a).set i (.double x)) := by
  refine gm_set (fun _ => ?_) (fun b hb => sl_congr (fun _ => rfl) (fun _ => rfl) (fun f' => uD_ne (fun q => hb q.1)))
  rw [h.2.1]
  congr 1
  unfold sl
  rw [if_neg (by rw [h.2.1]; omega), if_neg (by rw [h.2.1]; omega)]
  refine map_set (fun _ => ?_) (fun j hj => ?_)
  · rw [av_dbl h, uD_at]
  · unfold av; rw [uD_ne (fun q => hj q.2)]; rfl
/-! numbers as integers -/
abbrev V (z : Int) : Value := .int (Int32.ofInt z)
abbrev J (z : Int) : Value := .long (Int64.ofInt z)
def g (S : St) (a f : Nat) : Int := (S.1 a f).toInt
def gl (S : St) (a f : Nat) : Int := (S.2.1 a f).toInt
def u (S : St) (a f : Nat) (z : Int) : St := uI S a f (Int32.ofInt z)
def ul (S : St) (a f : Nat) (z : Int) : St := uL S a f (Int64.ofInt z)
def inR (z : Int) : Prop := -2147483648 ≤ z ∧ z < 2147483648
def inL (z : Int) : Prop := -9223372036854775808 ≤ z ∧ z < 9223372036854775808
theorem g_lo (S : St) (a f : Nat) : -2147483648 ≤ g S a f := by have := Int32.le_toInt (S.1 a f); simpa [g] using this
theorem g_hi (S : St) (a f : Nat) : g S a f < 2147483648 := by have := Int32.toInt_lt (S.1 a f); simpa [g] using this
theorem g_in (S : St) (a f : Nat) : inR (g S a f) := ⟨g_lo S a f, g_hi S a f⟩
theorem V_g (S : St) (a f : Nat) : Value.int (S.1 a f) = V (g S a f) := by show _ = Value.int (Int32.ofInt (S.1 a f).toInt); rw [Int32.ofInt_toInt]
theorem J_g (S : St) (a f : Nat) : Value.long (S.2.1 a f) = J (gl S a f) := by show _ = Value.long (Int64.ofInt (S.2.1 a f).toInt); rw [Int64.ofInt_toInt]
theorem I_toInt {z : Int} (h : inR z) : (Int32.ofInt z).toInt = z := Int32.toInt_ofInt_of_le h.1 h.2
theorem L_toInt {z : Int} (h : inL z) : (Int64.ofInt z).toInt = z := Int64.toInt_ofInt_of_le h.1 h.2
theorem g_u {S : St} {a f a' f' : Nat} {z : Int} (h : inR z) : g (u S a f z) a' f' = if a' = a ∧ f' = f then z else g S a' f' := by
  unfold g u
  by_cases q : a' = a ∧ f' = f
  · obtain ⟨rfl, rfl⟩ := q
    rw [uI_at, if_pos ⟨rfl, rfl⟩, I_toInt h]
  · rw [uI_ne q, if_neg q]
theorem I_lt {a b : Int} (ha : inR a) (hb : inR b) : Int32.ofInt a < Int32.ofInt b ↔ a < b := by rw [Int32.lt_iff_toInt_lt, I_toInt ha, I_toInt hb]
theorem I_le {a b : Int} (ha : inR a) (hb : inR b) : Int32.ofInt a ≤ Int32.ofInt b ↔ a ≤ b := by rw [Int32.le_iff_toInt_le, I_toInt ha, I_toInt hb]
theorem I_eq {a b : Int} (ha : inR a) (hb : inR b) : Int32.ofInt a = Int32.ofInt b ↔ a = b := by rw [← Int32.toInt_inj, I_toInt ha, I_toInt hb]
theorem I_0 : (0 : Int32) = Int32.ofInt 0 := rfl
theorem inR0 : inR 0 := by unfold inR; omega
def fkT : List (Nat × Nat × Nat × Nat) := [(0, 0, 100, 41), (0, 1, 100, 41), (0, 2, 100, 41), (0, 3, 100, 41), (0, 4, 100, 41), (0, 5, 100, 41), (0, 6, 100, 41), (1, 0, 100, 0), (2, 0, 100, 9), (2, 1, 100, 9), (2, 2, 100, 9), (3, 0, 105, 21), (4, 0, 8, 0), (4, 3, 100, 66), (4, 4, 100, 66), (4, 5, 100, 66), (4, 6, 100, 66), (4, 7, 100, 331), (5, 0, 1, 0), (5, 1, 4, 0), (5, 2, 100, 7), (6, 0, 4, 0), (6, 1, 8, 0), (6, 2, 100, 41), (6, 3, 100, 5), (6, 4, 100, 66), (6, 5, 100, 41), (6, 6, 100, 66), (6, 7, 100, 41), (6, 8, 100, 9), (6, 9, 100, 66), (7, 0, 100, 9), (7, 1, 100, 9), (8, 0, 0, 0), (8, 1, 9, 0), (8, 2, 7, 0), (8, 3, 2, 0), (9, 0, 100, 11), (9, 1, 100, 11), (9, 2, 100, 11), (9, 3, 100, 11), (9, 4, 100, 11), (10, 0, 5, 0), (10, 1, 1, 0), (10, 2, 6, 0), (10, 3, 4, 0), (10, 4, 3, 0), (10, 5, 1, 0), (12, 4, 13, 0), (12, 5, 13, 0), (12, 6, 13, 0), (12, 7, 102, 0), (12, 8, 102, 0), (12, 9, 100, 0), (13, 0, 105, 0), (14, 3, 13, 0), (15, 0, 101, 0), (16, 0, 101, 0)]
def okC (a : Nat) : Bool := fkT.all (fun q => !(Nat.beq (kd a) q.1) || (Nat.ble (tgt a q.2.1 + 1) nCell && Nat.beq (kd (tgt a q.2.1)) q.2.2.1 && (Nat.beq q.2.2.2 0 || Nat.beq (ln (tgt a q.2.1) + 1) q.2.2.2)))
theorem okAll : ∀ a, a < nCell → okC a = true := by decide +kernel
theorem wt_of {a c f k l : Nat} (h : IsC c a) (hm : (c, f, k, l) ∈ fkT) : tgt a f < nCell ∧ kd (tgt a f) = k ∧ (l = 0 ∨ ln (tgt a f) + 1 = l) := by
  have h1 := List.all_eq_true.mp (okAll a h.1) _ hm
  simp only [Bool.or_eq_true, Bool.and_eq_true, Bool.not_eq_true', Nat.ble_eq] at h1
  rcases h1 with h1 | ⟨⟨h2, h3⟩, h4⟩
  · have h5 : Nat.beq (kd a) c = true := by rw [h.2]; exact Nat.beq_refl c
    rw [h5] at h1
    cases h1
  · refine ⟨h2, Nat.eq_of_beq_eq_true h3, h4.imp Nat.eq_of_beq_eq_true Nat.eq_of_beq_eq_true⟩
theorem wt_0_0 {a : Nat} (h : IsC 0 a) : IsA 0 40 (tgt a 0) := have q := wt_of h (List.mem_of_getElem? (i := 0) rfl); ⟨q.1, q.2.1, by have := q.2.2; omega⟩
theorem wt_0_1 {a : Nat} (h : IsC 0 a) : IsA 0 40 (tgt a 1) := have q := wt_of h (List.mem_of_getElem? (i := 1) rfl); ⟨q.1, q.2.1, by have := q.2.2; omega⟩
theorem wt_0_2 {a : Nat} (h : IsC 0 a) : IsA 0 40 (tgt a 2) := have q := wt_of h (List.mem_of_getElem? (i := 2) rfl); ⟨q.1, q.2.1, by have := q.2.2; omega⟩
theorem wt_0_3 {a : Nat} (h : IsC 0 a) : IsA 0 40 (tgt a 3) := have q := wt_of h (List.mem_of_getElem? (i := 3) rfl); ⟨q.1, q.2.1, by have := q.2.2; omega⟩
theorem wt_0_4 {a : Nat} (h : IsC 0 a) : IsA 0 40 (tgt a 4) := have q := wt_of h (List.mem_of_getElem? (i := 4) rfl); ⟨q.1, q.2.1, by have := q.2.2; omega⟩
theorem wt_0_5 {a : Nat} (h : IsC 0 a) : IsA 0 40 (tgt a 5) := have q := wt_of h (List.mem_of_getElem? (i := 5) rfl); ⟨q.1, q.2.1, by have := q.2.2; omega⟩
theorem wt_0_6 {a : Nat} (h : IsC 0 a) : IsA 0 40 (tgt a 6) := have q := wt_of h (List.mem_of_getElem? (i := 6) rfl); ⟨q.1, q.2.1, by have := q.2.2; omega⟩
theorem wt_1_0 {a : Nat} (h : IsC 1 a) : IsA 0 (ln (tgt a 0)) (tgt a 0) := have q := wt_of h (List.mem_of_getElem? (i := 7) rfl); ⟨q.1, q.2.1, rfl⟩
theorem wt_2_0 {a : Nat} (h : IsC 2 a) : IsA 0 8 (tgt a 0) := have q := wt_of h (List.mem_of_getElem? (i := 8) rfl); ⟨q.1, q.2.1, by have := q.2.2; omega⟩
theorem wt_2_1 {a : Nat} (h : IsC 2 a) : IsA 0 8 (tgt a 1) := have q := wt_of h (List.mem_of_getElem? (i := 9) rfl); ⟨q.1, q.2.1, by have := q.2.2; omega⟩
theorem wt_2_2 {a : Nat} (h : IsC 2 a) : IsA 0 8 (tgt a 2) := have q := wt_of h (List.mem_of_getElem? (i := 10) rfl); ⟨q.1, q.2.1, by have := q.2.2; omega⟩
theorem wt_3_0 {a : Nat} (h : IsC 3 a) : IsA 5 20 (tgt a 0) := have q := wt_of h (List.mem_of_getElem? (i := 11) rfl); ⟨q.1, q.2.1, by have := q.2.2; omega⟩
theorem wt_4_0 {a : Nat} (h : IsC 4 a) : IsC 8 (tgt a 0) := have q := wt_of h (List.mem_of_getElem? (i := 12) rfl); ⟨q.1, q.2.1⟩
theorem wt_4_3 {a : Nat} (h : IsC 4 a) : IsA 0 65 (tgt a 3) := have q := wt_of h (List.mem_of_getElem? (i := 13) rfl); ⟨q.1, q.2.1, by have := q.2.2; omega⟩
theorem wt_4_4 {a : Nat} (h : IsC 4 a) : IsA 0 65 (tgt a 4) := have q := wt_of h (List.mem_of_getElem? (i := 14) rfl); ⟨q.1, q.2.1, by have := q.2.2; omega⟩
theorem wt_4_5 {a : Nat} (h : IsC 4 a) : IsA 0 65 (tgt a 5) := have q := wt_of h (List.mem_of_getElem? (i := 15) rfl); ⟨q.1, q.2.1, by have := q.2.2; omega⟩
theorem wt_4_6 {a : Nat} (h : IsC 4 a) : IsA 0 65 (tgt a 6) := have q := wt_of h (List.mem_of_getElem? (i := 16) rfl); ⟨q.1, q.2.1, by have := q.2.2; omega⟩
theorem wt_4_7 {a : Nat} (h : IsC 4 a) : IsA 0 330 (tgt a 7) := have q := wt_of h (List.mem_of_getElem? (i := 17) rfl); ⟨q.1, q.2.1, by have := q.2.2; omega⟩
theorem wt_5_0 {a : Nat} (h : IsC 5 a) : IsC 1 (tgt a 0) := have q := wt_of h (List.mem_of_getElem? (i := 18) rfl); ⟨q.1, q.2.1⟩
theorem wt_5_1 {a : Nat} (h : IsC 5 a) : IsC 4 (tgt a 1) := have q := wt_of h (List.mem_of_getElem? (i := 19) rfl); ⟨q.1, q.2.1⟩
theorem wt_5_2 {a : Nat} (h : IsC 5 a) : IsA 0 6 (tgt a 2) := have q := wt_of h (List.mem_of_getElem? (i := 20) rfl); ⟨q.1, q.2.1, by have := q.2.2; omega⟩
theorem wt_6_0 {a : Nat} (h : IsC 6 a) : IsC 4 (tgt a 0) := have q := wt_of h (List.mem_of_getElem? (i := 21) rfl); ⟨q.1, q.2.1⟩
theorem wt_6_1 {a : Nat} (h : IsC 6 a) : IsC 8 (tgt a 1) := have q := wt_of h (List.mem_of_getElem? (i := 22) rfl); ⟨q.1, q.2.1⟩
theorem wt_6_2 {a : Nat} (h : IsC 6 a) : IsA 0 40 (tgt a 2) := have q := wt_of h (List.mem_of_getElem? (i := 23) rfl); ⟨q.1, q.2.1, by have := q.2.2; omega⟩
theorem wt_6_3 {a : Nat} (h : IsC 6 a) : IsA 0 4 (tgt a 3) := have q := wt_of h (List.mem_of_getElem? (i := 24) rfl); ⟨q.1, q.2.1, by have := q.2.2; omega⟩
theorem wt_6_4 {a : Nat} (h : IsC 6 a) : IsA 0 65 (tgt a 4) := have q := wt_of h (List.mem_of_getElem? (i := 25) rfl); ⟨q.1, q.2.1, by have := q.2.2; omega⟩
theorem wt_6_5 {a : Nat} (h : IsC 6 a) : IsA 0 40 (tgt a 5) := have q := wt_of h (List.mem_of_getElem? (i := 26) rfl); ⟨q.1, q.2.1, by have := q.2.2; omega⟩
theorem wt_6_6 {a : Nat} (h : IsC 6 a) : IsA 0 65 (tgt a 6) := have q := wt_of h (List.mem_of_getElem? (i := 27) rfl); ⟨q.1, q.2.1, by have := q.2.2; omega⟩
theorem wt_6_7 {a : Nat} (h : IsC 6 a) : IsA 0 40 (tgt a 7) := have q := wt_of h (List.mem_of_getElem? (i := 28) rfl); ⟨q.1, q.2.1, by have := q.2.2; omega⟩
theorem wt_6_8 {a : Nat} (h : IsC 6 a) : IsA 0 8 (tgt a 8) := have q := wt_of h (List.mem_of_getElem? (i := 29) rfl); ⟨q.1, q.2.1, by have := q.2.2; omega⟩
theorem wt_6_9 {a : Nat} (h : IsC 6 a) : IsA 0 65 (tgt a 9) := have q := wt_of h (List.mem_of_getElem? (i := 30) rfl); ⟨q.1, q.2.1, by have := q.2.2; omega⟩
theorem wt_7_0 {a : Nat} (h : IsC 7 a) : IsA 0 8 (tgt a 0) := have q := wt_of h (List.mem_of_getElem? (i := 31) rfl); ⟨q.1, q.2.1, by have := q.2.2; omega⟩
theorem wt_7_1 {a : Nat} (h : IsC 7 a) : IsA 0 8 (tgt a 1) := have q := wt_of h (List.mem_of_getElem? (i := 32) rfl); ⟨q.1, q.2.1, by have := q.2.2; omega⟩
theorem wt_8_0 {a : Nat} (h : IsC 8 a) : IsC 0 (tgt a 0) := have q := wt_of h (List.mem_of_getElem? (i := 33) rfl); ⟨q.1, q.2.1⟩
theorem wt_8_1 {a : Nat} (h : IsC 8 a) : IsC 9 (tgt a 1) := have q := wt_of h (List.mem_of_getElem? (i := 34) rfl); ⟨q.1, q.2.1⟩
theorem wt_8_2 {a : Nat} (h : IsC 8 a) : IsC 7 (tgt a 2) := have q := wt_of h (List.mem_of_getElem? (i := 35) rfl); ⟨q.1, q.2.1⟩
theorem wt_8_3 {a : Nat} (h : IsC 8 a) : IsC 2 (tgt a 3) := have q := wt_of h (List.mem_of_getElem? (i := 36) rfl); ⟨q.1, q.2.1⟩
theorem wt_9_0 {a : Nat} (h : IsC 9 a) : IsA 0 10 (tgt a 0) := have q := wt_of h (List.mem_of_getElem? (i := 37) rfl); ⟨q.1, q.2.1, by have := q.2.2; omega⟩
theorem wt_9_1 {a : Nat} (h : IsC 9 a) : IsA 0 10 (tgt a 1) := have q := wt_of h (List.mem_of_getElem? (i := 38) rfl); ⟨q.1, q.2.1, by have := q.2.2; omega⟩
theorem wt_9_2 {a : Nat} (h : IsC 9 a) : IsA 0 10 (tgt a 2) := have q := wt_of h (List.mem_of_getElem? (i := 39) rfl); ⟨q.1, q.2.1, by have := q.2.2; omega⟩
theorem wt_9_3 {a : Nat} (h : IsC 9 a) : IsA 0 10 (tgt a 3) := have q := wt_of h (List.mem_of_getElem? (i := 40) rfl); ⟨q.1, q.2.1, by have := q.2.2; omega⟩
theorem wt_9_4 {a : Nat} (h : IsC 9 a) : IsA 0 10 (tgt a 4) := have q := wt_of h (List.mem_of_getElem? (i := 41) rfl); ⟨q.1, q.2.1, by have := q.2.2; omega⟩
theorem wt_10_0 {a : Nat} (h : IsC 10 a) : IsC 5 (tgt a 0) := have q := wt_of h (List.mem_of_getElem? (i := 42) rfl); ⟨q.1, q.2.1⟩
theorem wt_10_1 {a : Nat} (h : IsC 10 a) : IsC 1 (tgt a 1) := have q := wt_of h (List.mem_of_getElem? (i := 43) rfl); ⟨q.1, q.2.1⟩
theorem wt_10_2 {a : Nat} (h : IsC 10 a) : IsC 6 (tgt a 2) := have q := wt_of h (List.mem_of_getElem? (i := 44) rfl); ⟨q.1, q.2.1⟩
theorem wt_10_3 {a : Nat} (h : IsC 10 a) : IsC 4 (tgt a 3) := have q := wt_of h (List.mem_of_getElem? (i := 45) rfl); ⟨q.1, q.2.1⟩
theorem wt_10_4 {a : Nat} (h : IsC 10 a) : IsC 3 (tgt a 4) := have q := wt_of h (List.mem_of_getElem? (i := 46) rfl); ⟨q.1, q.2.1⟩
theorem wt_10_5 {a : Nat} (h : IsC 10 a) : IsC 1 (tgt a 5) := have q := wt_of h (List.mem_of_getElem? (i := 47) rfl); ⟨q.1, q.2.1⟩
theorem wt_12_4 {a : Nat} (h : IsC 12 a) : IsC 13 (tgt a 4) := have q := wt_of h (List.mem_of_getElem? (i := 48) rfl); ⟨q.1, q.2.1⟩
theorem wt_12_5 {a : Nat} (h : IsC 12 a) : IsC 13 (tgt a 5) := have q := wt_of h (List.mem_of_getElem? (i := 49) rfl); ⟨q.1, q.2.1⟩
theorem wt_12_6 {a : Nat} (h : IsC 12 a) : IsC 13 (tgt a 6) := have q := wt_of h (List.mem_of_getElem? (i := 50) rfl); ⟨q.1, q.2.1⟩
theorem wt_12_7 {a : Nat} (h : IsC 12 a) : IsA 2 (ln (tgt a 7)) (tgt a 7) := have q := wt_of h (List.mem_of_getElem? (i := 51) rfl); ⟨q.1, q.2.1, rfl⟩
theorem wt_12_8 {a : Nat} (h : IsC 12 a) : IsA 2 (ln (tgt a 8)) (tgt a 8) := have q := wt_of h (List.mem_of_getElem? (i := 52) rfl); ⟨q.1, q.2.1, rfl⟩
theorem wt_12_9 {a : Nat} (h : IsC 12 a) : IsA 0 (ln (tgt a 9)) (tgt a 9) := have q := wt_of h (List.mem_of_getElem? (i := 53) rfl); ⟨q.1, q.2.1, rfl⟩
theorem wt_13_0 {a : Nat} (h : IsC 13 a) : IsA 5 (ln (tgt a 0)) (tgt a 0) := have q := wt_of h (List.mem_of_getElem? (i := 54) rfl); ⟨q.1, q.2.1, rfl⟩
theorem wt_14_3 {a : Nat} (h : IsC 14 a) : IsC 13 (tgt a 3) := have q := wt_of h (List.mem_of_getElem? (i := 55) rfl); ⟨q.1, q.2.1⟩
theorem wt_15_0 {a : Nat} (h : IsC 15 a) : IsA 1 (ln (tgt a 0)) (tgt a 0) := have q := wt_of h (List.mem_of_getElem? (i := 56) rfl); ⟨q.1, q.2.1, rfl⟩
theorem wt_16_0 {a : Nat} (h : IsC 16 a) : IsA 1 (ln (tgt a 0)) (tgt a 0) := have q := wt_of h (List.mem_of_getElem? (i := 57) rfl); ⟨q.1, q.2.1, rfl⟩
