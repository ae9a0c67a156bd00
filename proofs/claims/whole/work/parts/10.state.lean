/-! the state of both systems: int fields by cell and slot, int arrays by cell, long arrays by cell -/
abbrev nw_ST : Type := (Nat → Nat → Int32) × (Nat → Nat → Int32) × (Nat → Nat → Int64)
def nw_gS (σ : nw_ST) (q k : Nat) : Int32 := σ.1 q k
def nw_gA (σ : nw_ST) (q i : Nat) : Int32 := σ.2.1 q i
def nw_gL (σ : nw_ST) (q i : Nat) : Int64 := σ.2.2 q i
def nw_sS (σ : nw_ST) (q k : Nat) (v : Int32) : nw_ST := (fun q' k' => if q' = q then (if k' = k then v else σ.1 q' k') else σ.1 q' k', σ.2)
def nw_sA (σ : nw_ST) (q i : Nat) (v : Int32) : nw_ST := (σ.1, fun q' => if q' = q then upd (σ.2.1 q) i v else σ.2.1 q', σ.2.2)
def nw_sL (σ : nw_ST) (q i : Nat) (v : Int64) : nw_ST := (σ.1, σ.2.1, fun q' => if q' = q then vp_updL (σ.2.2 q) i v else σ.2.2 q')
def nw_sC (σ : nw_ST) (q0 q1 sp dp n : Nat) : nw_ST := (σ.1, fun q' => if q' = q1 then va_cpy (σ.2.1 q0) (σ.2.1 q1) sp dp n else σ.2.1 q', σ.2.2)
def nw_rem (x y : Int32) : Int32 := x - x / y * y
def nw_lrem (x y : Int64) : Int64 := x - x / y * y
def nw_shl (x y : Int32) : Int32 := x <<< (y &&& 31)
def nw_ushr (x y : Int32) : Int32 := (x.toUInt32 >>> (y.toUInt32 &&& Int32.toUInt32 31)).toInt32
def nw_lshr (x : Int64) (y : Int32) : Int64 := x >>> (y.toInt64 &&& 63)
def nw_b (x : Int32) : Int32 := x.toInt8.toInt32
def nw_s16 (x : Int32) : Int32 := x.toInt16.toInt32
def nw_isZ (x : Int32) : Prop := x = 0 ∨ x = 1

def nw_clT : List Nat := [4, 2, 10, 10, 2, 10, 10, 0, 10, 10, 0, 10, 10, 0, 10, 10, 0, 10, 10, 3, 10, 10, 12, 10, 10, 10, 13, 1, 10, 1, 10, 1, 10, 1, 10, 10, 11, 5, 10, 10, 10, 10, 10, 10, 10, 10, 10, 10, 10, 10, 10, 10, 10, 10, 12, 10, 10, 11, 12, 10, 10, 10, 10, 14, 14, 14, 14, 14, 14]
def nw_lenT : List Nat := [0, 0, 35, 18, 0, 47, 24, 0, 12, 12, 0, 8, 8, 0, 12, 12, 0, 8, 8, 0, 240, 240, 240, 240, 241, 401, 4, 0, 48, 0, 48, 0, 48, 0, 48, 240, 13, 0, 2, 94, 7, 7, 7, 9, 9, 9, 13, 13, 9, 13, 13, 240, 240, 240, 401, 8, 8, 15, 4, 4, 4, 192, 48, 5, 3, 5, 3, 4, 3]
def nw_rfT : List (List Nat) := [[1, 4, 7, 10, 13, 16, 19, 26, 35, 36], [2, 63, 64, 3], [], [], [5, 65, 66, 6], [], [], [8, 9], [], [], [11, 12], [], [], [14, 15], [], [], [17, 18], [], [], [20, 21, 22, 23, 24, 25], [], [], [], [], [], [], [], [28], [], [30], [], [32], [], [34], [], [], [], [38, 39, 999, 40, 41, 42, 999, 43, 44, 45, 999, 999, 46, 47, 999, 48, 999, 49, 50, 51, 52, 53, 999, 999, 999, 999, 999, 54, 999, 55, 56, 57, 58, 59, 60, 61, 62], [], [], [], [], [], [], [], [], [], [], [], [], [], [], [], [], [], [], [], [], [], [], [], [], [], [], [], [], [], [], []]
def nw_cstT : List (List Int32) := [[0, 1, 1, 2, 2], [1, 2, 0], [0, 0, 1, 1, 2], [1, 0, 0], [0, 1, 60, 239], [1, 7, 40]]
def nw_cl (q : Nat) : Nat := nw_clT.getD q 99
def nw_len (q : Nat) : Nat := nw_lenT.getD q 0
def nw_rf (q k : Nat) : Nat := (nw_rfT.getD q []).getD k 999
def nw_cst (q i : Nat) : Int32 := (nw_cstT.getD (q - 63) []).getD i 0
theorem nw_cl_lt {q c : Nat} (h : nw_cl q = c) (hc : c ≠ 99) : q < 69 := by
  rcases Nat.lt_or_ge q 69 with h1 | h1
  · exact h1
  · exfalso; apply hc; rw [← h]; unfold nw_cl; rw [List.getD_eq_getElem?_getD, List.getElem?_eq_none (by simpa [nw_clT] using h1)]; rfl

def nw_fs0 (ad : Nat → Nat) (σ : nw_ST) (q : Nat) : List Value := [.ref (ad (nw_rf q 0)), .ref (ad (nw_rf q 1)), .int (σ.1 q 2)]
def nw_fs1 (ad : Nat → Nat) (σ : nw_ST) (q : Nat) : List Value := [.ref (ad (nw_rf q 0)), .int (σ.1 q 1), .int (σ.1 q 2), .int (σ.1 q 3)]
def nw_fs2 (ad : Nat → Nat) (σ : nw_ST) (q : Nat) : List Value := [.ref (ad (nw_rf q 0)), .ref (ad (nw_rf q 1)), .ref (ad (nw_rf q 2)), .ref (ad (nw_rf q 3)), .int (σ.1 q 4), .int (σ.1 q 5), .int (σ.1 q 6)]
def nw_fs3 (ad : Nat → Nat) (σ : nw_ST) (q : Nat) : List Value := [.ref (ad (nw_rf q 0)), .ref (ad (nw_rf q 1)), .ref (ad (nw_rf q 2)), .ref (ad (nw_rf q 3)), .ref (ad (nw_rf q 4)), .ref (ad (nw_rf q 5)), .int (σ.1 q 6)]
def nw_fs4 (ad : Nat → Nat) (σ : nw_ST) (q : Nat) : List Value := [.ref (ad (nw_rf q 0)), .ref (ad (nw_rf q 1)), .ref (ad (nw_rf q 2)), .ref (ad (nw_rf q 3)), .ref (ad (nw_rf q 4)), .ref (ad (nw_rf q 5)), .ref (ad (nw_rf q 6)), .ref (ad (nw_rf q 7)), .ref (ad (nw_rf q 8)), .ref (ad (nw_rf q 9)), .int (σ.1 q 10), .int (σ.1 q 11), .int (σ.1 q 12)]
def nw_fs5 (ad : Nat → Nat) (σ : nw_ST) (q : Nat) : List Value := [.ref (ad (nw_rf q 0)), .ref (ad (nw_rf q 1)), .int (σ.1 q 2), .ref (ad (nw_rf q 3)), .ref (ad (nw_rf q 4)), .ref (ad (nw_rf q 5)), .int (σ.1 q 6), .ref (ad (nw_rf q 7)), .ref (ad (nw_rf q 8)), .ref (ad (nw_rf q 9)), .int (σ.1 q 10), .int (σ.1 q 11), .ref (ad (nw_rf q 12)), .ref (ad (nw_rf q 13)), .int (σ.1 q 14), .ref (ad (nw_rf q 15)), .int (σ.1 q 16), .ref (ad (nw_rf q 17)), .ref (ad (nw_rf q 18)), .ref (ad (nw_rf q 19)), .ref (ad (nw_rf q 20)), .ref (ad (nw_rf q 21)), .int (σ.1 q 22), .int (σ.1 q 23), .int (σ.1 q 24), .int (σ.1 q 25), .int (σ.1 q 26), .ref (ad (nw_rf q 27)), .int (σ.1 q 28), .ref (ad (nw_rf q 29)), .ref (ad (nw_rf q 30)), .ref (ad (nw_rf q 31)), .ref (ad (nw_rf q 32)), .ref (ad (nw_rf q 33)), .ref (ad (nw_rf q 34)), .ref (ad (nw_rf q 35)), .ref (ad (nw_rf q 36)), .int (σ.1 q 37)]
def nw_W (ad : Nat → Nat) (ca : Nat → ClassId) (σ : nw_ST) : va_W := [(ad 0, .inr (4, nw_fs4 ad σ 0)),
  (ad 1, .inr (2, nw_fs2 ad σ 1)),
  (ad 2, .inl (ca 0, 35, .inl (σ.2.1 2))),
  (ad 3, .inl (ca 0, 18, .inl (σ.2.1 3))),
  (ad 4, .inr (2, nw_fs2 ad σ 4)),
  (ad 5, .inl (ca 0, 47, .inl (σ.2.1 5))),
  (ad 6, .inl (ca 0, 24, .inl (σ.2.1 6))),
  (ad 7, .inr (0, nw_fs0 ad σ 7)),
  (ad 8, .inl (ca 0, 12, .inl (σ.2.1 8))),
  (ad 9, .inl (ca 0, 12, .inl (σ.2.1 9))),
  (ad 10, .inr (0, nw_fs0 ad σ 10)),
  (ad 11, .inl (ca 0, 8, .inl (σ.2.1 11))),
  (ad 12, .inl (ca 0, 8, .inl (σ.2.1 12))),
  (ad 13, .inr (0, nw_fs0 ad σ 13)),
  (ad 14, .inl (ca 0, 12, .inl (σ.2.1 14))),
  (ad 15, .inl (ca 0, 12, .inl (σ.2.1 15))),
  (ad 16, .inr (0, nw_fs0 ad σ 16)),
  (ad 17, .inl (ca 0, 8, .inl (σ.2.1 17))),
  (ad 18, .inl (ca 0, 8, .inl (σ.2.1 18))),
  (ad 19, .inr (3, nw_fs3 ad σ 19)),
  (ad 20, .inl (ca 0, 240, .inl (σ.2.1 20))),
  (ad 21, .inl (ca 0, 240, .inl (σ.2.1 21))),
  (ad 22, .inl (ca 2, 240, .inl (σ.2.1 22))),
  (ad 23, .inl (ca 0, 240, .inl (σ.2.1 23))),
  (ad 24, .inl (ca 0, 241, .inl (σ.2.1 24))),
  (ad 25, .inl (ca 0, 401, .inl (σ.2.1 25))),
  (ad 26, .inl (ca 3, 4, .inr (.inr (.inr (.inr (fun i => some (ad (27 + 2 * i)))))))),
  (ad 27, .inr (1, nw_fs1 ad σ 27)),
  (ad 28, .inl (ca 0, 48, .inl (σ.2.1 28))),
  (ad 29, .inr (1, nw_fs1 ad σ 29)),
  (ad 30, .inl (ca 0, 48, .inl (σ.2.1 30))),
  (ad 31, .inr (1, nw_fs1 ad σ 31)),
  (ad 32, .inl (ca 0, 48, .inl (σ.2.1 32))),
  (ad 33, .inr (1, nw_fs1 ad σ 33)),
  (ad 34, .inl (ca 0, 48, .inl (σ.2.1 34))),
  (ad 35, .inl (ca 0, 240, .inl (σ.2.1 35))),
  (ad 36, .inl (ca 1, 13, .inr (.inl (σ.2.2 36)))),
  (ad 37, .inr (5, nw_fs5 ad σ 37)),
  (ad 38, .inl (ca 0, 2, .inl (σ.2.1 38))),
  (ad 39, .inl (ca 0, 94, .inl (σ.2.1 39))),
  (ad 40, .inl (ca 0, 7, .inl (σ.2.1 40))),
  (ad 41, .inl (ca 0, 7, .inl (σ.2.1 41))),
  (ad 42, .inl (ca 0, 7, .inl (σ.2.1 42))),
  (ad 43, .inl (ca 0, 9, .inl (σ.2.1 43))),
  (ad 44, .inl (ca 0, 9, .inl (σ.2.1 44))),
  (ad 45, .inl (ca 0, 9, .inl (σ.2.1 45))),
  (ad 46, .inl (ca 0, 13, .inl (σ.2.1 46))),
  (ad 47, .inl (ca 0, 13, .inl (σ.2.1 47))),
  (ad 48, .inl (ca 0, 9, .inl (σ.2.1 48))),
  (ad 49, .inl (ca 0, 13, .inl (σ.2.1 49))),
  (ad 50, .inl (ca 0, 13, .inl (σ.2.1 50))),
  (ad 51, .inl (ca 0, 240, .inl (σ.2.1 51))),
  (ad 52, .inl (ca 0, 240, .inl (σ.2.1 52))),
  (ad 53, .inl (ca 0, 240, .inl (σ.2.1 53))),
  (ad 54, .inl (ca 2, 401, .inl (σ.2.1 54))),
  (ad 55, .inl (ca 0, 8, .inl (σ.2.1 55))),
  (ad 56, .inl (ca 0, 8, .inl (σ.2.1 56))),
  (ad 57, .inl (ca 1, 15, .inr (.inl (σ.2.2 57)))),
  (ad 58, .inl (ca 2, 4, .inl (σ.2.1 58))),
  (ad 59, .inl (ca 0, 4, .inl (σ.2.1 59))),
  (ad 60, .inl (ca 0, 4, .inl (σ.2.1 60))),
  (ad 61, .inl (ca 0, 192, .inl (σ.2.1 61))),
  (ad 62, .inl (ca 0, 48, .inl (σ.2.1 62)))]
theorem nw_q0 {q : Nat} (h : nw_cl q = 0) : q = 7 ∨ q = 10 ∨ q = 13 ∨ q = 16 := by
  have h1 := nw_cl_lt h (by decide)
  have h2 : ∀ q, q < 69 → nw_cl q = 0 → q ∈ [7, 10, 13, 16] := by decide +kernel
  have h3 := h2 q h1 h
  simpa only [List.mem_cons, List.not_mem_nil, or_false] using h3
theorem nw_q1 {q : Nat} (h : nw_cl q = 1) : q = 27 ∨ q = 29 ∨ q = 31 ∨ q = 33 := by
  have h1 := nw_cl_lt h (by decide)
  have h2 : ∀ q, q < 69 → nw_cl q = 1 → q ∈ [27, 29, 31, 33] := by decide +kernel
  have h3 := h2 q h1 h
  simpa only [List.mem_cons, List.not_mem_nil, or_false] using h3
theorem nw_q2 {q : Nat} (h : nw_cl q = 2) : q = 1 ∨ q = 4 := by
  have h1 := nw_cl_lt h (by decide)
  have h2 : ∀ q, q < 69 → nw_cl q = 2 → q ∈ [1, 4] := by decide +kernel
  have h3 := h2 q h1 h
  simpa only [List.mem_cons, List.not_mem_nil, or_false] using h3
theorem nw_q3 {q : Nat} (h : nw_cl q = 3) : q = 19 := by
  have h1 := nw_cl_lt h (by decide)
  have h2 : ∀ q, q < 69 → nw_cl q = 3 → q ∈ [19] := by decide +kernel
  have h3 := h2 q h1 h
  simpa only [List.mem_cons, List.not_mem_nil, or_false] using h3
theorem nw_q4 {q : Nat} (h : nw_cl q = 4) : q = 0 := by
  have h1 := nw_cl_lt h (by decide)
  have h2 : ∀ q, q < 69 → nw_cl q = 4 → q ∈ [0] := by decide +kernel
  have h3 := h2 q h1 h
  simpa only [List.mem_cons, List.not_mem_nil, or_false] using h3
theorem nw_q5 {q : Nat} (h : nw_cl q = 5) : q = 37 := by
  have h1 := nw_cl_lt h (by decide)
  have h2 : ∀ q, q < 69 → nw_cl q = 5 → q ∈ [37] := by decide +kernel
  have h3 := h2 q h1 h
  simpa only [List.mem_cons, List.not_mem_nil, or_false] using h3
theorem nw_q10 {q : Nat} (h : nw_cl q = 10) : q = 2 ∨ q = 3 ∨ q = 5 ∨ q = 6 ∨ q = 8 ∨ q = 9 ∨ q = 11 ∨ q = 12 ∨ q = 14 ∨ q = 15 ∨ q = 17 ∨ q = 18 ∨ q = 20 ∨ q = 21 ∨ q = 23 ∨ q = 24 ∨ q = 25 ∨ q = 28 ∨ q = 30 ∨ q = 32 ∨ q = 34 ∨ q = 35 ∨ q = 38 ∨ q = 39 ∨ q = 40 ∨ q = 41 ∨ q = 42 ∨ q = 43 ∨ q = 44 ∨ q = 45 ∨ q = 46 ∨ q = 47 ∨ q = 48 ∨ q = 49 ∨ q = 50 ∨ q = 51 ∨ q = 52 ∨ q = 53 ∨ q = 55 ∨ q = 56 ∨ q = 59 ∨ q = 60 ∨ q = 61 ∨ q = 62 := by
  have h1 := nw_cl_lt h (by decide)
  have h2 : ∀ q, q < 69 → nw_cl q = 10 → q ∈ [2, 3, 5, 6, 8, 9, 11, 12, 14, 15, 17, 18, 20, 21, 23, 24, 25, 28, 30, 32, 34, 35, 38, 39, 40, 41, 42, 43, 44, 45, 46, 47, 48, 49, 50, 51, 52, 53, 55, 56, 59, 60, 61, 62] := by decide +kernel
  have h3 := h2 q h1 h
  simpa only [List.mem_cons, List.not_mem_nil, or_false] using h3
theorem nw_q11 {q : Nat} (h : nw_cl q = 11) : q = 36 ∨ q = 57 := by
  have h1 := nw_cl_lt h (by decide)
  have h2 : ∀ q, q < 69 → nw_cl q = 11 → q ∈ [36, 57] := by decide +kernel
  have h3 := h2 q h1 h
  simpa only [List.mem_cons, List.not_mem_nil, or_false] using h3
theorem nw_q12 {q : Nat} (h : nw_cl q = 12) : q = 22 ∨ q = 54 ∨ q = 58 := by
  have h1 := nw_cl_lt h (by decide)
  have h2 : ∀ q, q < 69 → nw_cl q = 12 → q ∈ [22, 54, 58] := by decide +kernel
  have h3 := h2 q h1 h
  simpa only [List.mem_cons, List.not_mem_nil, or_false] using h3
theorem nw_q13 {q : Nat} (h : nw_cl q = 13) : q = 26 := by
  have h1 := nw_cl_lt h (by decide)
  have h2 : ∀ q, q < 69 → nw_cl q = 13 → q ∈ [26] := by decide +kernel
  have h3 := h2 q h1 h
  simpa only [List.mem_cons, List.not_mem_nil, or_false] using h3
theorem nw_q14 {q : Nat} (h : nw_cl q = 14) : q = 63 ∨ q = 64 ∨ q = 65 ∨ q = 66 ∨ q = 67 ∨ q = 68 := by
  have h1 := nw_cl_lt h (by decide)
  have h2 : ∀ q, q < 69 → nw_cl q = 14 → q ∈ [63, 64, 65, 66, 67, 68] := by decide +kernel
  have h3 := h2 q h1 h
  simpa only [List.mem_cons, List.not_mem_nil, or_false] using h3
theorem nw_at0 {ad : Nat → Nat} {ca : Nat → ClassId} {σ : nw_ST} {q : Nat} (h : nw_cl q = 0) : (nw_W ad ca σ)[q]? = some (ad q, .inr (0, nw_fs0 ad σ q)) := by
  rcases nw_q0 h with rfl | rfl | rfl | rfl <;> rfl
theorem nw_at1 {ad : Nat → Nat} {ca : Nat → ClassId} {σ : nw_ST} {q : Nat} (h : nw_cl q = 1) : (nw_W ad ca σ)[q]? = some (ad q, .inr (1, nw_fs1 ad σ q)) := by
  rcases nw_q1 h with rfl | rfl | rfl | rfl <;> rfl
theorem nw_at2 {ad : Nat → Nat} {ca : Nat → ClassId} {σ : nw_ST} {q : Nat} (h : nw_cl q = 2) : (nw_W ad ca σ)[q]? = some (ad q, .inr (2, nw_fs2 ad σ q)) := by
  rcases nw_q2 h with rfl | rfl <;> rfl
theorem nw_at3 {ad : Nat → Nat} {ca : Nat → ClassId} {σ : nw_ST} {q : Nat} (h : nw_cl q = 3) : (nw_W ad ca σ)[q]? = some (ad q, .inr (3, nw_fs3 ad σ q)) := by
  rcases nw_q3 h with rfl <;> rfl
theorem nw_at4 {ad : Nat → Nat} {ca : Nat → ClassId} {σ : nw_ST} {q : Nat} (h : nw_cl q = 4) : (nw_W ad ca σ)[q]? = some (ad q, .inr (4, nw_fs4 ad σ q)) := by
  rcases nw_q4 h with rfl <;> rfl
theorem nw_at5 {ad : Nat → Nat} {ca : Nat → ClassId} {σ : nw_ST} {q : Nat} (h : nw_cl q = 5) : (nw_W ad ca σ)[q]? = some (ad q, .inr (5, nw_fs5 ad σ q)) := by
  rcases nw_q5 h with rfl <;> rfl
theorem nw_atI {ad : Nat → Nat} {ca : Nat → ClassId} {σ : nw_ST} {q : Nat} (h : nw_cl q = 10) : (nw_W ad ca σ)[q]? = some (ad q, .inl (ca 0, nw_len q, .inl (σ.2.1 q))) := by
  rcases nw_q10 h with rfl | rfl | rfl | rfl | rfl | rfl | rfl | rfl | rfl | rfl | rfl | rfl | rfl | rfl | rfl | rfl | rfl | rfl | rfl | rfl | rfl | rfl | rfl | rfl | rfl | rfl | rfl | rfl | rfl | rfl | rfl | rfl | rfl | rfl | rfl | rfl | rfl | rfl | rfl | rfl | rfl | rfl | rfl | rfl <;> rfl
theorem nw_atZ {ad : Nat → Nat} {ca : Nat → ClassId} {σ : nw_ST} {q : Nat} (h : nw_cl q = 12) : (nw_W ad ca σ)[q]? = some (ad q, .inl (ca 2, nw_len q, .inl (σ.2.1 q))) := by
  rcases nw_q12 h with rfl | rfl | rfl <;> rfl
theorem nw_atL {ad : Nat → Nat} {ca : Nat → ClassId} {σ : nw_ST} {q : Nat} (h : nw_cl q = 11) : (nw_W ad ca σ)[q]? = some (ad q, .inl (ca 1, nw_len q, .inr (.inl (σ.2.2 q)))) := by
  rcases nw_q11 h with rfl | rfl <;> rfl
theorem nw_atS {ad : Nat → Nat} {ca : Nat → ClassId} {σ : nw_ST} : (nw_W ad ca σ)[26]? = some (ad 26, .inl (ca 3, 4, .inr (.inr (.inr (.inr (fun i => some (ad (27 + 2 * i)))))))) := rfl
set_option maxHeartbeats 4000000 in
theorem nw_setI {ad : Nat → Nat} {ca : Nat → ClassId} {σ : nw_ST} {q i : Nat} {v : Int32} (h : nw_cl q = 10) : (nw_W ad ca σ).set q (ad q, .inl (ca 0, nw_len q, .inl (upd (σ.2.1 q) i v))) = nw_W ad ca (nw_sA σ q i v) := by
  rcases nw_q10 h with rfl | rfl | rfl | rfl | rfl | rfl | rfl | rfl | rfl | rfl | rfl | rfl | rfl | rfl | rfl | rfl | rfl | rfl | rfl | rfl | rfl | rfl | rfl | rfl | rfl | rfl | rfl | rfl | rfl | rfl | rfl | rfl | rfl | rfl | rfl | rfl | rfl | rfl | rfl | rfl | rfl | rfl | rfl | rfl <;> rfl
set_option maxHeartbeats 4000000 in
theorem nw_setZ {ad : Nat → Nat} {ca : Nat → ClassId} {σ : nw_ST} {q i : Nat} {v : Int32} (h : nw_cl q = 12) : (nw_W ad ca σ).set q (ad q, .inl (ca 2, nw_len q, .inl (upd (σ.2.1 q) i v))) = nw_W ad ca (nw_sA σ q i v) := by
  rcases nw_q12 h with rfl | rfl | rfl <;> rfl
set_option maxHeartbeats 4000000 in
theorem nw_setL {ad : Nat → Nat} {ca : Nat → ClassId} {σ : nw_ST} {q i : Nat} {v : Int64} (h : nw_cl q = 11) : (nw_W ad ca σ).set q (ad q, .inl (ca 1, nw_len q, .inr (.inl (vp_updL (σ.2.2 q) i v)))) = nw_W ad ca (nw_sL σ q i v) := by
  rcases nw_q11 h with rfl | rfl <;> rfl
set_option maxHeartbeats 4000000 in
theorem nw_setC {ad : Nat → Nat} {ca : Nat → ClassId} {σ : nw_ST} {q0 q i j n : Nat} (h : nw_cl q = 10) : (nw_W ad ca σ).set q (ad q, .inl (ca 0, nw_len q, .inl (va_cpy (σ.2.1 q0) (σ.2.1 q) i j n))) = nw_W ad ca (nw_sC σ q0 q i j n) := by
  rcases nw_q10 h with rfl | rfl | rfl | rfl | rfl | rfl | rfl | rfl | rfl | rfl | rfl | rfl | rfl | rfl | rfl | rfl | rfl | rfl | rfl | rfl | rfl | rfl | rfl | rfl | rfl | rfl | rfl | rfl | rfl | rfl | rfl | rfl | rfl | rfl | rfl | rfl | rfl | rfl | rfl | rfl | rfl | rfl | rfl | rfl <;> rfl
theorem nw_wt0_0 {q : Nat} (h : nw_cl q = 0) : nw_cl (nw_rf q 0) = 10 := by
  rcases nw_q0 h with rfl | rfl | rfl | rfl <;> rfl
theorem nw_wt0_1 {q : Nat} (h : nw_cl q = 0) : nw_cl (nw_rf q 1) = 10 := by
  rcases nw_q0 h with rfl | rfl | rfl | rfl <;> rfl
theorem nw_set0_2 {ad : Nat → Nat} {ca : Nat → ClassId} {σ : nw_ST} {q : Nat} {v : Int32} (h : nw_cl q = 0) : (nw_W ad ca σ).set q (ad q, .inr (0, (nw_fs0 ad σ q).set 2 (.int v))) = nw_W ad ca (nw_sS σ q 2 v) := by
  rcases nw_q0 h with rfl | rfl | rfl | rfl <;> rfl
theorem nw_wt1_0 {q : Nat} (h : nw_cl q = 1) : nw_cl (nw_rf q 0) = 10 := by
  rcases nw_q1 h with rfl | rfl | rfl | rfl <;> rfl
theorem nw_set1_1 {ad : Nat → Nat} {ca : Nat → ClassId} {σ : nw_ST} {q : Nat} {v : Int32} (h : nw_cl q = 1) : (nw_W ad ca σ).set q (ad q, .inr (1, (nw_fs1 ad σ q).set 1 (.int v))) = nw_W ad ca (nw_sS σ q 1 v) := by
  rcases nw_q1 h with rfl | rfl | rfl | rfl <;> rfl
theorem nw_set1_2 {ad : Nat → Nat} {ca : Nat → ClassId} {σ : nw_ST} {q : Nat} {v : Int32} (h : nw_cl q = 1) : (nw_W ad ca σ).set q (ad q, .inr (1, (nw_fs1 ad σ q).set 2 (.int v))) = nw_W ad ca (nw_sS σ q 2 v) := by
  rcases nw_q1 h with rfl | rfl | rfl | rfl <;> rfl
theorem nw_set1_3 {ad : Nat → Nat} {ca : Nat → ClassId} {σ : nw_ST} {q : Nat} {v : Int32} (h : nw_cl q = 1) : (nw_W ad ca σ).set q (ad q, .inr (1, (nw_fs1 ad σ q).set 3 (.int v))) = nw_W ad ca (nw_sS σ q 3 v) := by
  rcases nw_q1 h with rfl | rfl | rfl | rfl <;> rfl
theorem nw_wt2_0 {q : Nat} (h : nw_cl q = 2) : nw_cl (nw_rf q 0) = 10 := by
  rcases nw_q2 h with rfl | rfl <;> rfl
theorem nw_wt2_1 {q : Nat} (h : nw_cl q = 2) : nw_cl (nw_rf q 1) = 14 := by
  rcases nw_q2 h with rfl | rfl <;> rfl
theorem nw_wt2_2 {q : Nat} (h : nw_cl q = 2) : nw_cl (nw_rf q 2) = 14 := by
  rcases nw_q2 h with rfl | rfl <;> rfl
theorem nw_wt2_3 {q : Nat} (h : nw_cl q = 2) : nw_cl (nw_rf q 3) = 10 := by
  rcases nw_q2 h with rfl | rfl <;> rfl
theorem nw_set2_4 {ad : Nat → Nat} {ca : Nat → ClassId} {σ : nw_ST} {q : Nat} {v : Int32} (h : nw_cl q = 2) : (nw_W ad ca σ).set q (ad q, .inr (2, (nw_fs2 ad σ q).set 4 (.int v))) = nw_W ad ca (nw_sS σ q 4 v) := by
  rcases nw_q2 h with rfl | rfl <;> rfl
theorem nw_set2_5 {ad : Nat → Nat} {ca : Nat → ClassId} {σ : nw_ST} {q : Nat} {v : Int32} (h : nw_cl q = 2) : (nw_W ad ca σ).set q (ad q, .inr (2, (nw_fs2 ad σ q).set 5 (.int v))) = nw_W ad ca (nw_sS σ q 5 v) := by
  rcases nw_q2 h with rfl | rfl <;> rfl
theorem nw_set2_6 {ad : Nat → Nat} {ca : Nat → ClassId} {σ : nw_ST} {q : Nat} {v : Int32} (h : nw_cl q = 2) : (nw_W ad ca σ).set q (ad q, .inr (2, (nw_fs2 ad σ q).set 6 (.int v))) = nw_W ad ca (nw_sS σ q 6 v) := by
  rcases nw_q2 h with rfl | rfl <;> rfl
theorem nw_wt3_0 {q : Nat} (h : nw_cl q = 3) : nw_cl (nw_rf q 0) = 10 := by
  rcases nw_q3 h with rfl <;> rfl
theorem nw_wt3_1 {q : Nat} (h : nw_cl q = 3) : nw_cl (nw_rf q 1) = 10 := by
  rcases nw_q3 h with rfl <;> rfl
theorem nw_wt3_2 {q : Nat} (h : nw_cl q = 3) : nw_cl (nw_rf q 2) = 12 := by
  rcases nw_q3 h with rfl <;> rfl
theorem nw_wt3_3 {q : Nat} (h : nw_cl q = 3) : nw_cl (nw_rf q 3) = 10 := by
  rcases nw_q3 h with rfl <;> rfl
theorem nw_wt3_4 {q : Nat} (h : nw_cl q = 3) : nw_cl (nw_rf q 4) = 10 := by
  rcases nw_q3 h with rfl <;> rfl
theorem nw_wt3_5 {q : Nat} (h : nw_cl q = 3) : nw_cl (nw_rf q 5) = 10 := by
  rcases nw_q3 h with rfl <;> rfl
theorem nw_set3_6 {ad : Nat → Nat} {ca : Nat → ClassId} {σ : nw_ST} {q : Nat} {v : Int32} (h : nw_cl q = 3) : (nw_W ad ca σ).set q (ad q, .inr (3, (nw_fs3 ad σ q).set 6 (.int v))) = nw_W ad ca (nw_sS σ q 6 v) := by
  rcases nw_q3 h with rfl <;> rfl
theorem nw_wt4_0 {q : Nat} (h : nw_cl q = 4) : nw_cl (nw_rf q 0) = 2 := by
  rcases nw_q4 h with rfl <;> rfl
theorem nw_wt4_1 {q : Nat} (h : nw_cl q = 4) : nw_cl (nw_rf q 1) = 2 := by
  rcases nw_q4 h with rfl <;> rfl
theorem nw_wt4_2 {q : Nat} (h : nw_cl q = 4) : nw_cl (nw_rf q 2) = 0 := by
  rcases nw_q4 h with rfl <;> rfl
theorem nw_wt4_3 {q : Nat} (h : nw_cl q = 4) : nw_cl (nw_rf q 3) = 0 := by
  rcases nw_q4 h with rfl <;> rfl
theorem nw_wt4_4 {q : Nat} (h : nw_cl q = 4) : nw_cl (nw_rf q 4) = 0 := by
  rcases nw_q4 h with rfl <;> rfl
theorem nw_wt4_5 {q : Nat} (h : nw_cl q = 4) : nw_cl (nw_rf q 5) = 0 := by
  rcases nw_q4 h with rfl <;> rfl
theorem nw_wt4_6 {q : Nat} (h : nw_cl q = 4) : nw_cl (nw_rf q 6) = 3 := by
  rcases nw_q4 h with rfl <;> rfl
theorem nw_wt4_7 {q : Nat} (h : nw_cl q = 4) : nw_cl (nw_rf q 7) = 13 := by
  rcases nw_q4 h with rfl <;> rfl
theorem nw_wt4_8 {q : Nat} (h : nw_cl q = 4) : nw_cl (nw_rf q 8) = 10 := by
  rcases nw_q4 h with rfl <;> rfl
theorem nw_wt4_9 {q : Nat} (h : nw_cl q = 4) : nw_cl (nw_rf q 9) = 11 := by
  rcases nw_q4 h with rfl <;> rfl
theorem nw_set4_10 {ad : Nat → Nat} {ca : Nat → ClassId} {σ : nw_ST} {q : Nat} {v : Int32} (h : nw_cl q = 4) : (nw_W ad ca σ).set q (ad q, .inr (4, (nw_fs4 ad σ q).set 10 (.int v))) = nw_W ad ca (nw_sS σ q 10 v) := by
  rcases nw_q4 h with rfl <;> rfl
theorem nw_set4_11 {ad : Nat → Nat} {ca : Nat → ClassId} {σ : nw_ST} {q : Nat} {v : Int32} (h : nw_cl q = 4) : (nw_W ad ca σ).set q (ad q, .inr (4, (nw_fs4 ad σ q).set 11 (.int v))) = nw_W ad ca (nw_sS σ q 11 v) := by
  rcases nw_q4 h with rfl <;> rfl
theorem nw_set4_12 {ad : Nat → Nat} {ca : Nat → ClassId} {σ : nw_ST} {q : Nat} {v : Int32} (h : nw_cl q = 4) : (nw_W ad ca σ).set q (ad q, .inr (4, (nw_fs4 ad σ q).set 12 (.int v))) = nw_W ad ca (nw_sS σ q 12 v) := by
  rcases nw_q4 h with rfl <;> rfl
theorem nw_wt5_0 {q : Nat} (h : nw_cl q = 5) : nw_cl (nw_rf q 0) = 10 := by
  rcases nw_q5 h with rfl <;> rfl
theorem nw_wt5_1 {q : Nat} (h : nw_cl q = 5) : nw_cl (nw_rf q 1) = 10 := by
  rcases nw_q5 h with rfl <;> rfl
theorem nw_set5_2 {ad : Nat → Nat} {ca : Nat → ClassId} {σ : nw_ST} {q : Nat} {v : Int32} (h : nw_cl q = 5) : (nw_W ad ca σ).set q (ad q, .inr (5, (nw_fs5 ad σ q).set 2 (.int v))) = nw_W ad ca (nw_sS σ q 2 v) := by
  rcases nw_q5 h with rfl <;> rfl
theorem nw_wt5_3 {q : Nat} (h : nw_cl q = 5) : nw_cl (nw_rf q 3) = 10 := by
  rcases nw_q5 h with rfl <;> rfl
theorem nw_wt5_4 {q : Nat} (h : nw_cl q = 5) : nw_cl (nw_rf q 4) = 10 := by
  rcases nw_q5 h with rfl <;> rfl
theorem nw_wt5_5 {q : Nat} (h : nw_cl q = 5) : nw_cl (nw_rf q 5) = 10 := by
  rcases nw_q5 h with rfl <;> rfl
theorem nw_set5_6 {ad : Nat → Nat} {ca : Nat → ClassId} {σ : nw_ST} {q : Nat} {v : Int32} (h : nw_cl q = 5) : (nw_W ad ca σ).set q (ad q, .inr (5, (nw_fs5 ad σ q).set 6 (.int v))) = nw_W ad ca (nw_sS σ q 6 v) := by
  rcases nw_q5 h with rfl <;> rfl
theorem nw_wt5_7 {q : Nat} (h : nw_cl q = 5) : nw_cl (nw_rf q 7) = 10 := by
  rcases nw_q5 h with rfl <;> rfl
theorem nw_wt5_8 {q : Nat} (h : nw_cl q = 5) : nw_cl (nw_rf q 8) = 10 := by
  rcases nw_q5 h with rfl <;> rfl
theorem nw_wt5_9 {q : Nat} (h : nw_cl q = 5) : nw_cl (nw_rf q 9) = 10 := by
  rcases nw_q5 h with rfl <;> rfl
theorem nw_set5_10 {ad : Nat → Nat} {ca : Nat → ClassId} {σ : nw_ST} {q : Nat} {v : Int32} (h : nw_cl q = 5) : (nw_W ad ca σ).set q (ad q, .inr (5, (nw_fs5 ad σ q).set 10 (.int v))) = nw_W ad ca (nw_sS σ q 10 v) := by
  rcases nw_q5 h with rfl <;> rfl
theorem nw_set5_11 {ad : Nat → Nat} {ca : Nat → ClassId} {σ : nw_ST} {q : Nat} {v : Int32} (h : nw_cl q = 5) : (nw_W ad ca σ).set q (ad q, .inr (5, (nw_fs5 ad σ q).set 11 (.int v))) = nw_W ad ca (nw_sS σ q 11 v) := by
  rcases nw_q5 h with rfl <;> rfl
theorem nw_wt5_12 {q : Nat} (h : nw_cl q = 5) : nw_cl (nw_rf q 12) = 10 := by
  rcases nw_q5 h with rfl <;> rfl
theorem nw_wt5_13 {q : Nat} (h : nw_cl q = 5) : nw_cl (nw_rf q 13) = 10 := by
  rcases nw_q5 h with rfl <;> rfl
theorem nw_set5_14 {ad : Nat → Nat} {ca : Nat → ClassId} {σ : nw_ST} {q : Nat} {v : Int32} (h : nw_cl q = 5) : (nw_W ad ca σ).set q (ad q, .inr (5, (nw_fs5 ad σ q).set 14 (.int v))) = nw_W ad ca (nw_sS σ q 14 v) := by
  rcases nw_q5 h with rfl <;> rfl
theorem nw_wt5_15 {q : Nat} (h : nw_cl q = 5) : nw_cl (nw_rf q 15) = 10 := by
  rcases nw_q5 h with rfl <;> rfl
theorem nw_set5_16 {ad : Nat → Nat} {ca : Nat → ClassId} {σ : nw_ST} {q : Nat} {v : Int32} (h : nw_cl q = 5) : (nw_W ad ca σ).set q (ad q, .inr (5, (nw_fs5 ad σ q).set 16 (.int v))) = nw_W ad ca (nw_sS σ q 16 v) := by
  rcases nw_q5 h with rfl <;> rfl
theorem nw_wt5_17 {q : Nat} (h : nw_cl q = 5) : nw_cl (nw_rf q 17) = 10 := by
  rcases nw_q5 h with rfl <;> rfl
theorem nw_wt5_18 {q : Nat} (h : nw_cl q = 5) : nw_cl (nw_rf q 18) = 10 := by
  rcases nw_q5 h with rfl <;> rfl
theorem nw_wt5_19 {q : Nat} (h : nw_cl q = 5) : nw_cl (nw_rf q 19) = 10 := by
  rcases nw_q5 h with rfl <;> rfl
theorem nw_wt5_20 {q : Nat} (h : nw_cl q = 5) : nw_cl (nw_rf q 20) = 10 := by
  rcases nw_q5 h with rfl <;> rfl
theorem nw_wt5_21 {q : Nat} (h : nw_cl q = 5) : nw_cl (nw_rf q 21) = 10 := by
  rcases nw_q5 h with rfl <;> rfl
theorem nw_set5_22 {ad : Nat → Nat} {ca : Nat → ClassId} {σ : nw_ST} {q : Nat} {v : Int32} (h : nw_cl q = 5) : (nw_W ad ca σ).set q (ad q, .inr (5, (nw_fs5 ad σ q).set 22 (.int v))) = nw_W ad ca (nw_sS σ q 22 v) := by
  rcases nw_q5 h with rfl <;> rfl
theorem nw_set5_23 {ad : Nat → Nat} {ca : Nat → ClassId} {σ : nw_ST} {q : Nat} {v : Int32} (h : nw_cl q = 5) : (nw_W ad ca σ).set q (ad q, .inr (5, (nw_fs5 ad σ q).set 23 (.int v))) = nw_W ad ca (nw_sS σ q 23 v) := by
  rcases nw_q5 h with rfl <;> rfl
theorem nw_set5_24 {ad : Nat → Nat} {ca : Nat → ClassId} {σ : nw_ST} {q : Nat} {v : Int32} (h : nw_cl q = 5) : (nw_W ad ca σ).set q (ad q, .inr (5, (nw_fs5 ad σ q).set 24 (.int v))) = nw_W ad ca (nw_sS σ q 24 v) := by
  rcases nw_q5 h with rfl <;> rfl
theorem nw_set5_25 {ad : Nat → Nat} {ca : Nat → ClassId} {σ : nw_ST} {q : Nat} {v : Int32} (h : nw_cl q = 5) : (nw_W ad ca σ).set q (ad q, .inr (5, (nw_fs5 ad σ q).set 25 (.int v))) = nw_W ad ca (nw_sS σ q 25 v) := by
  rcases nw_q5 h with rfl <;> rfl
theorem nw_set5_26 {ad : Nat → Nat} {ca : Nat → ClassId} {σ : nw_ST} {q : Nat} {v : Int32} (h : nw_cl q = 5) : (nw_W ad ca σ).set q (ad q, .inr (5, (nw_fs5 ad σ q).set 26 (.int v))) = nw_W ad ca (nw_sS σ q 26 v) := by
  rcases nw_q5 h with rfl <;> rfl
theorem nw_wt5_27 {q : Nat} (h : nw_cl q = 5) : nw_cl (nw_rf q 27) = 12 := by
  rcases nw_q5 h with rfl <;> rfl
theorem nw_set5_28 {ad : Nat → Nat} {ca : Nat → ClassId} {σ : nw_ST} {q : Nat} {v : Int32} (h : nw_cl q = 5) : (nw_W ad ca σ).set q (ad q, .inr (5, (nw_fs5 ad σ q).set 28 (.int v))) = nw_W ad ca (nw_sS σ q 28 v) := by
  rcases nw_q5 h with rfl <;> rfl
theorem nw_wt5_29 {q : Nat} (h : nw_cl q = 5) : nw_cl (nw_rf q 29) = 10 := by
  rcases nw_q5 h with rfl <;> rfl
theorem nw_wt5_30 {q : Nat} (h : nw_cl q = 5) : nw_cl (nw_rf q 30) = 10 := by
  rcases nw_q5 h with rfl <;> rfl
theorem nw_wt5_31 {q : Nat} (h : nw_cl q = 5) : nw_cl (nw_rf q 31) = 11 := by
  rcases nw_q5 h with rfl <;> rfl
theorem nw_wt5_32 {q : Nat} (h : nw_cl q = 5) : nw_cl (nw_rf q 32) = 12 := by
  rcases nw_q5 h with rfl <;> rfl
theorem nw_wt5_33 {q : Nat} (h : nw_cl q = 5) : nw_cl (nw_rf q 33) = 10 := by
  rcases nw_q5 h with rfl <;> rfl
theorem nw_wt5_34 {q : Nat} (h : nw_cl q = 5) : nw_cl (nw_rf q 34) = 10 := by
  rcases nw_q5 h with rfl <;> rfl
theorem nw_wt5_35 {q : Nat} (h : nw_cl q = 5) : nw_cl (nw_rf q 35) = 10 := by
  rcases nw_q5 h with rfl <;> rfl
theorem nw_wt5_36 {q : Nat} (h : nw_cl q = 5) : nw_cl (nw_rf q 36) = 10 := by
  rcases nw_q5 h with rfl <;> rfl
theorem nw_set5_37 {ad : Nat → Nat} {ca : Nat → ClassId} {σ : nw_ST} {q : Nat} {v : Int32} (h : nw_cl q = 5) : (nw_W ad ca σ).set q (ad q, .inr (5, (nw_fs5 ad σ q).set 37 (.int v))) = nw_W ad ca (nw_sS σ q 37 v) := by
  rcases nw_q5 h with rfl <;> rfl
theorem nw_wtS {i : Nat} (h : i < 4) : nw_cl (27 + 2 * i) = 1 := by
  have h2 : ∀ i, i < 4 → nw_cl (27 + 2 * i) = 1 := by decide +kernel
  exact h2 i h
