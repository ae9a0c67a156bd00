/-! ===== pure part: reads of a changed state ===== -/
theorem nb_gSsS (σ : nw_ST) (q k : Nat) (v : Int32) (q' k' : Nat) : nw_gS (nw_sS σ q k v) q' k' = if q' = q then (if k' = k then v else nw_gS σ q' k') else nw_gS σ q' k' := rfl
theorem nb_gSsA (σ : nw_ST) (q i : Nat) (v : Int32) (q' k' : Nat) : nw_gS (nw_sA σ q i v) q' k' = nw_gS σ q' k' := rfl
theorem nb_gSsL (σ : nw_ST) (q i : Nat) (v : Int64) (q' k' : Nat) : nw_gS (nw_sL σ q i v) q' k' = nw_gS σ q' k' := rfl
theorem nb_gSsC (σ : nw_ST) (q0 q i j n : Nat) (q' k' : Nat) : nw_gS (nw_sC σ q0 q i j n) q' k' = nw_gS σ q' k' := rfl
theorem nb_gAsS (σ : nw_ST) (q k : Nat) (v : Int32) (q' i : Nat) : nw_gA (nw_sS σ q k v) q' i = nw_gA σ q' i := rfl
theorem nb_gAsL (σ : nw_ST) (q k : Nat) (v : Int64) (q' i : Nat) : nw_gA (nw_sL σ q k v) q' i = nw_gA σ q' i := rfl
theorem nb_gAsA (σ : nw_ST) (q i : Nat) (v : Int32) (q' j : Nat) : nw_gA (nw_sA σ q i v) q' j = if q' = q then (if j = i then v else nw_gA σ q' j) else nw_gA σ q' j := by
  unfold nw_gA nw_sA
  by_cases h : q' = q
  · subst h; simp [upd]
  · simp [h]
theorem nb_gAsC (σ : nw_ST) (q0 q sp dp n : Nat) (q' j : Nat) : nw_gA (nw_sC σ q0 q sp dp n) q' j = if q' = q then (if dp ≤ j ∧ j < dp + n then nw_gA σ q0 (sp + (j - dp)) else nw_gA σ q' j) else nw_gA σ q' j := by
  unfold nw_gA nw_sC
  by_cases h : q' = q
  · subst h; simp [va_cpy]
  · simp [h]
theorem nb_gLsS (σ : nw_ST) (q k : Nat) (v : Int32) (q' i : Nat) : nw_gL (nw_sS σ q k v) q' i = nw_gL σ q' i := rfl
theorem nb_gLsA (σ : nw_ST) (q k : Nat) (v : Int32) (q' i : Nat) : nw_gL (nw_sA σ q k v) q' i = nw_gL σ q' i := rfl
theorem nb_gLsL (σ : nw_ST) (q i : Nat) (v : Int64) (q' j : Nat) : nw_gL (nw_sL σ q i v) q' j = if q' = q then (if j = i then v else nw_gL σ q' j) else nw_gL σ q' j := by
  unfold nw_gL nw_sL
  by_cases h : q' = q
  · subst h; simp [vp_updL]
  · simp [h]
/-! ===== numbers ===== -/
theorem nb_cl {n : Nat} (h : n < 2 ^ 31) : (nI n).toNatClampNeg = n := nI_clamp h
theorem nb_eq0 {n : Nat} (h : n < 2 ^ 31) : nI n = 0 ↔ n = 0 := by rw [show (0 : Int32) = nI 0 from rfl, nI_eq h (by decide)]
theorem nb_in_iff {a b c : Int32} : v5_in a b c = 0 ↔ ¬ (b ≤ a ∧ a ≤ c) := by
  unfold v5_in
  by_cases h1 : a < b
  · rw [if_pos h1]; simp only [true_iff]; rintro ⟨h, -⟩; exact absurd h1 (Int32.not_lt.mpr h)
  · rw [if_neg h1]
    by_cases h2 : c < a
    · rw [if_pos h2]; simp only [true_iff]; rintro ⟨-, h⟩; exact absurd h2 (Int32.not_lt.mpr h)
    · rw [if_neg h2]; simp only [Int32.not_lt.mp h1, Int32.not_lt.mp h2, and_self, not_true]; decide
theorem nb_isFrom (a b c : Int32) : v4_isFrom a b c = v5_in a b c := rfl
theorem nb_below_iff {a b : Int32} : v4_isBelow a b = 0 ↔ ¬ (0 ≤ a ∧ a < b) := by
  unfold v4_isBelow
  by_cases h1 : a < 0
  · rw [if_pos h1]; simp only [true_iff]; rintro ⟨h, -⟩; exact absurd h1 (Int32.not_lt.mpr h)
  · rw [if_neg h1]
    by_cases h2 : b ≤ a
    · rw [if_pos h2]; simp only [true_iff]; rintro ⟨-, h⟩; exact absurd h (Int32.not_lt.mpr h2)
    · rw [if_neg h2]; simp only [Int32.not_lt.mp h1, Int32.not_le.mp h2, and_self, not_true]; decide
theorem nb_le_iff {a b : Int32} : a ≤ b ↔ a.toInt ≤ b.toInt := Int32.le_iff_toInt_le
theorem nb_lt_iff {a b : Int32} : a < b ↔ a.toInt < b.toInt := Int32.lt_iff_toInt_lt
/-- an argument between two numbers -/
theorem nb_arg {a : Int32} (lo hi : Nat) (hh : hi < 2 ^ 31) (h1 : nI lo ≤ a) (h2 : a ≤ nI hi) (hl : lo < 2 ^ 31) : ∃ j : Nat, lo ≤ j ∧ j ≤ hi ∧ a = nI j := by
  rw [nb_le_iff, nI_toInt hl] at h1
  rw [nb_le_iff, nI_toInt hh] at h2
  refine ⟨a.toInt.toNat, by omega, by omega, ?_⟩
  apply Int32.toInt_inj.mp
  rw [nI_toInt (by omega)]; omega
theorem nb_in {a : Int32} (lo hi : Nat) (hh : hi < 2 ^ 31) (hl : lo < 2 ^ 31) (h : ¬ v5_in a (nI lo) (nI hi) = 0) : ∃ j : Nat, lo ≤ j ∧ j ≤ hi ∧ a = nI j := by
  rw [nb_in_iff, Decidable.not_not] at h
  exact nb_arg lo hi hh h.1 h.2 hl
theorem nb_below_in {a : Int32} (n : Nat) (hn : n < 2 ^ 31) : v4_isBelow a (nI (n + 1)) = 0 ↔ v5_in a (nI 0) (nI n) = 0 ∨ ¬ n + 1 < 2 ^ 31 := by
  by_cases h9 : n + 1 < 2 ^ 31
  · rw [nb_below_iff, nb_in_iff, show (0 : Int32) = nI 0 from rfl, nb_lt_iff, nb_le_iff, nb_le_iff, nI_toInt h9, nI_toInt hn, nI_toInt (by decide : 0 < 2 ^ 31)]
    simp only [h9, not_true, or_false]
    constructor <;> intro h <;> omega
  · have : n + 1 = 2 ^ 31 := by omega
    simp only [h9, not_false_eq_true, or_true, iff_true]
    rw [this]
    unfold v4_isBelow
    rw [show nI (2 ^ 31) = -2147483648 from by decide +kernel]
    split
    · rfl
    · rw [if_pos]
      rw [nb_le_iff]
      have := Int32.le_toInt a
      simpa using this
theorem nb_below {a : Int32} (n : Nat) (hn : n + 1 < 2 ^ 31) : v4_isBelow a (nI (n + 1)) = 0 ↔ v5_in a (nI 0) (nI n) = 0 := by
  rw [nb_below_in n (by omega)]; simp only [hn, not_true, or_false]
/-! ===== what a walk may have changed ===== -/
/-- only the int fields in LS and the arrays of the cells in L may differ -/
def nb_Ch (LS : List (Nat × Nat)) (L : List Nat) (σ s : nw_ST) : Prop := (∀ q k, (q, k) ∉ LS → nw_gS s q k = nw_gS σ q k) ∧ (∀ q, q ∉ L → (∀ i, nw_gA s q i = nw_gA σ q i) ∧ ∀ i, nw_gL s q i = nw_gL σ q i)
theorem nb_Ch.rf {LS : List (Nat × Nat)} {L : List Nat} {σ : nw_ST} : nb_Ch LS L σ σ := ⟨fun _ _ _ => rfl, fun _ _ => ⟨fun _ => rfl, fun _ => rfl⟩⟩
theorem nb_Ch.tr {LS : List (Nat × Nat)} {L : List Nat} {σ s t : nw_ST} (h1 : nb_Ch LS L σ s) (h2 : nb_Ch LS L s t) : nb_Ch LS L σ t :=
  ⟨fun q k h => (h2.1 q k h).trans (h1.1 q k h), fun q h => ⟨fun i => ((h2.2 q h).1 i).trans ((h1.2 q h).1 i), fun i => ((h2.2 q h).2 i).trans ((h1.2 q h).2 i)⟩⟩
theorem nb_Ch.up {LS LS' : List (Nat × Nat)} {L L' : List Nat} {σ s : nw_ST} (h : nb_Ch LS L σ s) (h1 : ∀ x ∈ LS, x ∈ LS') (h2 : ∀ x ∈ L, x ∈ L') : nb_Ch LS' L' σ s :=
  ⟨fun q k hq => h.1 q k (fun z => hq (h1 _ z)), fun q hq => h.2 q (fun z => hq (h2 _ z))⟩
theorem nb_Ch.sS {LS : List (Nat × Nat)} {L : List Nat} {σ s : nw_ST} (h : nb_Ch LS L σ s) {q k : Nat} (v : Int32) (hq : (q, k) ∈ LS) : nb_Ch LS L σ (nw_sS s q k v) := by
  refine ⟨fun q' k' h' => ?_, fun q' h' => ⟨fun i => (h.2 q' h').1 i, fun i => (h.2 q' h').2 i⟩⟩
  rw [nb_gSsS]
  by_cases e : q' = q
  · subst e
    by_cases e2 : k' = k
    · subst e2; exact absurd hq h'
    · rw [if_pos rfl, if_neg e2]; exact h.1 _ _ h'
  · rw [if_neg e]; exact h.1 _ _ h'
theorem nb_Ch.sA {LS : List (Nat × Nat)} {L : List Nat} {σ s : nw_ST} (h : nb_Ch LS L σ s) {q : Nat} (i : Nat) (v : Int32) (hq : q ∈ L) : nb_Ch LS L σ (nw_sA s q i v) := by
  refine ⟨fun q' k' h' => h.1 _ _ h', fun q' h' => ⟨fun j => ?_, fun j => (h.2 q' h').2 j⟩⟩
  rw [nb_gAsA, if_neg (fun e => h' (by rw [e]; exact hq))]
  exact (h.2 q' h').1 j
theorem nb_Ch.sL {LS : List (Nat × Nat)} {L : List Nat} {σ s : nw_ST} (h : nb_Ch LS L σ s) {q : Nat} (i : Nat) (v : Int64) (hq : q ∈ L) : nb_Ch LS L σ (nw_sL s q i v) := by
  refine ⟨fun q' k' h' => h.1 _ _ h', fun q' h' => ⟨fun j => (h.2 q' h').1 j, fun j => ?_⟩⟩
  rw [nb_gLsL, if_neg (fun e => h' (by rw [e]; exact hq))]
  exact (h.2 q' h').2 j
theorem nb_Ch.sC {LS : List (Nat × Nat)} {L : List Nat} {σ s : nw_ST} (h : nb_Ch LS L σ s) {q : Nat} (q0 i j n : Nat) (hq : q ∈ L) : nb_Ch LS L σ (nw_sC s q0 q i j n) := by
  refine ⟨fun q' k' h' => h.1 _ _ h', fun q' h' => ⟨fun j => ?_, fun j => (h.2 q' h').2 j⟩⟩
  rw [nb_gAsC, if_neg (fun e => h' (by rw [e]; exact hq))]
  exact (h.2 q' h').1 j
/-- the class's cells: fields and arrays below 37 -/
def nb_cS : List (Nat × Nat) := (List.range 37).flatMap (fun q => (List.range 13).map (fun k => (q, k)))
def nb_cA : List Nat := List.range 37
/-- the reference's -/
def nb_mS : List (Nat × Nat) := (List.range 38).map (fun k => (37, k))
def nb_mA : List Nat := (List.range 26).map (· + 37)
