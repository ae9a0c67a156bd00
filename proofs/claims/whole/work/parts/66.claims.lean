/-! ===== claims ===== -/
theorem nb_sum_swap (f : Nat → Nat → Nat) (a b : Nat) : nb_sum (fun t => nb_sum (fun i => f i t) a) b = nb_sum (fun i => nb_sum (fun t => f i t) b) a := by
  induction b with
  | zero =>
    show 0 = nb_sum (fun i => nb_sum (fun t => f i t) 0) a
    exact (nb_sum_zero (fun i _ => rfl)).symm
  | succ b ih =>
    show nb_sum _ b + nb_sum (fun i => f i b) a = nb_sum (fun i => nb_sum (fun t => f i t) b + f i b) a
    rw [ih, nb_sum_add]
/-- a sum of which at most one counts -/
theorem nb_sum_once {p : Nat → Bool} {g : Nat → Nat} {n : Nat} (h : ∀ i j, i < n → j < n → p i = true → p j = true → i = j) : nb_sum (fun i => if p i then g i else 0) n = if nb_fst p n < n then g (nb_fst p n) else 0 := by
  induction n with
  | zero => rfl
  | succ n ih =>
    have ih := ih (fun i j hi hj => h i j (by omega) (by omega))
    have hle := nb_fst_le p n
    show nb_sum _ n + (if p n then g n else 0) = _
    rw [ih]
    by_cases h1 : nb_fst p n < n
    · have e : nb_fst p (n + 1) = nb_fst p n := by show (if _ then _ else _) = _; rw [if_pos h1]
      have hy := nb_fst_yes p n h1
      have hn : ¬ p n = true := fun z => by have := h (nb_fst p n) n (by omega) (by omega) hy z; omega
      rw [e, if_pos h1, if_neg hn, if_pos (by omega), Nat.add_zero]
    · rw [if_neg h1]
      by_cases h2 : p n = true
      · have e : nb_fst p (n + 1) = n := by show (if _ then _ else _) = _; rw [if_neg h1, if_pos h2]
        rw [e, if_pos h2, if_pos (by omega)]; omega
      · have e : nb_fst p (n + 1) = n + 1 := by show (if _ then _ else _) = _; rw [if_neg h1, if_neg h2]
        rw [e, if_neg h2, if_neg (by omega)]
def nb_isn (V : nb_V) (n t : Nat) : Bool := decide (nb_at V t = n ∧ 1 ≤ n)
theorem nb_whE (V : nb_V) (n : Nat) : nb_wh V n = nb_fst (nb_isn V n) 240 := rfl
theorem nb_at_up {V : nb_V} {u t : Nat} (h : u < t) (h1 : 1 ≤ nb_at V u) (h2 : 1 ≤ nb_at V t) : nb_at V u < nb_at V t := by
  have a := nb_at_new (V := V) h h1
  have hc : nb_ca V t = true := by
    cases q : nb_ca V t
    · have := nb_at0.mpr q; omega
    · rfl
  have e : nb_at V t = nb_nu V (nb_ct V t + 1) := by
    unfold nb_at; rw [if_pos hc, nb_ctS, if_pos hc]
  omega
theorem nb_isn_once {V : nb_V} {n : Nat} (i j : Nat) (hi : nb_isn V n i = true) (hj : nb_isn V n j = true) : i = j := by
  have hi := of_decide_eq_true hi
  have hj := of_decide_eq_true hj
  rcases Nat.lt_trichotomy i j with h | h | h
  · have := nb_at_up (V := V) h (by omega) (by omega); omega
  · exact h
  · have := nb_at_up (V := V) h (by omega) (by omega); omega
theorem nb_sum_isn (V : nb_V) (n : Nat) (g : Nat → Nat) : nb_sum (fun t => if nb_isn V n t then g t else 0) 240 = if nb_wh V n < 240 then g (nb_wh V n) else 0 :=
  nb_sum_once (fun i j _ _ => nb_isn_once i j)
def nb_db (V : nb_V) (t : Nat) : Bool := decide (¬ nb_cn V t ≤ 1)
def nb_by (S : nb_S) (t : Nat) : Nat := if nb_db (nb_VS S) t then nb_br S (nb_at (nb_VS S) t) / 2 else nb_br S (nb_at (nb_VS S) t)
/-- what its holder has by a number -/
def nb_wo (S : nb_S) (n : Nat) : Nat := (if nb_wh (nb_VS S) n < 240 then nb_by S (nb_wh (nb_VS S) n) else 0) + (if nb_wh (nb_VS S) (n - 1) < 240 then (if nb_db (nb_VS S) (nb_wh (nb_VS S) (n - 1)) then nb_by S (nb_wh (nb_VS S) (n - 1)) else 0) else 0)
def nb_f1 (nu : Nat → Nat) (i : Nat) : Bool := decide (∀ r, r < i → nu r ≠ nu i)
theorem nb_f1_iff {nu : Nat → Nat} {i : Nat} : nb_f1 nu i = true ↔ ∀ r, r < i → nu r ≠ nu i := by unfold nb_f1; exact decide_eq_true_iff
def nb_cla (S : nb_S) (ho nu : Nat → Nat) (N h : Nat) : Nat := nb_sum (fun i => if nb_f1 nu i = true ∧ ho i = h then nb_wo S (nu i) else 0) N
def nb_hof (ho nu : Nat → Nat) (N n : Nat) : Int32 := if nb_fst (fun i => decide (nu i = n)) N < N then nI (ho (nb_fst (fun i => decide (nu i = n)) N)) else -1
theorem nb_hof_sum {ho nu : Nat → Nat} {N n h : Nat} (b : Nat) (hb : ∀ i, i < N → ho i < 2 ^ 31) (hh : h < 2 ^ 31) : (if nb_hof ho nu N n = nI h then b else 0) = nb_sum (fun i => if nb_f1 nu i = true ∧ ho i = h then (if nu i = n then b else 0) else 0) N := by
  induction N with
  | zero =>
    unfold nb_hof
    rw [if_neg (Nat.not_lt_zero _), if_neg (fun z => nb_neg1 hh z.symm)]
    rfl
  | succ N ih =>
    have ih := ih (fun i hi => hb i (by omega))
    show _ = nb_sum _ N + (if nb_f1 nu N = true ∧ ho N = h then (if nu N = n then b else 0) else 0)
    rw [← ih]
    have hle := nb_fst_le (fun i => decide (nu i = n)) N
    by_cases h1 : nb_fst (fun i => decide (nu i = n)) N < N
    · have e : nb_fst (fun i => decide (nu i = n)) (N + 1) = nb_fst (fun i => decide (nu i = n)) N := by show (if _ then _ else _) = _; rw [if_pos h1]
      have hy := of_decide_eq_true (nb_fst_yes (fun i => decide (nu i = n)) N h1)
      have e2 : nb_hof ho nu (N + 1) n = nb_hof ho nu N n := by
        unfold nb_hof; rw [e, if_pos h1, if_pos (by omega)]
      have e3 : (if nb_f1 nu N = true ∧ ho N = h then (if nu N = n then b else 0) else 0) = 0 := by
        by_cases q : nu N = n
        · rw [if_neg (fun z => nb_f1_iff.mp z.1 _ h1 (hy.trans q.symm))]
        · rw [if_neg q]; split <;> rfl
      rw [e2, e3]; rfl
    · have hno : ∀ i, i < N → nu i ≠ n := fun i hi => of_decide_eq_false (nb_fst_no (fun i => decide (nu i = n)) N i (by omega))
      have e1 : (if nb_hof ho nu N n = nI h then b else 0) = 0 := by
        unfold nb_hof; rw [if_neg h1, if_neg (fun z => nb_neg1 hh z.symm)]
      rw [e1, Nat.zero_add]
      by_cases q : nu N = n
      · have e : nb_fst (fun i => decide (nu i = n)) (N + 1) = N := by show (if _ then _ else _) = _; rw [if_neg h1, if_pos (decide_eq_true q)]
        have e2 : nb_hof ho nu (N + 1) n = nI (ho N) := by unfold nb_hof; rw [e, if_pos (by omega)]
        have hf : nb_f1 nu N = true := nb_f1_iff.mpr (fun r hr => by rw [q]; exact hno r hr)
        rw [e2, if_pos q]
        by_cases y : ho N = h
        · rw [if_pos (by rw [y]), if_pos ⟨hf, y⟩]
        · rw [if_neg (fun z => y ((nI_eq (hb N (by omega)) hh).mp z)), if_neg (fun z => y z.2)]
      · have e : nb_fst (fun i => decide (nu i = n)) (N + 1) = N + 1 := by show (if _ then _ else _) = _; rw [if_neg h1, if_neg (fun z => q (of_decide_eq_true z))]
        have e2 : nb_hof ho nu (N + 1) n = -1 := by unfold nb_hof; rw [e, if_neg (by omega)]
        rw [e2, if_neg (fun z => nb_neg1 hh z.symm), if_neg q]; split <;> rfl
/-- what a time gives a holder -/
def nb_ct1 (S : nb_S) (ho nu : Nat → Nat) (N h t : Nat) : Nat := if nb_at (nb_VS S) t = 0 then 0 else (if nb_hof ho nu N (nb_at (nb_VS S) t) = nI h then nb_by S t else 0) + (if nb_db (nb_VS S) t then (if nb_hof ho nu N (nb_at (nb_VS S) t + 1) = nI h then nb_by S t else 0) else 0)
theorem nb_ct1E {S : nb_S} {ho nu : Nat → Nat} {N h : Nat} (hb : ∀ i, i < N → ho i < 2 ^ 31) (hh : h < 2 ^ 31) (t : Nat) : nb_ct1 S ho nu N h t = nb_sum (fun i => if nb_f1 nu i = true ∧ ho i = h then ((if nb_isn (nb_VS S) (nu i) t then nb_by S t else 0) + (if nb_isn (nb_VS S) (nu i - 1) t then (if nb_db (nb_VS S) t then nb_by S t else 0) else 0)) else 0) N := by
  unfold nb_ct1
  by_cases h0 : nb_at (nb_VS S) t = 0
  · rw [if_pos h0, nb_sum_zero]
    intro i _
    have a : ∀ n, ¬ nb_isn (nb_VS S) n t = true := fun n z => by have := of_decide_eq_true z; omega
    rw [if_neg (a _), if_neg (a _)]
    split <;> rfl
  · rw [if_neg h0, nb_hof_sum _ hb hh]
    have e2 : (if nb_db (nb_VS S) t then (if nb_hof ho nu N (nb_at (nb_VS S) t + 1) = nI h then nb_by S t else 0) else 0) = nb_sum (fun i => if nb_f1 nu i = true ∧ ho i = h then (if nu i = nb_at (nb_VS S) t + 1 then (if nb_db (nb_VS S) t then nb_by S t else 0) else 0) else 0) N := by
      rw [← nb_hof_sum _ hb hh]
      cases nb_db (nb_VS S) t
      · simp
      · rfl
    rw [e2, ← nb_sum_add]
    apply nb_sum_congr
    intro i _
    by_cases q : nb_f1 nu i = true ∧ ho i = h
    · rw [if_pos q, if_pos q, if_pos q]
      have a1 : (nb_isn (nb_VS S) (nu i) t = true) ↔ nu i = nb_at (nb_VS S) t := by
        unfold nb_isn; rw [decide_eq_true_iff]; omega
      have a2 : (nb_isn (nb_VS S) (nu i - 1) t = true) ↔ nu i = nb_at (nb_VS S) t + 1 := by
        unfold nb_isn; rw [decide_eq_true_iff]; omega
      have b1 : (if nu i = nb_at (nb_VS S) t then nb_by S t else 0) = if nb_isn (nb_VS S) (nu i) t then nb_by S t else 0 := by
        by_cases w : nu i = nb_at (nb_VS S) t
        · rw [if_pos w, if_pos (a1.mpr w)]
        · rw [if_neg w, if_neg (fun z => w (a1.mp z))]
      have b2 : (if nu i = nb_at (nb_VS S) t + 1 then (if nb_db (nb_VS S) t then nb_by S t else 0) else 0) = if nb_isn (nb_VS S) (nu i - 1) t then (if nb_db (nb_VS S) t then nb_by S t else 0) else 0 := by
        by_cases w : nu i = nb_at (nb_VS S) t + 1
        · rw [if_pos w, if_pos (a2.mpr w)]
        · rw [if_neg w, if_neg (fun z => w (a2.mp z))]
      rw [b1, b2]
    · rw [if_neg q, if_neg q, if_neg q]
theorem nb_claE {S : nb_S} {ho nu : Nat → Nat} {N h : Nat} (hb : ∀ i, i < N → ho i < 2 ^ 31) (hh : h < 2 ^ 31) : nb_sum (nb_ct1 S ho nu N h) 240 = nb_cla S ho nu N h := by
  rw [nb_sum_congr (fun t _ => nb_ct1E hb hh t), nb_sum_swap (fun i t => if nb_f1 nu i = true ∧ ho i = h then ((if nb_isn (nb_VS S) (nu i) t then nb_by S t else 0) + (if nb_isn (nb_VS S) (nu i - 1) t then (if nb_db (nb_VS S) t then nb_by S t else 0) else 0)) else 0)]
  unfold nb_cla
  apply nb_sum_congr
  intro i _
  by_cases q : nb_f1 nu i = true ∧ ho i = h
  · rw [if_pos q, nb_sum_congr (fun t _ => if_pos q), nb_sum_add, nb_sum_isn, nb_sum_isn (nb_VS S) (nu i - 1) (fun t => if nb_db (nb_VS S) t then nb_by S t else 0)]
    rfl
  · rw [if_neg q, nb_sum_zero (fun t _ => if_neg q)]
theorem nb_br_le {S : nb_S} (hO : nb_OK S) (n : Nat) : nb_br S n ≤ 72 := by
  have h1 := nb_en1 S hO
  have := nb_sum_le (f := fun i => if n % nb_mo S i = nb_re S i then nb_va S i else 0) (n := nb_nf S) (B := 9) (fun i hi => by
    have := (nb_ptB1 (show i < nb_en 1 (S.2.1 1) (S.1 1) from hi)).2.2
    have : nb_va S i ≤ 9 := this
    split <;> omega)
  have h1 : nb_nf S ≤ 8 := h1
  unfold nb_br
  omega
theorem nb_by_le {S : nb_S} (hO : nb_OK S) (t : Nat) : nb_by S t ≤ 72 := by
  have := nb_br_le hO (nb_at (nb_VS S) t)
  unfold nb_by
  split <;> omega
theorem nb_wo_le {S : nb_S} (hO : nb_OK S) (n : Nat) : nb_wo S n ≤ 144 := by
  have a := nb_by_le hO (nb_wh (nb_VS S) n)
  have b := nb_by_le hO (nb_wh (nb_VS S) (n - 1))
  unfold nb_wo
  split <;> split <;> (try split) <;> omega
theorem nb_cla_le {S : nb_S} (hO : nb_OK S) (ho nu : Nat → Nat) (N h : Nat) : nb_cla S ho nu N h ≤ N * 144 :=
  nb_sum_le (fun i _ => by have := nb_wo_le hO (nu i); split <;> omega)
