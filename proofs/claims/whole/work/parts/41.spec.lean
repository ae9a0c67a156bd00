/-! ===== the specification: a state in plain numbers ===== -/
def nb_sum (f : Nat → Nat) : Nat → Nat
  | 0 => 0
  | n + 1 => nb_sum f n + f n
/-- the least j below n with p j, or n -/
def nb_fst (p : Nat → Bool) : Nat → Nat
  | 0 => 0
  | n + 1 => if nb_fst p n < n then nb_fst p n else if p n then n else n + 1
theorem nb_fst_le (p : Nat → Bool) (n : Nat) : nb_fst p n ≤ n := by
  induction n with
  | zero => exact Nat.le_refl _
  | succ n ih => unfold nb_fst; split <;> (try split) <;> omega
theorem nb_fst_no (p : Nat → Bool) (n : Nat) : ∀ j, j < nb_fst p n → p j = false := by
  induction n with
  | zero => intro j h; exact absurd h (Nat.not_lt_zero _)
  | succ n ih =>
    intro j h
    have hle := nb_fst_le p n
    unfold nb_fst at h
    split at h
    · exact ih j h
    · rename_i hn
      have e : nb_fst p n = n := by omega
      split at h
      · exact ih j (by omega)
      · rename_i hp
        by_cases hj : j = n
        · subst hj; simpa using hp
        · exact ih j (by omega)
theorem nb_fst_yes (p : Nat → Bool) (n : Nat) (h : nb_fst p n < n) : p (nb_fst p n) = true := by
  induction n with
  | zero => exact absurd h (Nat.not_lt_zero _)
  | succ n ih =>
    have hle := nb_fst_le p n
    unfold nb_fst at h ⊢
    split
    · rename_i hn; exact ih hn
    · rename_i hn
      rw [if_neg hn] at h
      split
      · rename_i hp; exact hp
      · rename_i hp; rw [if_neg hp] at h; omega
/-- it is that one -/
theorem nb_fst_eq {p : Nat → Bool} {n j : Nat} (hj : j < n) (h1 : ∀ i, i < j → p i = false) (h2 : p j = true) : nb_fst p n = j := by
  have a := nb_fst_le p n
  rcases Nat.lt_trichotomy (nb_fst p n) j with h | h | h
  · have b := nb_fst_yes p n (by omega)
    rw [h1 _ h] at b; cases b
  · exact h
  · have b := nb_fst_no p n j h
    rw [h2] at b; cases b
theorem nb_fst_none {p : Nat → Bool} {n : Nat} (h1 : ∀ i, i < n → p i = false) : nb_fst p n = n := by
  have a := nb_fst_le p n
  rcases Nat.lt_or_ge (nb_fst p n) n with h | h
  · have b := nb_fst_yes p n h
    rw [h1 _ h] at b; cases b
  · omega
/-! texts: t = 0 swells, 1 finds; f the bytes -/
def nb_d (f : Nat → Nat) (j : Nat) : Nat := f j - 48
def nb_isD (f : Nat → Nat) (j : Nat) : Bool := decide (48 ≤ f j ∧ f j ≤ 57)
def nb_good (t : Nat) (f : Nat → Nat) (j : Nat) : Bool :=
  if j % 6 = 5 then decide (f j = 59) else nb_isD f j && (if t = 0 then decide ((j % 6 = 0 → 1 ≤ nb_d f j) ∧ (j % 6 = 2 → 2 ≤ 10 * nb_d f (j - 1) + nb_d f j)) else decide (j % 6 = 1 → 1 ≤ 10 * nb_d f (j - 1) + nb_d f j))
/-- the first byte with which it cannot go on, or n -/
def nb_bad (t : Nat) (f : Nat → Nat) (n : Nat) : Nat := nb_fst (fun j => !nb_good t f j) n
def nb_well (t : Nat) (f : Nat → Nat) (n : Nat) : Bool := decide (n = 0 ∨ (nb_bad t f n = n ∧ n % 6 = 5))
def nb_fl (t : Nat) (f : Nat → Nat) (n : Nat) : Int32 := if nb_well t f n then -1 else nI (nb_bad t f n)
def nb_en (t : Nat) (f : Nat → Nat) (n : Nat) : Nat := if nb_well t f n then (n + 1) / 6 else 0
def nb_pt (t : Nat) (f : Nat → Nat) (i w : Nat) : Nat :=
  if t = 0 then (if w = 0 then nb_d f (6 * i) else if w = 1 then 10 * nb_d f (6 * i + 1) + nb_d f (6 * i + 2) else 10 * nb_d f (6 * i + 3) + nb_d f (6 * i + 4))
  else (if w = 0 then 10 * nb_d f (6 * i) + nb_d f (6 * i + 1) else if w = 1 then 10 * nb_d f (6 * i + 2) + nb_d f (6 * i + 3) else nb_d f (6 * i + 4))
/-! waves: V holds swells (how many, heights, periods, from when on), depth, wakes, slips -/
abbrev nb_V : Type := Nat × (Nat → Nat) × (Nat → Nat) × (Nat → Nat) × Nat × Nat × (Nat → Nat) × Nat × (Nat → Nat) × (Nat → Nat)
def nb_ns (V : nb_V) : Nat := V.1
def nb_ht (V : nb_V) : Nat → Nat := V.2.1
def nb_pe (V : nb_V) : Nat → Nat := V.2.2.1
def nb_fr (V : nb_V) : Nat → Nat := V.2.2.2.1
def nb_dp (V : nb_V) : Nat := V.2.2.2.2.1
def nb_nw (V : nb_V) : Nat := V.2.2.2.2.2.1
def nb_wa (V : nb_V) : Nat → Nat := V.2.2.2.2.2.2.1
def nb_nl (V : nb_V) : Nat := V.2.2.2.2.2.2.2.1
def nb_lk (V : nb_V) : Nat → Nat := V.2.2.2.2.2.2.2.2.1
def nb_lm (V : nb_V) : Nat → Nat := V.2.2.2.2.2.2.2.2.2
def nb_crest (p f t : Nat) : Bool := decide (f ≤ t ∧ (t - f) % p = 0)
def nb_hi (V : nb_V) (t : Nat) : Nat := nb_sum (fun i => if nb_crest (nb_pe V i) (nb_fr V i) t then nb_ht V i else 0) (nb_ns V)
def nb_cn (V : nb_V) (t : Nat) : Nat := nb_sum (fun i => if nb_crest (nb_pe V i) (nb_fr V i) t then 1 else 0) (nb_ns V)
def nb_bk (d h : Nat) : Bool := decide (1 ≤ h ∧ d ≤ h)
def nb_wk (V : nb_V) (t : Nat) : Bool := decide (nb_fst (fun i => decide (nb_wa V i = t)) (nb_nw V) < nb_nw V)
def nb_ca (V : nb_V) (t : Nat) : Bool := nb_bk (nb_dp V) (nb_hi V t) && !nb_wk V t
/-- how many are called before T -/
def nb_ct (V : nb_V) (T : Nat) : Nat := nb_sum (fun t => if nb_ca V t then 1 else 0) T
/-- the number of the k-th that is called -/
def nb_nu (V : nb_V) (k : Nat) : Nat := k + nb_sum (fun i => if nb_lk V i ≤ k then nb_lm V i else 0) (nb_nl V)
def nb_at (V : nb_V) (t : Nat) : Nat := if nb_ca V t then nb_nu V (nb_ct V (t + 1)) else 0
def nb_tu (V : nb_V) (t : Nat) : Nat := if nb_ca V t then nb_ct V (t + 1) else 0
/-- the time at which a number is called, or 240 -/
def nb_wh (V : nb_V) (n : Nat) : Nat := nb_fst (fun t => decide (nb_at V t = n ∧ 1 ≤ n)) 240
def nb_ti (V : nb_V) (n : Nat) : Int32 := if nb_wh V n < 240 then nI (nb_wh V n) else -1
/-! the whole state -/
abbrev nb_S : Type := (Nat → Nat) × (Nat → Nat → Nat) × (Nat → Nat → Int32)
/-- the swells, finds and waves of a state -/
def nb_VS (S : nb_S) : nb_V := (nb_en 0 (S.2.1 0) (S.1 0), fun i => nb_pt 0 (S.2.1 0) i 0, fun i => nb_pt 0 (S.2.1 0) i 1, fun i => nb_pt 0 (S.2.1 0) i 2, S.1 2, S.1 4, S.2.1 4, S.1 3, S.2.1 2, S.2.1 3)
def nb_nf (S : nb_S) : Nat := nb_en 1 (S.2.1 1) (S.1 1)
def nb_mo (S : nb_S) (i : Nat) : Nat := nb_pt 1 (S.2.1 1) i 0
def nb_re (S : nb_S) (i : Nat) : Nat := nb_pt 1 (S.2.1 1) i 1
def nb_va (S : nb_S) (i : Nat) : Nat := nb_pt 1 (S.2.1 1) i 2
def nb_br (S : nb_S) (n : Nat) : Nat := nb_sum (fun i => if n % nb_mo S i = nb_re S i then nb_va S i else 0) (nb_nf S)
def nb_OK (S : nb_S) : Prop :=
  (S.1 0 ≤ 35 ∧ S.1 1 ≤ 47 ∧ (∀ i, i < S.1 0 → S.2.1 0 i < 256) ∧ (∀ i, i < S.1 1 → S.2.1 1 i < 256)) ∧ S.1 2 ≤ 55 ∧
  (S.1 3 ≤ 12 ∧ ∀ i, i < S.1 3 → 1 ≤ S.2.1 2 i ∧ S.2.1 2 i ≤ 240 ∧ 1 ≤ S.2.1 3 i ∧ S.2.1 3 i ≤ 11) ∧
  (S.1 4 ≤ 8 ∧ ∀ i, i < S.1 4 → S.2.1 4 i < 240) ∧
  (S.1 5 ≤ 12 ∧ ∀ i, i < S.1 5 → S.2.1 5 i < 8 ∧ 1 ≤ S.2.1 6 i ∧ S.2.1 6 i ≤ 400) ∧
  (S.1 6 ≤ 8 ∧ ∀ i, i < S.1 6 → S.2.1 7 i < 240 ∧ S.2.1 8 i ≤ 400) ∧ S.1 7 ≤ 5 ∧
  ∀ j, j < 4 → S.1 (8 + j) ≤ 1 ∧ S.1 (12 + j) ≤ 2 ∧ S.1 (16 + j) ≤ 48
/-! the class's cells -/
def nb_Tx (σ : nw_ST) (q t : Nat) (f : Nat → Nat) (n : Nat) : Prop :=
  nw_gS σ q 4 = nI n ∧ (∀ i, i < n → nw_gA σ (q + 1) i = nI (f i)) ∧ nw_gS σ q 5 = nb_fl t f n ∧ nw_gS σ q 6 = nI (nb_en t f n) ∧ ∀ i, i < nb_en t f n → ∀ w, w < 3 → nw_gA σ (q + 2) (3 * i + w) = nI (nb_pt t f i w)
def nb_Pr (σ : nw_ST) (q n : Nat) (f g : Nat → Nat) : Prop := nw_gS σ q 2 = nI n ∧ ∀ i, i < n → nw_gA σ (q + 1) i = nI (f i) ∧ nw_gA σ (q + 2) i = nI (g i)
def nb_Sh (σ : nw_ST) (S : nb_S) (j : Nat) : Prop := nw_gS σ (27 + 2 * j) 3 = nI (S.1 (8 + j)) ∧ nw_gS σ (27 + 2 * j) 1 = nI (S.1 (12 + j)) ∧ nw_gS σ (27 + 2 * j) 2 = nI (S.1 (16 + j)) ∧ ∀ i, i < 48 → nw_gA σ (28 + 2 * j) i = S.2.2 j i
def nb_CP (S : nb_S) (σ : nw_ST) : Prop :=
  nw_gS σ 0 10 = nI (S.1 2) ∧ nw_gS σ 0 11 = nI (S.1 7) ∧ nb_Tx σ 1 0 (S.2.1 0) (S.1 0) ∧ nb_Tx σ 4 1 (S.2.1 1) (S.1 1) ∧
  nb_Pr σ 7 (S.1 3) (S.2.1 2) (S.2.1 3) ∧ nb_Pr σ 10 (S.1 4) (S.2.1 4) (fun _ => 0) ∧ nb_Pr σ 13 (S.1 5) (S.2.1 5) (S.2.1 6) ∧ nb_Pr σ 16 (S.1 6) (S.2.1 7) (S.2.1 8) ∧
  nb_Sh σ S 0 ∧ nb_Sh σ S 1 ∧ nb_Sh σ S 2 ∧ nb_Sh σ S 3
def nb_WV (V : nb_V) (σ : nw_ST) : Prop :=
  (∀ t, t < 240 → nw_gA σ 20 t = nI (nb_hi V t) ∧ nw_gA σ 21 t = nI (nb_cn V t) ∧ nw_gA σ 22 t = (if nb_wk V t then 1 else 0) ∧ nw_gA σ 23 t = nI (nb_tu V t)) ∧
  (∀ k, k ≤ 240 → nw_gA σ 24 k = nI (nb_nu V k)) ∧ (∀ n, n ≤ 400 → nw_gA σ 25 n = nb_ti V n) ∧ nw_gS σ 19 6 = nI (nb_ct V 240)
def nb_C (S : nb_S) (σ : nw_ST) : Prop := nb_CP S σ ∧ (nw_gS σ 0 12 = 0 ∨ (nw_gS σ 0 12 = 1 ∧ nb_WV (nb_VS S) σ))
/-! the reference's cells -/
def nb_MSh (σ : nw_ST) (S : nb_S) (j : Nat) : Prop := nw_gA σ 58 j = nI (1 - S.1 (8 + j)) ∧ nw_gA σ 59 j = nI (S.1 (12 + j)) ∧ nw_gA σ 60 j = nI (S.1 (16 + j)) ∧ ∀ i, i < 48 → nw_gA σ 61 (48 * j + i) = S.2.2 j i
def nb_MP (S : nb_S) (σ : nw_ST) : Prop :=
  (nw_gA σ 38 0 = nI (S.1 0) ∧ nw_gA σ 38 1 = nI (S.1 1) ∧ (∀ i, i < S.1 0 → nw_gA σ 39 i = nI (S.2.1 0 i)) ∧ ∀ i, i < S.1 1 → nw_gA σ 39 (47 + i) = nI (S.2.1 1 i)) ∧
  nw_gS σ 37 10 = nI (S.1 2) ∧ (nw_gS σ 37 11 = nI (S.1 3) ∧ ∀ i, i < S.1 3 → nw_gA σ 46 i = nI (S.2.1 2 i) ∧ nw_gA σ 47 i = nI (S.2.1 3 i)) ∧
  (nw_gS σ 37 14 = nI (S.1 4) ∧ ∀ i, i < S.1 4 → nw_gA σ 48 i = nI (S.2.1 4 i)) ∧
  (nw_gS σ 37 16 = nI (S.1 5) ∧ ∀ i, i < S.1 5 → nw_gA σ 49 i = nI (S.2.1 5 i) ∧ nw_gA σ 50 i = nI (S.2.1 6 i)) ∧
  (nw_gS σ 37 28 = nI (S.1 6) ∧ ∀ i, i < S.1 6 → nw_gA σ 55 i = nI (S.2.1 7 i) ∧ nw_gA σ 56 i = nI (S.2.1 8 i)) ∧
  nw_gS σ 37 37 = nI (S.1 7) ∧ nb_MSh σ S 0 ∧ nb_MSh σ S 1 ∧ nb_MSh σ S 2 ∧ nb_MSh σ S 3
def nb_Inv (σ : nw_ST) : Prop := ∃ S : nb_S, nb_OK S ∧ nb_C S σ ∧ nb_MP S σ
/-! what only other cells' changes leave -/
theorem nb_Tx.keep {σ s : nw_ST} {q t n : Nat} {f : Nat → Nat} (h : nb_Tx σ q t f n) (h1 : ∀ k, 4 ≤ k → k ≤ 6 → nw_gS s q k = nw_gS σ q k) (h2 : ∀ i, nw_gA s (q + 1) i = nw_gA σ (q + 1) i) (h3 : ∀ i, nw_gA s (q + 2) i = nw_gA σ (q + 2) i) : nb_Tx s q t f n := by
  obtain ⟨a, b, c, d, e⟩ := h
  exact ⟨(h1 4 (by decide) (by decide)).trans a, fun i hi => (h2 i).trans (b i hi), (h1 5 (by decide) (by decide)).trans c, (h1 6 (by decide) (by decide)).trans d, fun i hi w hw => (h3 _).trans (e i hi w hw)⟩
theorem nb_Pr.keep {σ s : nw_ST} {q n : Nat} {f g : Nat → Nat} (h : nb_Pr σ q n f g) (h1 : nw_gS s q 2 = nw_gS σ q 2) (h2 : ∀ i, nw_gA s (q + 1) i = nw_gA σ (q + 1) i) (h3 : ∀ i, nw_gA s (q + 2) i = nw_gA σ (q + 2) i) : nb_Pr s q n f g :=
  ⟨h1.trans h.1, fun i hi => ⟨(h2 i).trans (h.2 i hi).1, (h3 i).trans (h.2 i hi).2⟩⟩
theorem nb_Sh.keep {σ s : nw_ST} {S : nb_S} {j : Nat} (h : nb_Sh σ S j) (h1 : ∀ k, 1 ≤ k → k ≤ 3 → nw_gS s (27 + 2 * j) k = nw_gS σ (27 + 2 * j) k) (h2 : ∀ i, nw_gA s (28 + 2 * j) i = nw_gA σ (28 + 2 * j) i) : nb_Sh s S j :=
  ⟨(h1 3 (by decide) (by decide)).trans h.1, (h1 1 (by decide) (by decide)).trans h.2.1, (h1 2 (by decide) (by decide)).trans h.2.2.1, fun i hi => (h2 i).trans (h.2.2.2 i hi)⟩
/-- fields and arrays that nb_CP reads -/
def nb_uS : List (Nat × Nat) := [(0, 10), (0, 11), (1, 4), (1, 5), (1, 6), (4, 4), (4, 5), (4, 6), (7, 2), (10, 2), (13, 2), (16, 2), (27, 1), (27, 2), (27, 3), (29, 1), (29, 2), (29, 3), (31, 1), (31, 2), (31, 3), (33, 1), (33, 2), (33, 3)]
def nb_uA : List Nat := [2, 3, 5, 6, 8, 9, 11, 12, 14, 15, 17, 18, 28, 30, 32, 34]
theorem nb_CP.keep {S : nb_S} {σ s : nw_ST} (h : nb_CP S σ) (h1 : ∀ q k, (q, k) ∈ nb_uS → nw_gS s q k = nw_gS σ q k) (h2 : ∀ q, q ∈ nb_uA → ∀ i, nw_gA s q i = nw_gA σ q i) : nb_CP S s := by
  obtain ⟨a, b, c, d, e, f, g, i, s0, s1, s2, s3⟩ := h
  refine ⟨(h1 0 10 (by decide)).trans a, (h1 0 11 (by decide)).trans b, c.keep ?_ (h2 2 (by decide)) (h2 3 (by decide)), d.keep ?_ (h2 5 (by decide)) (h2 6 (by decide)), e.keep (h1 7 2 (by decide)) (h2 8 (by decide)) (h2 9 (by decide)), f.keep (h1 10 2 (by decide)) (h2 11 (by decide)) (h2 12 (by decide)), g.keep (h1 13 2 (by decide)) (h2 14 (by decide)) (h2 15 (by decide)), i.keep (h1 16 2 (by decide)) (h2 17 (by decide)) (h2 18 (by decide)), s0.keep ?_ (h2 28 (by decide)), s1.keep ?_ (h2 30 (by decide)), s2.keep ?_ (h2 32 (by decide)), s3.keep ?_ (h2 34 (by decide))⟩
  · intro k a b; rcases (show k = 4 ∨ k = 5 ∨ k = 6 by omega) with rfl | rfl | rfl <;> exact h1 _ _ (by decide)
  · intro k a b; rcases (show k = 4 ∨ k = 5 ∨ k = 6 by omega) with rfl | rfl | rfl <;> exact h1 _ _ (by decide)
  · intro k a b; rcases (show k = 1 ∨ k = 2 ∨ k = 3 by omega) with rfl | rfl | rfl <;> exact h1 _ _ (by decide)
  · intro k a b; rcases (show k = 1 ∨ k = 2 ∨ k = 3 by omega) with rfl | rfl | rfl <;> exact h1 _ _ (by decide)
  · intro k a b; rcases (show k = 1 ∨ k = 2 ∨ k = 3 by omega) with rfl | rfl | rfl <;> exact h1 _ _ (by decide)
  · intro k a b; rcases (show k = 1 ∨ k = 2 ∨ k = 3 by omega) with rfl | rfl | rfl <;> exact h1 _ _ (by decide)
theorem nb_CP.ch {S : nb_S} {σ s : nw_ST} {LS : List (Nat × Nat)} {L : List Nat} (h : nb_CP S σ) (hc : nb_Ch LS L σ s) (h1 : ∀ x ∈ nb_uS, x ∉ LS) (h2 : ∀ x ∈ nb_uA, x ∉ L) : nb_CP S s :=
  h.keep (fun q k hq => hc.1 q k (h1 _ hq)) (fun q hq => (hc.2 q (h2 _ hq)).1)
theorem nb_WV.ch {V : nb_V} {σ s : nw_ST} {LS : List (Nat × Nat)} {L : List Nat} (h : nb_WV V σ) (hc : nb_Ch LS L σ s) (h1 : (19, 6) ∉ LS) (h2 : ∀ x ∈ [20, 21, 22, 23, 24, 25], x ∉ L) : nb_WV V s := by
  have e : ∀ q, q ∈ [20, 21, 22, 23, 24, 25] → ∀ i, nw_gA s q i = nw_gA σ q i := fun q hq => (hc.2 q (h2 _ hq)).1
  obtain ⟨a, b, c, d⟩ := h
  exact ⟨fun t ht => ⟨(e 20 (by decide) t).trans (a t ht).1, (e 21 (by decide) t).trans (a t ht).2.1, (e 22 (by decide) t).trans (a t ht).2.2.1, (e 23 (by decide) t).trans (a t ht).2.2.2⟩, fun k hk => (e 24 (by decide) k).trans (b k hk), fun n hn => (e 25 (by decide) n).trans (c n hn), (hc.1 19 6 h1).trans d⟩
theorem nb_C.ch {S : nb_S} {σ s : nw_ST} {LS : List (Nat × Nat)} {L : List Nat} (h : nb_C S σ) (hc : nb_Ch LS L σ s) (h1 : ∀ x ∈ (0, 12) :: (19, 6) :: nb_uS, x ∉ LS) (h2 : ∀ x ∈ [20, 21, 22, 23, 24, 25] ++ nb_uA, x ∉ L) : nb_C S s := by
  refine ⟨h.1.ch hc (fun x hx => h1 x (by simp [hx])) (fun x hx => h2 x (by simp only [List.mem_append, hx, or_true])), ?_⟩
  have e := hc.1 0 12 (h1 _ (by simp))
  rcases h.2 with z | ⟨z, w⟩
  · exact Or.inl (e.trans z)
  · exact Or.inr ⟨e.trans z, w.ch hc (h1 _ (by simp)) (fun x hx => h2 x (by simp only [List.mem_append, hx, true_or]))⟩
theorem nb_MSh.keep {σ s : nw_ST} {S : nb_S} {j : Nat} (h : nb_MSh σ S j) (h2 : ∀ q, 58 ≤ q → q ≤ 61 → ∀ i, nw_gA s q i = nw_gA σ q i) : nb_MSh s S j :=
  ⟨(h2 58 (by decide) (by decide) _).trans h.1, (h2 59 (by decide) (by decide) _).trans h.2.1, (h2 60 (by decide) (by decide) _).trans h.2.2.1, fun i hi => (h2 61 (by decide) (by decide) _).trans (h.2.2.2 i hi)⟩
def nb_vS : List (Nat × Nat) := [(37, 10), (37, 11), (37, 14), (37, 16), (37, 28), (37, 37)]
def nb_vA : List Nat := [38, 39, 46, 47, 48, 49, 50, 55, 56, 58, 59, 60, 61]
theorem nb_MP.keep {S : nb_S} {σ s : nw_ST} (h : nb_MP S σ) (h1 : ∀ q k, (q, k) ∈ nb_vS → nw_gS s q k = nw_gS σ q k) (h2 : ∀ q, q ∈ [38, 39, 55, 56, 58, 59, 60, 61] → ∀ i, nw_gA s q i = nw_gA σ q i)
    (h3 : ∀ i, i < S.1 3 → nw_gA s 46 i = nw_gA σ 46 i ∧ nw_gA s 47 i = nw_gA σ 47 i) (h4 : ∀ i, i < S.1 4 → nw_gA s 48 i = nw_gA σ 48 i) (h5 : ∀ i, i < S.1 5 → nw_gA s 49 i = nw_gA σ 49 i ∧ nw_gA s 50 i = nw_gA σ 50 i) : nb_MP S s := by
  obtain ⟨⟨a1, a2, a3, a4⟩, b, ⟨c1, c2⟩, ⟨d1, d2⟩, ⟨e1, e2⟩, ⟨f1, f2⟩, g, s0, s1, s2, s3⟩ := h
  have hz : ∀ q, 58 ≤ q → q ≤ 61 → ∀ i, nw_gA s q i = nw_gA σ q i := by
    intro q x y; rcases (show q = 58 ∨ q = 59 ∨ q = 60 ∨ q = 61 by omega) with rfl | rfl | rfl | rfl <;> exact h2 _ (by decide)
  exact ⟨⟨(h2 38 (by decide) 0).trans a1, (h2 38 (by decide) 1).trans a2, fun i hi => (h2 39 (by decide) i).trans (a3 i hi), fun i hi => (h2 39 (by decide) _).trans (a4 i hi)⟩, (h1 37 10 (by decide)).trans b, ⟨(h1 37 11 (by decide)).trans c1, fun i hi => ⟨(h3 i hi).1.trans (c2 i hi).1, (h3 i hi).2.trans (c2 i hi).2⟩⟩, ⟨(h1 37 14 (by decide)).trans d1, fun i hi => (h4 i hi).trans (d2 i hi)⟩, ⟨(h1 37 16 (by decide)).trans e1, fun i hi => ⟨(h5 i hi).1.trans (e2 i hi).1, (h5 i hi).2.trans (e2 i hi).2⟩⟩, ⟨(h1 37 28 (by decide)).trans f1, fun i hi => ⟨(h2 55 (by decide) i).trans (f2 i hi).1, (h2 56 (by decide) i).trans (f2 i hi).2⟩⟩, (h1 37 37 (by decide)).trans g, s0.keep hz, s1.keep hz, s2.keep hz, s3.keep hz⟩
theorem nb_MP.ch {S : nb_S} {σ s : nw_ST} {LS : List (Nat × Nat)} {L : List Nat} (h : nb_MP S σ) (hc : nb_Ch LS L σ s) (h1 : ∀ x ∈ nb_vS, x ∉ LS) (h2 : ∀ x ∈ nb_vA, x ∉ L) : nb_MP S s := by
  have e : ∀ q, q ∈ nb_vA → ∀ i, nw_gA s q i = nw_gA σ q i := fun q hq => (hc.2 q (h2 _ hq)).1
  refine h.keep (fun q k hq => hc.1 q k (h1 _ hq)) (fun q hq => e q ?_) (fun i _ => ⟨e 46 (by decide) i, e 47 (by decide) i⟩) (fun i _ => e 48 (by decide) i) (fun i _ => ⟨e 49 (by decide) i, e 50 (by decide) i⟩)
  revert q; decide
/-- the two sides don't touch each other's cells -/
theorem nb_C.other {S : nb_S} {σ s : nw_ST} (h : nb_C S σ) (hc : nb_Ch nb_mS nb_mA σ s) : nb_C S s := h.ch hc (by decide +kernel) (by decide +kernel)
theorem nb_MP.other {S : nb_S} {σ s : nw_ST} (h : nb_MP S σ) (hc : nb_Ch nb_cS nb_cA σ s) : nb_MP S s := h.ch hc (by decide +kernel) (by decide +kernel)
