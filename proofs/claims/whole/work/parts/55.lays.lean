/-! ===== the reference lays the waves ===== -/
theorem nb_sum_le {f : Nat → Nat} {n B : Nat} (h : ∀ i, i < n → f i ≤ B) : nb_sum f n ≤ n * B := by
  induction n with
  | zero => exact Nat.zero_le _
  | succ n ih =>
    have a := ih (fun i hi => h i (by omega))
    have b := h n (by omega)
    rw [Nat.succ_mul]
    show nb_sum f n + f n ≤ _
    omega
theorem nb_sum_congr {f g : Nat → Nat} {n : Nat} (h : ∀ i, i < n → f i = g i) : nb_sum f n = nb_sum g n := by
  induction n with
  | zero => rfl
  | succ n ih =>
    show nb_sum f n + f n = nb_sum g n + g n
    rw [ih (fun i hi => h i (by omega)), h n (by omega)]
theorem nb_sum_zero {f : Nat → Nat} {n : Nat} (h : ∀ i, i < n → f i = 0) : nb_sum f n = 0 := by
  have := nb_sum_le (f := f) (n := n) (B := 0) (fun i hi => by rw [h i hi]; exact Nat.le_refl 0)
  omega
theorem nb_sum_add (f g : Nat → Nat) (n : Nat) : nb_sum (fun i => f i + g i) n = nb_sum f n + nb_sum g n := by
  induction n with
  | zero => rfl
  | succ n ih =>
    show nb_sum _ n + (f n + g n) = (nb_sum f n + f n) + (nb_sum g n + g n)
    rw [ih]; omega
theorem nb_fst_lt (p : Nat → Bool) (n : Nat) : nb_fst p (n + 1) < n + 1 ↔ nb_fst p n < n ∨ p n = true := by
  have hle := nb_fst_le p n
  by_cases h1 : nb_fst p n < n
  · have e : nb_fst p (n + 1) = nb_fst p n := by show (if _ then _ else _) = _; rw [if_pos h1]
    rw [e]; exact ⟨fun _ => Or.inl h1, fun _ => by omega⟩
  · by_cases h2 : p n = true
    · have e : nb_fst p (n + 1) = n := by show (if _ then _ else _) = _; rw [if_neg h1, if_pos h2]
      rw [e]; exact ⟨fun _ => Or.inr h2, fun _ => by omega⟩
    · have e : nb_fst p (n + 1) = n + 1 := by show (if _ then _ else _) = _; rw [if_neg h1, if_neg h2]
      rw [e]; exact ⟨fun z => absurd z (by omega), fun z => z.elim (fun y => absurd y h1) (fun y => absurd y h2)⟩
def nb_VB (V : nb_V) : Prop := nb_ns V ≤ 7 ∧ (∀ i, i < nb_ns V → nb_ht V i ≤ 9 ∧ 1 ≤ nb_pe V i ∧ nb_pe V i ≤ 1000 ∧ nb_fr V i ≤ 1000) ∧ nb_dp V ≤ 1000 ∧ (nb_nw V ≤ 9 ∧ ∀ i, i < nb_nw V → nb_wa V i ≤ 1000) ∧ nb_nl V ≤ 13 ∧ ∀ i, i < nb_nl V → 1 ≤ nb_lk V i ∧ nb_lk V i ≤ 1000 ∧ nb_lm V i ≤ 1000
/-- the reference's cells that lays reads -/
def nb_LV (V : nb_V) (s : nw_ST) : Prop := (nw_gS s 37 2 = nI (nb_ns V) ∧ ∀ i, i < nb_ns V → nw_gA s 40 i = nI (nb_ht V i) ∧ nw_gA s 41 i = nI (nb_pe V i) ∧ nw_gA s 42 i = nI (nb_fr V i)) ∧ nw_gS s 37 10 = nI (nb_dp V) ∧ (nw_gS s 37 23 = nI (nb_nw V) ∧ ∀ i, i < nb_nw V → nw_gA s 48 i = nI (nb_wa V i)) ∧ nw_gS s 37 22 = nI (nb_nl V) ∧ ∀ i, i < nb_nl V → nw_gA s 46 i = nI (nb_lk V i) ∧ nw_gA s 47 i = nI (nb_lm V i)
theorem nb_LV.ch {V : nb_V} {σ s : nw_ST} {LS : List (Nat × Nat)} {L : List Nat} (h : nb_LV V σ) (hc : nb_Ch LS L σ s) (h1 : ∀ x ∈ [(37, 2), (37, 10), (37, 22), (37, 23)], x ∉ LS) (h2 : ∀ x ∈ [40, 41, 42, 46, 47, 48], x ∉ L) : nb_LV V s := by
  obtain ⟨⟨a, b⟩, c, ⟨d, e⟩, f, g⟩ := h
  have hA : ∀ q, q ∈ [40, 41, 42, 46, 47, 48] → ∀ i, nw_gA s q i = nw_gA σ q i := fun q hq => (hc.2 q (h2 q hq)).1
  refine ⟨⟨(hc.1 37 2 (h1 _ (by decide))).trans a, fun i hi => ⟨(hA 40 (by decide) i).trans (b i hi).1, (hA 41 (by decide) i).trans (b i hi).2.1, (hA 42 (by decide) i).trans (b i hi).2.2⟩⟩, (hc.1 37 10 (h1 _ (by decide))).trans c, ⟨(hc.1 37 23 (h1 _ (by decide))).trans d, fun i hi => (hA 48 (by decide) i).trans (e i hi)⟩, (hc.1 37 22 (h1 _ (by decide))).trans f, fun i hi => ⟨(hA 46 (by decide) i).trans (g i hi).1, (hA 47 (by decide) i).trans (g i hi).2⟩⟩
/-- what lays leaves -/
def nb_LW (V : nb_V) (s : nw_ST) : Prop := (∀ t, t < 240 → nw_gA s 51 t = nI (nb_hi V t) ∧ nw_gA s 52 t = nI (nb_cn V t) ∧ nw_gA s 53 t = nI (nb_at V t)) ∧ nw_gS s 37 25 = nI (nb_ct V 240) ∧ nw_gS s 37 26 = nI (nb_nu V (nb_ct V 240))
theorem nb_remN {a d : Nat} (ha : a < 2 ^ 31) (h0 : 0 < d) (hd : d < 2 ^ 31) : nw_rem (nI a) (nI d) = nI (a % d) := by
  unfold nw_rem; exact pk_rem ha h0 hd
theorem nb_cr5 {V : nb_V} {s : nw_ST} {i t : Nat} (hB : nb_VB V) (h : nb_LV V s) (hi : i < nb_ns V) (ht : t < 1000) : o5_isCrest s (nI i) (nI t) ∧ v5_isCrest s (nI i) (nI t) = if nb_crest (nb_pe V i) (nb_fr V i) t then 1 else 0 := by
  have hb := hB.2.1 i hi
  have hn := hB.1
  have hv := h.1.2 i hi
  unfold o5_isCrest v5_isCrest nb_crest
  rw [nI_clamp (show i < 2 ^ 31 by omega), hv.2.1, hv.2.2]
  refine ⟨⟨vp_in_nI (by omega) (by decide), fun _ => trivial, fun _ => ⟨vp_in_nI (by omega) (by decide), vp_in_nI (by omega) (by decide), nI_ne0 (by omega) (by omega)⟩⟩, ?_⟩
  by_cases hf : nb_fr V i ≤ t
  · rw [if_neg (nI_nlt hf (by omega)), pk_sub hf, nb_remN (by omega) (by omega) (by omega)]
    by_cases hm : (t - nb_fr V i) % nb_pe V i = 0
    · rw [hm, if_pos (by decide), if_pos (by simp [hf, hm])]
    · have hlt : (t - nb_fr V i) % nb_pe V i < nb_pe V i := Nat.mod_lt _ (by omega)
      rw [if_neg (nI_ne0 (by omega) (by omega)), if_neg (by simp [hm])]
  · rw [if_pos (nI_lt (by omega) (by omega)), if_neg (by simp [hf])]
theorem nb_wake5 {K : Int32 → nw_ST → Prop} {V : nb_V} {s : nw_ST} {t : Nat} (hB : nb_VB V) (h : nb_LV V s) (ht : t < 2 ^ 31) (hk : K (if nb_wk V t then 1 else 0) s) : f5_isWake K s (nI t) := by
  unfold f5_isWake
  have hb := hB.2.2.2.1
  refine pk_loop (fun m i u => f5_isWake_4 K m u (nI t) (if nb_fst (fun i => decide (nb_wa V i = t)) i < i then 1 else 0) (nI i)) (fun i u => u = s) (nb_nw V) 0 s (Nat.zero_le _) rfl ?_ ?_
  · rintro m u rfl
    show b5_isWake_4 K _ u (nI t) _ (nI (nb_nw V))
    unfold b5_isWake_4
    rw [h.2.2.1.1]
    refine ⟨fun _ => ?_, fun w => absurd (nI_le (Nat.le_refl _) (by omega)) w⟩
    unfold nb_wk at hk
    simp only [decide_eq_true_eq] at hk
    refine ⟨?_, hk⟩
    split
    · exact Or.inr rfl
    · exact Or.inl rfl
  · rintro m i u hi rfl ih
    show b5_isWake_4 K _ u (nI t) _ (nI i)
    unfold b5_isWake_4 f5_isWake_31
    rw [h.2.2.1.1, nI_clamp (show i < 2 ^ 31 by omega), h.2.2.1.2 i hi, nI_1]
    refine ⟨fun w => absurd w (nI_ge hi (by omega)), fun _ => ⟨⟨fun _ => vp_in_nI (by omega) (by decide), fun _ => trivial⟩, ?_⟩⟩
    have := ih u rfl
    have hw := hb.2 i hi
    have e : (if nb_fst (fun i => decide (nb_wa V i = t)) (i + 1) < i + 1 then (1 : Int32) else 0) = (if (if nb_fst (fun i => decide (nb_wa V i = t)) i < i then (1 : Int32) else 0) = 0 then (if nI (nb_wa V i) = nI t then 1 else 0) else 1) := by
      have hlt := nb_fst_lt (fun i => decide (nb_wa V i = t)) i
      by_cases h1 : nb_fst (fun i => decide (nb_wa V i = t)) i < i
      · have h3 := hlt.mpr (Or.inl h1)
        simp only [h1, h3, if_true, show ¬ (1 : Int32) = 0 by decide, if_false]
      · by_cases h2 : nb_wa V i = t
        · have h3 := hlt.mpr (Or.inr (decide_eq_true h2))
          simp only [h1, h3, if_true, if_false, h2]
        · have h3 : ¬ _ := fun z => (hlt.mp z).elim h1 (fun y => h2 (of_decide_eq_true y))
          have h4 : ¬ nI (nb_wa V i) = nI t := fun z => h2 ((nI_eq (by omega) ht).mp z)
          simp only [h1, h3, if_true, if_false, h4]
    rw [e] at this
    exact this
def nb_sk (V : nb_V) (k : Nat) : Nat := nb_sum (fun i => if nb_lk V i = k then nb_lm V i else 0) (nb_nl V)
theorem nb_skips5 {K : Int32 → nw_ST → Prop} {V : nb_V} {s : nw_ST} {k : Nat} (hB : nb_VB V) (h : nb_LV V s) (ht : k < 2 ^ 31) (hk : K (nI (nb_sk V k)) s) : f5_skips K s (nI k) := by
  unfold f5_skips
  have hb := hB.2.2.2.2
  refine pk_loop (fun m i u => f5_skips_4 K m u (nI k) (nI (nb_sum (fun i => if nb_lk V i = k then nb_lm V i else 0) i)) (nI i)) (fun i u => u = s) (nb_nl V) 0 s (Nat.zero_le _) rfl ?_ ?_
  · rintro m u rfl
    show b5_skips_4 K _ u (nI k) _ (nI (nb_nl V))
    unfold b5_skips_4
    rw [h.2.2.2.1]
    exact ⟨fun _ => hk, fun w => absurd (nI_le (Nat.le_refl _) (by omega)) w⟩
  · rintro m i u hi rfl ih
    show b5_skips_4 K _ u (nI k) _ (nI i)
    unfold b5_skips_4 f5_skips_33
    have hw := hb.2 i hi
    rw [h.2.2.2.1, nI_clamp (show i < 2 ^ 31 by omega), (h.2.2.2.2 i hi).1, (h.2.2.2.2 i hi).2, nI_1]
    refine ⟨fun w => absurd w (nI_ge hi (by omega)), fun _ => ⟨vp_in_nI (by omega) (by decide), ⟨fun _ => vp_in_nI (by omega) (by decide), fun _ => trivial⟩, ?_⟩⟩
    have := ih u rfl
    have e : nI (nb_sum (fun i => if nb_lk V i = k then nb_lm V i else 0) (i + 1)) = nI (nb_sum (fun i => if nb_lk V i = k then nb_lm V i else 0) i) + (if nI (nb_lk V i) = nI k then nI (nb_lm V i) else 0) := by
      show nI (_ + _) = _
      by_cases h1 : nb_lk V i = k
      · simp only [h1, if_true, nI_add]
      · have h4 : ¬ nI (nb_lk V i) = nI k := fun z => h1 ((nI_eq (by omega) ht).mp z)
        simp only [h1, h4, if_false]
        rw [show (0 : Int32) = nI 0 from rfl, nI_add]
    rw [e] at this
    exact this
theorem nb_nuS (V : nb_V) (c : Nat) : nb_nu V (c + 1) = nb_nu V c + (1 + nb_sk V (c + 1)) := by
  unfold nb_nu nb_sk
  have : nb_sum (fun i => if nb_lk V i ≤ c + 1 then nb_lm V i else 0) (nb_nl V) = nb_sum (fun i => (if nb_lk V i ≤ c then nb_lm V i else 0) + (if nb_lk V i = c + 1 then nb_lm V i else 0)) (nb_nl V) := by
    apply nb_sum_congr
    intro i _
    by_cases h1 : nb_lk V i ≤ c
    · rw [if_pos (by omega), if_pos h1, if_neg (by omega)]; rfl
    · by_cases h2 : nb_lk V i = c + 1
      · rw [if_pos (by omega), if_neg h1, if_pos h2]; omega
      · rw [if_neg (by omega), if_neg h1, if_neg h2]
  rw [this, nb_sum_add]
  omega
theorem nb_nu0 {V : nb_V} (hB : nb_VB V) : nb_nu V 0 = 0 := by
  unfold nb_nu
  rw [nb_sum_zero (fun i hi => if_neg (by have := (hB.2.2.2.2.2 i hi).1; omega))]
theorem nb_ctS (V : nb_V) (t : Nat) : nb_ct V (t + 1) = nb_ct V t + (if nb_ca V t then 1 else 0) := rfl
theorem nb_ct_le (V : nb_V) (t : Nat) : nb_ct V t ≤ t := by
  have := nb_sum_le (f := fun t => if nb_ca V t then 1 else 0) (n := t) (B := 1) (fun i _ => by split <;> omega)
  unfold nb_ct; omega
theorem nb_hi_le {V : nb_V} (hB : nb_VB V) (t : Nat) : nb_hi V t ≤ 63 := by
  have := nb_sum_le (f := fun i => if nb_crest (nb_pe V i) (nb_fr V i) t then nb_ht V i else 0) (n := nb_ns V) (B := 9) (fun i hi => by have := (hB.2.1 i hi).1; split <;> omega)
  have := hB.1
  unfold nb_hi; omega
theorem nb_cn_le (V : nb_V) (t : Nat) : nb_cn V t ≤ nb_ns V := by
  have := nb_sum_le (f := fun i => if nb_crest (nb_pe V i) (nb_fr V i) t then 1 else 0) (n := nb_ns V) (B := 1) (fun i hi => by split <;> omega)
  unfold nb_cn; omega
theorem nb_br5 {V : nb_V} {s : nw_ST} {t : Nat} (hB : nb_VB V) (hd : nw_gS s 37 10 = nI (nb_dp V)) (ht : t < 240) (hh : nw_gA s 51 t = nI (nb_hi V t)) : o5_breaks s (nI t) ∧ v5_breaks s (nI t) = if nb_bk (nb_dp V) (nb_hi V t) then 1 else 0 := by
  unfold o5_breaks v5_breaks nb_bk
  have h1 := nb_hi_le hB t
  have h2 := hB.2.2.1
  rw [nI_clamp (show t < 2 ^ 31 by omega), hh, hd]
  refine ⟨⟨vp_in_nI ht (by decide), fun _ => trivial, fun _ => vp_in_nI ht (by decide)⟩, ?_⟩
  by_cases h0 : nb_hi V t = 0
  · rw [h0, if_pos (by decide), if_neg (by simp)]
  · rw [if_neg (nI_nle (by omega) (by omega))]
    by_cases h3 : nb_hi V t < nb_dp V
    · rw [if_pos (nI_lt h3 (by omega)), if_neg (by simp; omega)]
    · rw [if_neg (nI_nlt (by omega) (by omega)), if_pos (by simp; omega)]
def nb_lS : List (Nat × Nat) := [(37, 25), (37, 26)]
def nb_lA : List Nat := [51, 52, 53]
def nb_LI (V : nb_V) (σ : nw_ST) (t : Nat) (s : nw_ST) : Prop := nb_Ch nb_lS nb_lA σ s ∧ nw_gS s 37 25 = nI (nb_ct V t) ∧ nw_gS s 37 26 = nI (nb_nu V (nb_ct V t)) ∧ ∀ u, u < t → nw_gA s 51 u = nI (nb_hi V u) ∧ nw_gA s 52 u = nI (nb_cn V u) ∧ nw_gA s 53 u = nI (nb_at V u)
theorem nb_lays {K : nw_ST → Prop} {V : nb_V} {σ : nw_ST} (hB : nb_VB V) (h : nb_LV V σ) (hk : ∀ s, nb_Ch nb_lS nb_lA σ s → nb_LW V s → K s) : f5_lays K σ := by
  unfold f5_lays
  have hLV : ∀ s, nb_Ch nb_lS nb_lA σ s → nb_LV V s := fun s hc => h.ch hc (by decide) (by decide)
  refine pk_loop (fun m t s => f5_lays_12 K m s (nI t)) (nb_LI V σ) 240 0 _ (by decide) ⟨(nb_Ch.rf.sS _ (by decide)).sS _ (by decide), by simp [nb_gSsS]; rfl, by simp [nb_gSsS, show nb_ct V 0 = 0 from rfl, nb_nu0 hB]; rfl, fun u hu => absurd hu (Nat.not_lt_zero u)⟩ ?_ ?_
  · rintro m s ⟨hc, h5, h6, hv⟩
    show b5_lays_12 K _ s (nI 240)
    unfold b5_lays_12
    exact ⟨fun _ => hk s hc ⟨hv, h5, h6⟩, fun w => absurd (by decide) w⟩
  · rintro m t s ht ⟨hc, h5, h6, hv⟩ ih
    show b5_lays_12 K _ s (nI t)
    unfold b5_lays_12
    rw [nI_clamp (show t < 2 ^ 31 by omega)]
    refine ⟨fun w => absurd w (nI_ge (b := 240) ht (by decide)), fun _ => ⟨vp_in_nI ht (by decide), vp_in_nI ht (by decide), vp_in_nI ht (by decide), ?_⟩⟩
    have i1 : nw_gA (nw_sA (nw_sA (nw_sA s 51 t 0) 52 t 0) 53 t 0) 51 t = nI 0 := by simp [nb_gAsA]; rfl
    have i2 : nw_gA (nw_sA (nw_sA (nw_sA s 51 t 0) 52 t 0) 53 t 0) 52 t = nI 0 := by simp [nb_gAsA]; rfl
    have i3 : nw_gA (nw_sA (nw_sA (nw_sA s 51 t 0) 52 t 0) 53 t 0) 53 t = 0 := by simp [nb_gAsA]
    have i4 : ∀ u, u < t → nw_gA (nw_sA (nw_sA (nw_sA s 51 t 0) 52 t 0) 53 t 0) 51 u = nI (nb_hi V u) ∧ nw_gA (nw_sA (nw_sA (nw_sA s 51 t 0) 52 t 0) 53 t 0) 52 u = nI (nb_cn V u) ∧ nw_gA (nw_sA (nw_sA (nw_sA s 51 t 0) 52 t 0) 53 t 0) 53 u = nI (nb_at V u) := by
      intro u hu
      have := hv u hu
      simp [nb_gAsA, show u ≠ t by omega, this]
    have i5 : nb_Ch nb_lS nb_lA σ (nw_sA (nw_sA (nw_sA s 51 t 0) 52 t 0) 53 t 0) := ((hc.sA _ _ (by decide)).sA _ _ (by decide)).sA _ _ (by decide)
    have i6 : nw_gS (nw_sA (nw_sA (nw_sA s 51 t 0) 52 t 0) 53 t 0) 37 25 = nI (nb_ct V t) := h5
    have i7 : nw_gS (nw_sA (nw_sA (nw_sA s 51 t 0) 52 t 0) 53 t 0) 37 26 = nI (nb_nu V (nb_ct V t)) := h6
    generalize nw_sA (nw_sA (nw_sA s 51 t 0) 52 t 0) 53 t 0 = s1 at i1 i2 i3 i4 i5 i6 i7 ⊢
    clear hv h5 h6 hc
    have hns := hB.1
    refine pk_loop (fun k i u => f5_lays_42 K (f5_lays_12 K m) k u (nI t) (nI i)) (fun i u => nb_Ch nb_lS nb_lA σ u ∧ nw_gS u 37 25 = nI (nb_ct V t) ∧ nw_gS u 37 26 = nI (nb_nu V (nb_ct V t)) ∧ (∀ r, r < t → nw_gA u 51 r = nI (nb_hi V r) ∧ nw_gA u 52 r = nI (nb_cn V r) ∧ nw_gA u 53 r = nI (nb_at V r)) ∧ nw_gA u 51 t = nI (nb_sum (fun i => if nb_crest (nb_pe V i) (nb_fr V i) t then nb_ht V i else 0) i) ∧ nw_gA u 52 t = nI (nb_sum (fun i => if nb_crest (nb_pe V i) (nb_fr V i) t then 1 else 0) i) ∧ nw_gA u 53 t = 0) (nb_ns V) 0 s1 (Nat.zero_le _) ⟨i5, i6, i7, i4, i1, i2, i3⟩ ?_ ?_
    · rintro k u ⟨c1, c2, c3, c4, c5, c6, c7⟩
      show b5_lays_42 K (f5_lays_12 K m) _ u (nI t) (nI (nb_ns V))
      unfold b5_lays_42 f5_lays_162
      have hu := hLV u c1
      obtain ⟨ob, vb⟩ := nb_br5 hB hu.2.1 ht c5
      rw [hu.1.1, vb, nI_1]
      have done : ∀ v, nb_Ch nb_lS nb_lA u v → nw_gS v 37 25 = nI (nb_ct V (t + 1)) → nw_gS v 37 26 = nI (nb_nu V (nb_ct V (t + 1))) → (∀ r, nw_gA v 51 r = nw_gA u 51 r) → (∀ r, nw_gA v 52 r = nw_gA u 52 r) → (∀ r, r ≠ t → nw_gA v 53 r = nw_gA u 53 r) → nw_gA v 53 t = nI (nb_at V t) → f5_lays_12 K m v (nI (t + 1)) := by
        intro v d1 d2 d3 d4 d5 d6 d7
        refine ih v ⟨c1.tr d1, d2, d3, fun r hr => ?_⟩
        by_cases e : r = t
        · subst e; exact ⟨(d4 r).trans c5, (d5 r).trans c6, d7⟩
        · have := c4 r (by omega)
          exact ⟨(d4 r).trans this.1, (d5 r).trans this.2.1, (d6 r e).trans this.2.2⟩
      have none : nb_ca V t = false → f5_lays_12 K m u (nI (t + 1)) := by
        intro hca
        have e1 : nb_ct V (t + 1) = nb_ct V t := by rw [nb_ctS, hca]; rfl
        refine done u nb_Ch.rf (by rw [e1]; exact c2) (by rw [e1]; exact c3) (fun _ => rfl) (fun _ => rfl) (fun _ _ => rfl) ?_
        unfold nb_at; rw [hca]; exact c7
      refine ⟨fun _ => ⟨ob, fun z => ?_, fun z => ?_⟩, fun w => absurd (nI_le (Nat.le_refl _) (by omega)) w⟩
      · refine none ?_
        unfold nb_ca
        cases hb : nb_bk (nb_dp V) (nb_hi V t)
        · rfl
        · rw [hb] at z; exact absurd z (by decide)
      · have hbk : nb_bk (nb_dp V) (nb_hi V t) = true := by
          cases hb : nb_bk (nb_dp V) (nb_hi V t)
          · rw [hb] at z; exact absurd rfl z
          · rfl
        refine nb_wake5 hB hu (by omega) ?_
        cases hwk : nb_wk V t
        · refine ⟨fun _ => ?_, fun y => absurd rfl y⟩
          have hca : nb_ca V t = true := by unfold nb_ca; rw [hbk, hwk]; rfl
          have e1 : nb_ct V (t + 1) = nb_ct V t + 1 := by rw [nb_ctS, hca]; rfl
          have hle := nb_ct_le V t
          rw [c2, nI_1]
          simp only [nb_gSsS, if_true, c3, show (26 : Nat) ≠ 25 by decide, if_false]
          have ca : nb_Ch nb_lS nb_lA u (nw_sS u 37 25 (nI (nb_ct V t + 1))) := nb_Ch.rf.sS _ (by decide)
          refine nb_skips5 hB (hu.ch ca (by decide) (by decide)) (by omega) ?_
          rw [nI_clamp (show t < 2 ^ 31 by omega), show (1 : Int32) = nI 1 from rfl, nI_add, nI_add]
          have e2 : nb_nu V (nb_ct V t) + (1 + nb_sk V (nb_ct V t + 1)) = nb_nu V (nb_ct V (t + 1)) := by rw [e1, nb_nuS]
          rw [e2]
          refine ⟨vp_in_nI ht (by decide), ?_⟩
          refine done _ ((ca.sS _ (by decide)).sA _ _ (by decide)) (by simp [nb_gSsS, nb_gSsA, e1]) (by simp [nb_gSsS, nb_gSsA]) (fun r => by simp [nb_gAsA, nb_gAsS]) (fun r => by simp [nb_gAsA, nb_gAsS]) (fun r hr => by simp [nb_gAsA, nb_gAsS, hr]) ?_
          simp only [nb_gAsA, if_true]
          unfold nb_at; rw [hca]; rfl
        · refine ⟨fun y => absurd y (by decide), fun _ => ?_⟩
          exact none (by unfold nb_ca; rw [hbk, hwk]; rfl)
    · rintro k i u hi ⟨c1, c2, c3, c4, c5, c6, c7⟩ ih2
      show b5_lays_42 K (f5_lays_12 K m) _ u (nI t) (nI i)
      unfold b5_lays_42 f5_lays_76 f5_lays_99
      have hu := hLV u c1
      rw [hu.1.1, nI_clamp (show t < 2 ^ 31 by omega), nI_clamp (show i < 2 ^ 31 by omega), (hu.1.2 i hi).1, c5, nI_1]
      obtain ⟨oc, vc⟩ := nb_cr5 hB hu hi (show t < 1000 by omega)
      rw [vc]
      have ca : ∀ v, nb_Ch nb_lS nb_lA σ (nw_sA u 51 t v) := fun v => c1.sA _ _ (by decide)
      refine ⟨fun w => absurd w (nI_ge hi (by omega)), fun _ => ⟨vp_in_nI ht (by decide), oc, ⟨fun _ => trivial, fun _ => vp_in_nI (by omega) (by decide)⟩, vp_in_nI ht (by decide), vp_in_nI ht (by decide), (nb_cr5 hB (hLV _ (ca _)) hi (by omega)).1, vp_in_nI ht (by decide), ?_⟩⟩
      rw [(nb_cr5 hB (hLV _ (ca _)) hi (show t < 1000 by omega)).2]
      simp only [nb_gAsA, show (52 : Nat) ≠ 51 by decide, if_false, c6]
      refine ih2 _ ⟨(ca _).sA _ _ (by decide), c2, c3, fun r hr => ?_, ?_, ?_, ?_⟩
      · have := c4 r hr
        simp [nb_gAsA, show r ≠ t by omega, this]
      · simp only [nb_gAsA, if_true, show (51 : Nat) ≠ 52 by decide, if_false]
        show _ = nI (_ + (if nb_crest (nb_pe V i) (nb_fr V i) t then nb_ht V i else 0))
        cases nb_crest (nb_pe V i) (nb_fr V i) t
        · exact nI_add _ 0
        · exact nI_add _ _
      · simp only [nb_gAsA, if_true]
        show _ = nI (_ + (if nb_crest (nb_pe V i) (nb_fr V i) t then 1 else 0))
        cases nb_crest (nb_pe V i) (nb_fr V i) t
        · exact nI_add _ 0
        · exact nI_add _ 1
      · simp [nb_gAsA, c7]
