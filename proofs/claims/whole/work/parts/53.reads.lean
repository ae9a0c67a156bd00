/-! ===== the reference reads the texts ===== -/
theorem nb_Ch.sSid {LS : List (Nat × Nat)} {L : List Nat} {σ s : nw_ST} (h : nb_Ch LS L σ s) {q k : Nat} {v : Int32} (hv : v = nw_gS s q k) : nb_Ch LS L σ (nw_sS s q k v) := by
  refine ⟨fun q' k' h' => ?_, fun q' h' => ⟨fun i => (h.2 q' h').1 i, fun i => (h.2 q' h').2 i⟩⟩
  rw [nb_gSsS]
  by_cases e : q' = q
  · subst e
    by_cases e2 : k' = k
    · subst e2; rw [if_pos rfl, if_pos rfl, hv]; exact h.1 _ _ h'
    · rw [if_pos rfl, if_neg e2]; exact h.1 _ _ h'
  · rw [if_neg e]; exact h.1 _ _ h'
def nb_T5 (σ : nw_ST) (t : Nat) (f : Nat → Nat) (n : Nat) : Prop := n ≤ 47 ∧ nw_gA σ 38 t = nI n ∧ (∀ i, i < n → nw_gA σ 39 (47 * t + i) = nI (f i)) ∧ ∀ i, i < n → f i < 256
theorem nb_T5.ch {σ s : nw_ST} {t n : Nat} {f : Nat → Nat} {LS : List (Nat × Nat)} {L : List Nat} (h : nb_T5 σ t f n) (hc : nb_Ch LS L σ s) (h1 : 38 ∉ L) (h2 : 39 ∉ L) : nb_T5 s t f n :=
  ⟨h.1, ((hc.2 38 h1).1 t).trans h.2.1, fun i hi => ((hc.2 39 h2).1 _).trans (h.2.2.1 i hi), h.2.2.2⟩
theorem nb_neg1 {b : Nat} (h : b < 2 ^ 31) : ¬ nI b = -1 := by
  intro e
  have := congrArg Int32.toInt e
  rw [nI_toInt h] at this
  have h9 : (-1 : Int32).toInt = -1 := rfl
  omega
theorem nb_fg {σ : nw_ST} {t n j : Nat} {f : Nat → Nat} (ht : t < 2) (h : nb_T5 σ t f n) (hj : j < 1000) : o5_figureAt σ (nI t) (nI j) ∧ v5_figureAt σ (nI t) (nI j) = if j < n ∧ 48 ≤ f j ∧ f j ≤ 57 then nI (f j - 48) else -1 := by
  obtain ⟨hn, h1, h2, h3⟩ := h
  unfold o5_figureAt v5_figureAt
  rw [nI_clamp (show t < 2 ^ 31 by omega), h1, show (47 : Int32) = nI 47 from rfl, pk_mul, nI_add, nI_clamp (show 47 * t + j < 2 ^ 31 by omega)]
  refine ⟨⟨vp_in_nI ht (by decide), fun _ => trivial, fun w => vp_in_nI ?_ (by decide)⟩, ?_⟩
  · have : j < n := by
      rcases Nat.lt_or_ge j n with h | h
      · exact h
      · exact absurd (nI_le h (by omega)) w
    omega
  · by_cases hjn : j < n
    · rw [if_neg (nI_ge hjn (by omega)), h2 j hjn]
      by_cases hd : 48 ≤ f j ∧ f j ≤ 57
      · have e1 : ¬ v5_in (nI (f j) - 48) 0 9 = 0 := by
          rw [nb_in_iff, Classical.not_not, nb_figv hd.1]
          exact ⟨nI_pos' (by omega), nI_le (b := 9) (by omega) (by decide)⟩
        rw [if_neg e1, if_pos ⟨hjn, hd⟩, nb_figv hd.1]
      · have e1 : v5_in (nI (f j) - 48) 0 9 = 0 := by
          rw [nb_in_iff]
          rintro ⟨a, b⟩
          have c := nb_fig (h3 j hjn)
          exact hd ⟨by
            rcases Nat.lt_or_ge (f j) 48 with h | h
            · exact absurd (c.1.mpr h) (Int32.not_lt.mpr a)
            · exact h, c.2.mp b⟩
        rw [if_pos e1, if_neg (fun z => hd z.2)]
    · rw [if_pos (nI_le (by omega) (by omega)), if_neg (fun z => hjn z.1)]
theorem nb_fgD {σ : nw_ST} {t n j : Nat} {f : Nat → Nat} (ht : t < 2) (h : nb_T5 σ t f n) (hj : j < n) (hd : 48 ≤ f j ∧ f j ≤ 57) : v5_figureAt σ (nI t) (nI j) = nI (nb_d f j) := by
  rw [(nb_fg ht h (by have := h.1; omega)).2, if_pos ⟨hj, hd⟩]; rfl
theorem nb_tw {σ : nw_ST} {t n j : Nat} {f : Nat → Nat} (ht : t < 2) (h : nb_T5 σ t f n) (hj : j < 900) : o5_twoAt σ (nI t) (nI j) := by
  unfold o5_twoAt
  rw [nI_1]
  exact ⟨(nb_fg ht h (by omega)).1, (nb_fg ht h (by omega)).1⟩
theorem nb_twD {σ : nw_ST} {t n j : Nat} {f : Nat → Nat} (ht : t < 2) (h : nb_T5 σ t f n) (hj : j + 1 < n) (hd : 48 ≤ f j ∧ f j ≤ 57) (hd' : 48 ≤ f (j + 1) ∧ f (j + 1) ≤ 57) : v5_twoAt σ (nI t) (nI j) = nI (10 * nb_d f j + nb_d f (j + 1)) := by
  unfold v5_twoAt
  rw [nI_1, nb_fgD ht h (by omega) hd, nb_fgD ht h hj hd', nb_ten]
def nb_isd (f : Nat → Nat) (n j : Nat) : Prop := j < n ∧ 48 ≤ f j ∧ f j ≤ 57


/-- what one entry's read leaves behind -/
def nb_R10 (f : Nat → Nat) (n e : Nat) (σ s : nw_ST) (r : Nat) : Prop := nb_Ch [] [40, 41, 42] σ s ∧ r ≤ 5 ∧ (∀ p, p < r → 6 * e + p < n ∧ nb_good 0 f (6 * e + p) = true) ∧ (r < 5 → ¬ (6 * e + r < n ∧ nb_good 0 f (6 * e + r) = true)) ∧ (r = 5 → ∀ w, w < 3 → nw_gA s (40 + w) e = nI (nb_pt 0 f e w)) ∧ ∀ w i, w < 3 → i ≠ e → nw_gA s (40 + w) i = nw_gA σ (40 + w) i
theorem nb_w0 {K : Int32 → nw_ST → Prop} {f : Nat → Nat} {n e c : Nat} {σ : nw_ST} (h : nb_T5 σ 0 f n) (he : e ≤ 5) (hc : c ≤ 5) (hd : ∀ p, p < c → nb_isd f n (6 * e + p)) (hg : ∀ p, p < c → nb_good 0 f (6 * e + p) = true) (hno : c < 5 → ¬ nb_isd f n (6 * e + c)) (hk : ∀ s r, nb_R10 f n e σ s r → K (nI r) s) : f5_readsOne_68 K σ (nI e) (nI (6 * e)) (nI c) := by
  have c3 : ∀ (v0 v1 v2 : Int32) , nb_Ch [] [40, 41, 42] σ (nw_sA (nw_sA (nw_sA σ 40 e v0) 41 e v1) 42 e v2) := fun v0 v1 v2 => ((nb_Ch.rf.sA _ _ (by simp)).sA _ _ (by simp)).sA _ _ (by simp)
  have hA : ∀ v, nb_T5 (nw_sA σ 40 e v) 0 f n := fun v => h.ch (LS := []) (L := [40, 41, 42]) (nb_Ch.rf.sA _ _ (by simp)) (by decide) (by decide)
  have hB : ∀ v v', nb_T5 (nw_sA (nw_sA σ 40 e v) 41 e v') 0 f n := fun v v' => h.ch (LS := []) (L := [40, 41, 42]) ((nb_Ch.rf.sA _ _ (by simp)).sA _ _ (by simp)) (by decide) (by decide)
  have ht : 0 < 2 := by decide
  have hfin : ∀ (v0 v1 v2 : Int32), (c = 5 → v0 = nI (nb_pt 0 f e 0) ∧ v1 = nI (nb_pt 0 f e 1) ∧ v2 = nI (nb_pt 0 f e 2)) → K (nI c) (nw_sA (nw_sA (nw_sA σ 40 e v0) 41 e v1) 42 e v2) := by
    intro v0 v1 v2 hv
    refine hk _ c ⟨c3 v0 v1 v2, hc, fun p hp => ⟨(hd p hp).1, hg p hp⟩, fun h5 z => hno h5 ⟨z.1, nb_goodD z.2 (by omega)⟩, fun h5 w hw => ?_, fun w i hw hi => ?_⟩
    · obtain ⟨a, b, d⟩ := hv h5
      rcases (show w = 0 ∨ w = 1 ∨ w = 2 by omega) with rfl | rfl | rfl <;> simp [nb_gAsA, a, b, d]
    · rcases (show w = 0 ∨ w = 1 ∨ w = 2 by omega) with rfl | rfl | rfl <;> simp [nb_gAsA, hi]
  unfold f5_readsOne_68 f5_readsOne_103 f5_readsOne_127
  rw [nI_clamp (show e < 2 ^ 31 by omega)]

  rw [nI_1, show (3 : Int32) = nI 3 from rfl, nI_add, show (0 : Int32) = nI 0 from rfl]
  refine ⟨(nb_fg ht h (by omega)).1, vp_in_nI (by omega) (by decide), ⟨fun _ => nb_tw ht (hA _) (by omega), fun _ => trivial⟩, vp_in_nI (by omega) (by decide), ⟨fun _ => nb_tw ht (hB _ _) (by omega), fun _ => trivial⟩, vp_in_nI (by omega) (by decide), hfin _ _ _ ?_⟩
  intro h5
  subst h5
  simp only [if_pos (show nI 5 = (5 : Int32) from rfl)]
  have d := fun p (hp : p < 5) => hd p hp
  exact ⟨nb_fgD ht h (d 0 (by decide)).1 (d 0 (by decide)).2, nb_twD ht (hA _) (d 2 (by decide)).1 (d 1 (by decide)).2 (d 2 (by decide)).2, nb_twD ht (hB _ _) (d 4 (by decide)).1 (d 3 (by decide)).2 (d 4 (by decide)).2⟩

theorem nb_x0 {K : Int32 → nw_ST → Prop} {f : Nat → Nat} {n e c : Nat} {σ : nw_ST} (h : nb_T5 σ 0 f n) (he : e ≤ 5) (hc : c ≤ 5) (hd : ∀ p, p < c → nb_isd f n (6 * e + p)) (hno : c < 5 → ¬ nb_isd f n (6 * e + c)) (hk : ∀ s r, nb_R10 f n e σ s r → K (nI r) s) : f5_readsOne_28 K σ (nI 0) (nI e) (nI (6 * e)) (nI c) := by
  have ht : 0 < 2 := by decide
  unfold f5_readsOne_28
  refine ⟨fun _ => ?_, fun z => absurd rfl z⟩
  have g0 : 0 < c → nb_good 0 f (6 * e + 0) = !decide (10 * (0) + (f (6 * e + 0) - 48) < 1) := fun hp => nb_gd00 (hd 0 hp).2.1 (hd 0 hp).2.2
  have g2 : 2 < c → nb_good 0 f (6 * e + 2) = !decide (10 * (nb_d f (6 * e + 1)) + (f (6 * e + 2) - 48) < 2) := fun hp => nb_gd02 (hd 2 hp).2.1 (hd 2 hp).2.2
  have go : (0 < c → nb_good 0 f (6 * e + 0) = true) → f5_readsOne_48 K σ (nI e) (nI (6 * e)) (nI c) := by
    intro h0
    unfold f5_readsOne_48
    refine ⟨fun w => ?_, fun w => ?_⟩
    · have w := (nI_leI (a := c) (b := 2) (by omega) (by decide)).mp w
      refine nb_w0 h he hc hd (fun p hp => ?_) hno hk
      rcases (show p = 0 ∨ p = 1 by omega) with rfl | rfl
      · exact h0 (by omega)
      · exact nb_gd01 (hd 1 hp).2.1 (hd 1 hp).2.2
    · have w : 2 < c := by
        rcases Nat.lt_or_ge 2 c with h | h
        · exact h
        · exact absurd (nI_le (b := 2) h (by decide)) w
      have e2 : v5_twoAt σ (nI 0) (nI (6 * e + 1)) = nI (10 * nb_d f (6 * e + 1) + nb_d f (6 * e + 2)) := nb_twD ht h (hd 2 w).1 (hd 1 (by omega)).2 (hd 2 w).2
      have b1 := (hd 1 (by omega)).2
      have b2 := (hd 2 w).2
      rw [nI_1]
      rw [show (nI 0) = (0 : Int32) from rfl] at e2
      rw [e2]
      refine ⟨nb_tw ht h (by omega), fun z => ?_, fun z => ?_⟩
      · have z := (nI_leI (a := 2) (by decide) (by unfold nb_d; omega)).mp z
        refine nb_w0 h he hc hd (fun p hp => ?_) hno hk
        rcases (show p = 0 ∨ p = 1 ∨ p = 2 ∨ p = 3 ∨ p = 4 by omega) with rfl | rfl | rfl | rfl | rfl
        · exact h0 (by omega)
        · exact nb_gd01 (hd 1 hp).2.1 (hd 1 hp).2.2
        · rw [g2 w, decide_eq_false (by unfold nb_d at z ⊢; omega)]; rfl
        · exact nb_gd03 (hd 3 hp).2.1 (hd 3 hp).2.2
        · exact nb_gd04 (hd 4 hp).2.1 (hd 4 hp).2.2
      · have z : 10 * nb_d f (6 * e + 1) + nb_d f (6 * e + 2) < 2 := by
          rcases Nat.lt_or_ge (10 * nb_d f (6 * e + 1) + nb_d f (6 * e + 2)) 2 with h | h
          · exact h
          · exact absurd (nI_le (a := 2) h (by unfold nb_d; omega)) z
        refine hk σ 2 ⟨nb_Ch.rf, by decide, fun p hp => ⟨(hd p (by omega)).1, ?_⟩, fun _ y => ?_, fun y => absurd y (by decide), fun _ _ _ _ => rfl⟩
        · rcases (show p = 0 ∨ p = 1 by omega) with rfl | rfl
          · exact h0 (by omega)
          · exact nb_gd01 (hd 1 (by omega)).2.1 (hd 1 (by omega)).2.2
        · have y := y.2
          rw [g2 w, decide_eq_true (by unfold nb_d at z ⊢; omega)] at y
          cases y
  refine ⟨fun w => go (fun h0 => absurd w (nI_nle h0 (by omega))), fun w => ?_⟩
  have w : 0 < c := by
    rcases Nat.eq_zero_or_pos c with h | h
    · exact absurd (by rw [h]; decide) w
    · exact h
  have e0 := nb_fgD ht h (hd 0 w).1 (hd 0 w).2
  rw [show (nI 0) = (0 : Int32) from rfl, Nat.add_zero] at e0
  rw [e0]
  have b0 := (hd 0 w).2
  rw [Nat.add_zero] at b0
  have e9 : nb_d f (6 * e) = f (6 * e) - 48 := rfl
  refine ⟨(nb_fg ht h (by omega)).1, fun z => ?_, fun z => go (fun _ => ?_)⟩
  · have z := (nb_eq0 (by unfold nb_d; omega)).mp z
    refine hk σ 0 ⟨nb_Ch.rf, by decide, fun p hp => absurd hp (Nat.not_lt_zero p), fun _ y => ?_, fun y => absurd y (by decide), fun _ _ _ _ => rfl⟩
    have y := y.2
    rw [g0 w, decide_eq_true (by rw [Nat.add_zero]; omega)] at y
    cases y
  · have z : nb_d f (6 * e) ≠ 0 := fun y => z ((nb_eq0 (by omega)).mpr y)
    rw [g0 w, decide_eq_false (by rw [Nat.add_zero]; omega)]; rfl

theorem nb_one0 {K : Int32 → nw_ST → Prop} {f : Nat → Nat} {n e : Nat} {σ : nw_ST} (h : nb_T5 σ 0 f n) (he : e ≤ 5) (hk : ∀ s r, nb_R10 f n e σ s r → K (nI r) s) : f5_readsOne K σ (nI 0) (nI e) (nI (6 * e)) := by
  have ht : 0 < 2 := by decide
  unfold f5_readsOne
  refine pk_loop (fun m i s => f5_readsOne_3 K m s (nI 0) (nI e) (nI (6 * e)) (nI i)) (fun i s => s = σ ∧ ∀ p, p < i → nb_isd f n (6 * e + p)) 5 0 σ (by decide) ⟨rfl, fun p hp => absurd hp (Nat.not_lt_zero p)⟩ ?_ ?_
  · rintro m s ⟨rfl, hd⟩
    show b5_readsOne_3 K _ s (nI 0) (nI e) (nI (6 * e)) (nI 5)
    unfold b5_readsOne_3
    exact ⟨fun _ => nb_x0 h he (by decide) hd (fun z => absurd z (by decide)) hk, fun w => absurd (by decide) w⟩
  · rintro m i s hi ⟨rfl, hd⟩ ih
    show b5_readsOne_3 K _ s (nI 0) (nI e) (nI (6 * e)) (nI i)
    unfold b5_readsOne_3
    rw [nI_add, nI_1, (nb_fg ht h (show 6 * e + i < 1000 by omega)).2]
    refine ⟨fun w => absurd w (nI_ge (b := 5) hi (by decide)), fun _ => ⟨(nb_fg ht h (by omega)).1, fun w => ?_, fun w => ?_⟩⟩
    · refine nb_x0 h he (by omega) hd (fun _ z => ?_) hk
      have z : 6 * e + i < n ∧ 48 ≤ f (6 * e + i) ∧ f (6 * e + i) ≤ 57 := z
      rw [if_pos z] at w
      exact nb_neg1 (by have := z.2.2; omega) w
    · refine ih s ⟨rfl, fun p hp => ?_⟩
      by_cases e9 : p = i
      · subst e9
        by_cases z : nb_isd f n (6 * e + p)
        · exact z
        · exact absurd (if_neg (show ¬ (6 * e + p < n ∧ 48 ≤ f (6 * e + p) ∧ f (6 * e + p) ≤ 57) from z)) w
      · exact hd p (by omega)
def nb_RT0 (s : nw_ST) (f : Nat → Nat) (n : Nat) : Prop := nw_gS s 37 2 = nI (nb_en 0 f n) ∧ ∀ i, i < nb_en 0 f n → ∀ w, w < 3 → nw_gA s (40 + w) i = nI (nb_pt 0 f i w)
theorem nb_text0 {K : Int32 → nw_ST → Prop} {f : Nat → Nat} {n : Nat} {σ : nw_ST} (h : nb_T5 σ 0 f n) (hn : n ≤ 35) (hk : ∀ s, nb_Ch [(37, 2)] [40, 41, 42] σ s → nb_RT0 s f n → K (nb_fl 0 f n) s) : f5_readsText K σ (nI 0) := by
  have ht : 0 < 2 := by decide
  unfold f5_readsText f5_readsText_11 f5_readsText_30 f5_readsText_47
  simp only [if_pos (show nI 0 = (0 : Int32) from rfl), if_neg (show ¬ nI 0 = (1 : Int32) by decide)]
  have h0 : nb_Ch [(37, 2)] [40, 41, 42] σ (nw_sS (nw_sS σ 37 2 0) 37 6 (nw_gS (nw_sS σ 37 2 0) 37 6)) := (nb_Ch.rf.sS _ (by simp)).sSid rfl
  have h00 : nw_gS (nw_sS (nw_sS σ 37 2 0) 37 6 (nw_gS (nw_sS σ 37 2 0) 37 6)) 37 2 = 0 := by simp [nb_gSsS]
  generalize (nw_sS (nw_sS σ 37 2 0) 37 6 (nw_gS (nw_sS σ 37 2 0) 37 6)) = σ1 at h0 h00 ⊢
  refine pk_loop (fun m e s => f5_readsText_50 K m s (nI 0) 6 (nI e) (nI (6 * e))) (fun e s => nb_Ch [(37, 2)] [40, 41, 42] σ s ∧ nw_gS s 37 2 = 0 ∧ 6 * e ≤ n ∧ (∀ j, j < 6 * e → nb_good 0 f j = true) ∧ ∀ i, i < e → ∀ w, w < 3 → nw_gA s (40 + w) i = nI (nb_pt 0 f i w)) 6 0 σ1 (by decide) ⟨h0, h00, by omega, fun j hj => absurd hj (Nat.not_lt_zero j), fun i hi => absurd hi (Nat.not_lt_zero i)⟩ ?_ ?_
  · rintro m s ⟨-, -, h6, -⟩
    omega
  · rintro m e s he ⟨hch, hz, h6, hgd, hv⟩ ih
    have hs := h.ch hch (by decide) (by decide)
    show b5_readsText_50 K _ s (nI 0) 6 (nI e) (nI (6 * e))
    unfold b5_readsText_50
    rw [nI_clamp (show 0 < 2 ^ 31 by decide), hs.2.1]
    have bad : ∀ (b : Nat) (u : nw_ST), nb_Ch [(37, 2)] [40, 41, 42] σ u → nw_gS u 37 2 = 0 → (∀ j, j < b → nb_good 0 f j = true) → b ≤ n → (b < n → nb_good 0 f b = false) → ¬ (b = n ∧ (n = 0 ∨ n % 6 = 5)) → K (nI b) u := by
      intro b u hcu hzu hg hbn hnb hnw
      have e1 : nb_bad 0 f n = b := by
        rcases Nat.lt_or_ge b n with hlt | hge
        · exact nb_fst_eq hlt (fun i hi => by rw [hg i hi]; rfl) (by rw [hnb hlt]; rfl)
        · have : b = n := by omega
          subst this
          exact nb_fst_none (fun i hi => by rw [hg i hi]; rfl)
      have e2 : nb_well 0 f n = false := decide_eq_false (by rw [e1]; omega)
      have := hk u hcu
      unfold nb_RT0 nb_en nb_fl at this
      rw [e2, e1] at this
      exact this ⟨hzu, fun i hi => absurd hi (Nat.not_lt_zero i)⟩
    have go : 0 < n → f5_readsText_66 K (f5_readsText_50 K m) s (nI 0) 6 (nI e) (nI (6 * e)) := by
      intro hn0
      unfold f5_readsText_66
      refine ⟨fun w => absurd ((nI_eq (b := 6) (by omega) (by decide)).mp w) (by omega), fun _ => nb_one0 hs (by omega) ?_⟩
      rintro u r ⟨hcu, hr5, hp, hno, hpt, hot⟩
      have hcu' : nb_Ch [(37, 2)] [40, 41, 42] σ u := hch.tr (hcu.up (by simp) (by simp))
      have hzu : nw_gS u 37 2 = 0 := (hcu.1 37 2 (by simp)).trans hz
      have hu := h.ch hcu' (by decide) (by decide)
      have hgr : ∀ j, j < 6 * e + r → nb_good 0 f j = true := by
        intro j hj
        rcases Nat.lt_or_ge j (6 * e) with hl | hl
        · exact hgd j hl
        · have := (hp (j - 6 * e) (by omega)).2
          rwa [show 6 * e + (j - 6 * e) = j by omega] at this
      have hvu : ∀ i, i < e → ∀ w, w < 3 → nw_gA u (40 + w) i = nI (nb_pt 0 f i w) := fun i hi w hw => (hot w i hw (by omega)).trans (hv i hi w hw)
      show f5_readsText_83 K (f5_readsText_50 K m) u (nI 0) 6 (nI e) (nI (6 * e)) (nI r)
      unfold f5_readsText_83
      refine ⟨fun w => ?_, fun w => ?_⟩
      · have w := (nI_leI (a := 5) (by decide) (by omega)).mp w
        have hr : r = 5 := by omega
        subst hr
        have h4 := (hp 4 (by decide)).1
        rw [nI_clamp (show 0 < 2 ^ 31 by decide), hu.2.1, show (5 : Int32) = nI 5 from rfl, nI_add, show (47 : Int32) = nI 47 from rfl, pk_mul, nI_add, nI_1, nI_1, nI_clamp (show 47 * 0 + (6 * e + 5) < 2 ^ 31 by omega)]
        refine ⟨vp_in_nI ht (by decide), fun z => ?_, fun z => ?_⟩
        · have z := (nI_eq (by omega) (by omega)).mp z
          have e1 : nb_bad 0 f n = n := nb_fst_none (fun j hj => by rw [hgr j (by omega)]; rfl)
          have e2 : nb_well 0 f n = true := decide_eq_true (Or.inr ⟨e1, by omega⟩)
          unfold f5_readsText_127 f5_readsText_144
          simp only [if_pos (show nI 0 = (0 : Int32) from rfl), if_neg (show ¬ nI 0 = (1 : Int32) by decide)]
          have c9 : nb_Ch [(37, 2)] [40, 41, 42] σ (nw_sS (nw_sS u 37 2 (nI (e + 1))) 37 6 (nw_gS (nw_sS u 37 2 (nI (e + 1))) 37 6)) := (hcu'.sS _ (by simp)).sSid rfl
          have k9 := hk _ c9
          unfold nb_RT0 nb_en nb_fl at k9
          rw [e2, if_pos rfl, if_pos rfl, show (n + 1) / 6 = e + 1 by omega] at k9
          refine k9 ⟨by simp [nb_gSsS], fun i hi w hw => ?_⟩
          rw [nb_gAsS, nb_gAsS]
          by_cases hie : i = e
          · subst hie; exact hpt rfl w hw
          · exact hvu i (by omega) w hw
        · have hlt : 6 * e + 5 < n := by
            rcases Nat.lt_or_ge (6 * e + 5) n with h | h
            · exact h
            · exact absurd (by rw [show 6 * e + 5 = n by omega]) z
          rw [hu.2.2.1 _ hlt]
          refine ⟨vp_in_nI (by omega) (by decide), fun y => ?_, fun y => ?_⟩
          · have y := (nI_eq (b := 59) (by have := hu.2.2.2 _ hlt; omega) (by decide)).mp y
            rw [show 6 * e + 5 + 1 = 6 * (e + 1) by omega]
            refine ih u ⟨hcu', hzu, by omega, fun j hj => ?_, fun i hi w hw => ?_⟩
            · by_cases hj5 : j = 6 * e + 5
              · rw [hj5, nb_good5, decide_eq_true y]
              · exact hgr j (by omega)
            · by_cases hie : i = e
              · subst hie; exact hpt rfl w hw
              · exact hvu i (by omega) w hw
          · have y : f (6 * e + 5) ≠ 59 := fun q => y (by rw [q]; rfl)
            exact bad _ u hcu' hzu hgr (by omega) (fun _ => by rw [nb_good5, decide_eq_false y]) (by omega)
      · have hr : r < 5 := by
          rcases Nat.lt_or_ge r 5 with h | h
          · exact h
          · exact absurd (nI_le (a := 5) h (by omega)) w
        rw [nI_add]
        have hle : 6 * e + r ≤ n := by
          rcases Nat.eq_zero_or_pos r with q | q
          · omega
          · have := (hp (r - 1) (by omega)).1; omega
        refine bad _ u hcu' hzu hgr hle (fun hl => ?_) (by omega)
        cases hq : nb_good 0 f (6 * e + r)
        · rfl
        · exact absurd ⟨hl, hq⟩ (hno hr)
    refine ⟨vp_in_nI ht (by decide), fun w => go (by have := (nI_ltI (by omega) (by omega)).mp w; omega), fun w => ⟨fun z => ?_, fun z => go ?_⟩⟩
    · have e0 : 6 * e = 0 := by
        rcases Nat.eq_zero_or_pos (6 * e) with q | q
        · exact q
        · exact absurd z (nI_nle q (by omega))
      have n0 : n = 0 := by
        rcases Nat.eq_zero_or_pos n with q | q
        · exact q
        · exact absurd (nI_lt (by omega) (by omega)) w
      have := hk s hch
      subst n0
      unfold nb_RT0 nb_en nb_fl nb_well at this
      simp only [true_or, decide_true, if_true] at this
      exact this ⟨hz, fun i hi => absurd hi (by omega)⟩
    · rcases Nat.eq_zero_or_pos n with q | q
      · exfalso
        apply z
        rw [show 6 * e = 0 by omega]; decide
      · exact q


/-- what one entry's read leaves behind -/
def nb_R11 (f : Nat → Nat) (n e : Nat) (σ s : nw_ST) (r : Nat) : Prop := nb_Ch [] [43, 44, 45] σ s ∧ r ≤ 5 ∧ (∀ p, p < r → 6 * e + p < n ∧ nb_good 1 f (6 * e + p) = true) ∧ (r < 5 → ¬ (6 * e + r < n ∧ nb_good 1 f (6 * e + r) = true)) ∧ (r = 5 → ∀ w, w < 3 → nw_gA s (43 + w) e = nI (nb_pt 1 f e w)) ∧ ∀ w i, w < 3 → i ≠ e → nw_gA s (43 + w) i = nw_gA σ (43 + w) i
theorem nb_w1 {K : Int32 → nw_ST → Prop} {f : Nat → Nat} {n e c : Nat} {σ : nw_ST} (h : nb_T5 σ 1 f n) (he : e ≤ 7) (hc : c ≤ 5) (hd : ∀ p, p < c → nb_isd f n (6 * e + p)) (hg : ∀ p, p < c → nb_good 1 f (6 * e + p) = true) (hno : c < 5 → ¬ nb_isd f n (6 * e + c)) (hk : ∀ s r, nb_R11 f n e σ s r → K (nI r) s) : f5_readsOne_148 K σ (nI e) (nI (6 * e)) (nI c) := by
  have c3 : ∀ (v0 v1 v2 : Int32) , nb_Ch [] [43, 44, 45] σ (nw_sA (nw_sA (nw_sA σ 43 e v0) 44 e v1) 45 e v2) := fun v0 v1 v2 => ((nb_Ch.rf.sA _ _ (by simp)).sA _ _ (by simp)).sA _ _ (by simp)
  have hA : ∀ v, nb_T5 (nw_sA σ 43 e v) 1 f n := fun v => h.ch (LS := []) (L := [43, 44, 45]) (nb_Ch.rf.sA _ _ (by simp)) (by decide) (by decide)
  have hB : ∀ v v', nb_T5 (nw_sA (nw_sA σ 43 e v) 44 e v') 1 f n := fun v v' => h.ch (LS := []) (L := [43, 44, 45]) ((nb_Ch.rf.sA _ _ (by simp)).sA _ _ (by simp)) (by decide) (by decide)
  have ht : 1 < 2 := by decide
  have hfin : ∀ (v0 v1 v2 : Int32), (c = 5 → v0 = nI (nb_pt 1 f e 0) ∧ v1 = nI (nb_pt 1 f e 1) ∧ v2 = nI (nb_pt 1 f e 2)) → K (nI c) (nw_sA (nw_sA (nw_sA σ 43 e v0) 44 e v1) 45 e v2) := by
    intro v0 v1 v2 hv
    refine hk _ c ⟨c3 v0 v1 v2, hc, fun p hp => ⟨(hd p hp).1, hg p hp⟩, fun h5 z => hno h5 ⟨z.1, nb_goodD z.2 (by omega)⟩, fun h5 w hw => ?_, fun w i hw hi => ?_⟩
    · obtain ⟨a, b, d⟩ := hv h5
      rcases (show w = 0 ∨ w = 1 ∨ w = 2 by omega) with rfl | rfl | rfl <;> simp [nb_gAsA, a, b, d]
    · rcases (show w = 0 ∨ w = 1 ∨ w = 2 by omega) with rfl | rfl | rfl <;> simp [nb_gAsA, hi]
  unfold f5_readsOne_148 f5_readsOne_169 f5_readsOne_193 f5_readsOne_217
  rw [nI_clamp (show e < 2 ^ 31 by omega)]

  rw [show (2 : Int32) = nI 2 from rfl, nI_add, show (4 : Int32) = nI 4 from rfl, nI_add, show (1 : Int32) = nI 1 from rfl]
  refine ⟨⟨fun _ => nb_tw ht h (by omega), fun _ => trivial⟩, vp_in_nI (by omega) (by decide), ⟨fun _ => nb_tw ht (hA _) (by omega), fun _ => trivial⟩, vp_in_nI (by omega) (by decide), ⟨fun _ => (nb_fg ht (hB _ _) (by omega)).1, fun _ => trivial⟩, vp_in_nI (by omega) (by decide), hfin _ _ _ ?_⟩
  intro h5
  subst h5
  simp only [if_pos (show nI 5 = (5 : Int32) from rfl)]
  have d := fun p (hp : p < 5) => hd p hp
  exact ⟨nb_twD ht h (d 1 (by decide)).1 (d 0 (by decide)).2 (d 1 (by decide)).2, nb_twD ht (hA _) (d 3 (by decide)).1 (d 2 (by decide)).2 (d 3 (by decide)).2, nb_fgD ht (hB _ _) (d 4 (by decide)).1 (d 4 (by decide)).2⟩

theorem nb_x1 {K : Int32 → nw_ST → Prop} {f : Nat → Nat} {n e c : Nat} {σ : nw_ST} (h : nb_T5 σ 1 f n) (he : e ≤ 7) (hc : c ≤ 5) (hd : ∀ p, p < c → nb_isd f n (6 * e + p)) (hno : c < 5 → ¬ nb_isd f n (6 * e + c)) (hk : ∀ s r, nb_R11 f n e σ s r → K (nI r) s) : f5_readsOne_28 K σ (nI 1) (nI e) (nI (6 * e)) (nI c) := by
  have ht : 1 < 2 := by decide
  unfold f5_readsOne_28
  refine ⟨fun z => absurd z (by decide), fun _ => ?_⟩
  have g1 : 1 < c → nb_good 1 f (6 * e + 1) = !decide (10 * (nb_d f (6 * e + 0)) + (f (6 * e + 1) - 48) < 1) := fun hp => nb_gd11 (hd 1 hp).2.1 (hd 1 hp).2.2
  have go : (1 < c → nb_good 1 f (6 * e + 1) = true) → f5_readsOne_148 K σ (nI e) (nI (6 * e)) (nI c) := by
    intro h0
    refine nb_w1 h he hc hd (fun p hp => ?_) hno hk
    rcases (show p = 0 ∨ p = 1 ∨ p = 2 ∨ p = 3 ∨ p = 4 by omega) with rfl | rfl | rfl | rfl | rfl
    · exact nb_gd10 (hd 0 hp).2.1 (hd 0 hp).2.2
    · exact h0 (by omega)
    · exact nb_gd12 (hd 2 hp).2.1 (hd 2 hp).2.2
    · exact nb_gd13 (hd 3 hp).2.1 (hd 3 hp).2.2
    · exact nb_gd14 (hd 4 hp).2.1 (hd 4 hp).2.2
  refine ⟨fun w => go (fun h0 => absurd ((nI_leI (a := c) (b := 1) (by omega) (by decide)).mp w) (by omega)), fun w => ?_⟩
  have w : 1 < c := by
    rcases Nat.lt_or_ge 1 c with h | h
    · exact h
    · exact absurd (nI_le (b := 1) h (by decide)) w
  have e0 := nb_twD ht h (hd 1 w).1 (hd 0 (by omega)).2 (hd 1 w).2
  rw [show (nI 1) = (1 : Int32) from rfl, Nat.add_zero] at e0
  rw [e0]
  have b0 := (hd 0 (by omega)).2
  have b1 := (hd 1 w).2
  rw [Nat.add_zero] at b0
  have e9 : nb_d f (6 * e) = f (6 * e) - 48 := rfl
  have e8 : nb_d f (6 * e + 1) = f (6 * e + 1) - 48 := rfl
  refine ⟨nb_tw ht h (by omega), fun z => ?_, fun z => go (fun _ => ?_)⟩
  · have z := (nb_eq0 (by omega)).mp z
    refine hk σ 1 ⟨nb_Ch.rf, by decide, fun p hp => ⟨(hd p (by omega)).1, ?_⟩, fun _ y => ?_, fun y => absurd y (by decide), fun _ _ _ _ => rfl⟩
    · have : p = 0 := by omega
      subst this
      exact nb_gd10 (hd 0 (by omega)).2.1 (hd 0 (by omega)).2.2
    · have y := y.2
      rw [g1 w, decide_eq_true (by rw [Nat.add_zero]; omega)] at y
      cases y
  · have z : 10 * nb_d f (6 * e) + nb_d f (6 * e + 1) ≠ 0 := fun y => z ((nb_eq0 (by omega)).mpr y)
    rw [g1 w, decide_eq_false (by rw [Nat.add_zero]; omega)]; rfl

theorem nb_one1 {K : Int32 → nw_ST → Prop} {f : Nat → Nat} {n e : Nat} {σ : nw_ST} (h : nb_T5 σ 1 f n) (he : e ≤ 7) (hk : ∀ s r, nb_R11 f n e σ s r → K (nI r) s) : f5_readsOne K σ (nI 1) (nI e) (nI (6 * e)) := by
  have ht : 1 < 2 := by decide
  unfold f5_readsOne
  refine pk_loop (fun m i s => f5_readsOne_3 K m s (nI 1) (nI e) (nI (6 * e)) (nI i)) (fun i s => s = σ ∧ ∀ p, p < i → nb_isd f n (6 * e + p)) 5 0 σ (by decide) ⟨rfl, fun p hp => absurd hp (Nat.not_lt_zero p)⟩ ?_ ?_
  · rintro m s ⟨rfl, hd⟩
    show b5_readsOne_3 K _ s (nI 1) (nI e) (nI (6 * e)) (nI 5)
    unfold b5_readsOne_3
    exact ⟨fun _ => nb_x1 h he (by decide) hd (fun z => absurd z (by decide)) hk, fun w => absurd (by decide) w⟩
  · rintro m i s hi ⟨rfl, hd⟩ ih
    show b5_readsOne_3 K _ s (nI 1) (nI e) (nI (6 * e)) (nI i)
    unfold b5_readsOne_3
    rw [nI_add, nI_1, (nb_fg ht h (show 6 * e + i < 1000 by omega)).2]
    refine ⟨fun w => absurd w (nI_ge (b := 5) hi (by decide)), fun _ => ⟨(nb_fg ht h (by omega)).1, fun w => ?_, fun w => ?_⟩⟩
    · refine nb_x1 h he (by omega) hd (fun _ z => ?_) hk
      have z : 6 * e + i < n ∧ 48 ≤ f (6 * e + i) ∧ f (6 * e + i) ≤ 57 := z
      rw [if_pos z] at w
      exact nb_neg1 (by have := z.2.2; omega) w
    · refine ih s ⟨rfl, fun p hp => ?_⟩
      by_cases e9 : p = i
      · subst e9
        by_cases z : nb_isd f n (6 * e + p)
        · exact z
        · exact absurd (if_neg (show ¬ (6 * e + p < n ∧ 48 ≤ f (6 * e + p) ∧ f (6 * e + p) ≤ 57) from z)) w
      · exact hd p (by omega)
def nb_RT1 (s : nw_ST) (f : Nat → Nat) (n : Nat) : Prop := nw_gS s 37 6 = nI (nb_en 1 f n) ∧ ∀ i, i < nb_en 1 f n → ∀ w, w < 3 → nw_gA s (43 + w) i = nI (nb_pt 1 f i w)
theorem nb_text1 {K : Int32 → nw_ST → Prop} {f : Nat → Nat} {n : Nat} {σ : nw_ST} (h : nb_T5 σ 1 f n) (hn : n ≤ 47) (hk : ∀ s, nb_Ch [(37, 6)] [43, 44, 45] σ s → nb_RT1 s f n → K (nb_fl 1 f n) s) : f5_readsText K σ (nI 1) := by
  have ht : 1 < 2 := by decide
  unfold f5_readsText f5_readsText_11 f5_readsText_30 f5_readsText_47
  simp only [if_neg (show ¬ nI 1 = (0 : Int32) by decide), if_pos (show nI 1 = (1 : Int32) from rfl)]
  have h0 : nb_Ch [(37, 6)] [43, 44, 45] σ (nw_sS (nw_sS σ 37 2 (nw_gS σ 37 2)) 37 6 0) := (nb_Ch.rf.sSid rfl).sS _ (by simp)
  have h00 : nw_gS (nw_sS (nw_sS σ 37 2 (nw_gS σ 37 2)) 37 6 0) 37 6 = 0 := by simp [nb_gSsS]
  generalize (nw_sS (nw_sS σ 37 2 (nw_gS σ 37 2)) 37 6 0) = σ1 at h0 h00 ⊢
  refine pk_loop (fun m e s => f5_readsText_50 K m s (nI 1) 8 (nI e) (nI (6 * e))) (fun e s => nb_Ch [(37, 6)] [43, 44, 45] σ s ∧ nw_gS s 37 6 = 0 ∧ 6 * e ≤ n ∧ (∀ j, j < 6 * e → nb_good 1 f j = true) ∧ ∀ i, i < e → ∀ w, w < 3 → nw_gA s (43 + w) i = nI (nb_pt 1 f i w)) 8 0 σ1 (by decide) ⟨h0, h00, by omega, fun j hj => absurd hj (Nat.not_lt_zero j), fun i hi => absurd hi (Nat.not_lt_zero i)⟩ ?_ ?_
  · rintro m s ⟨-, -, h6, -⟩
    omega
  · rintro m e s he ⟨hch, hz, h6, hgd, hv⟩ ih
    have hs := h.ch hch (by decide) (by decide)
    show b5_readsText_50 K _ s (nI 1) 8 (nI e) (nI (6 * e))
    unfold b5_readsText_50
    rw [nI_clamp (show 1 < 2 ^ 31 by decide), hs.2.1]
    have bad : ∀ (b : Nat) (u : nw_ST), nb_Ch [(37, 6)] [43, 44, 45] σ u → nw_gS u 37 6 = 0 → (∀ j, j < b → nb_good 1 f j = true) → b ≤ n → (b < n → nb_good 1 f b = false) → ¬ (b = n ∧ (n = 0 ∨ n % 6 = 5)) → K (nI b) u := by
      intro b u hcu hzu hg hbn hnb hnw
      have e1 : nb_bad 1 f n = b := by
        rcases Nat.lt_or_ge b n with hlt | hge
        · exact nb_fst_eq hlt (fun i hi => by rw [hg i hi]; rfl) (by rw [hnb hlt]; rfl)
        · have : b = n := by omega
          subst this
          exact nb_fst_none (fun i hi => by rw [hg i hi]; rfl)
      have e2 : nb_well 1 f n = false := decide_eq_false (by rw [e1]; omega)
      have := hk u hcu
      unfold nb_RT1 nb_en nb_fl at this
      rw [e2, e1] at this
      exact this ⟨hzu, fun i hi => absurd hi (Nat.not_lt_zero i)⟩
    have go : 0 < n → f5_readsText_66 K (f5_readsText_50 K m) s (nI 1) 8 (nI e) (nI (6 * e)) := by
      intro hn0
      unfold f5_readsText_66
      refine ⟨fun w => absurd ((nI_eq (b := 8) (by omega) (by decide)).mp w) (by omega), fun _ => nb_one1 hs (by omega) ?_⟩
      rintro u r ⟨hcu, hr5, hp, hno, hpt, hot⟩
      have hcu' : nb_Ch [(37, 6)] [43, 44, 45] σ u := hch.tr (hcu.up (by simp) (by simp))
      have hzu : nw_gS u 37 6 = 0 := (hcu.1 37 6 (by simp)).trans hz
      have hu := h.ch hcu' (by decide) (by decide)
      have hgr : ∀ j, j < 6 * e + r → nb_good 1 f j = true := by
        intro j hj
        rcases Nat.lt_or_ge j (6 * e) with hl | hl
        · exact hgd j hl
        · have := (hp (j - 6 * e) (by omega)).2
          rwa [show 6 * e + (j - 6 * e) = j by omega] at this
      have hvu : ∀ i, i < e → ∀ w, w < 3 → nw_gA u (43 + w) i = nI (nb_pt 1 f i w) := fun i hi w hw => (hot w i hw (by omega)).trans (hv i hi w hw)
      show f5_readsText_83 K (f5_readsText_50 K m) u (nI 1) 8 (nI e) (nI (6 * e)) (nI r)
      unfold f5_readsText_83
      refine ⟨fun w => ?_, fun w => ?_⟩
      · have w := (nI_leI (a := 5) (by decide) (by omega)).mp w
        have hr : r = 5 := by omega
        subst hr
        have h4 := (hp 4 (by decide)).1
        rw [nI_clamp (show 1 < 2 ^ 31 by decide), hu.2.1, show (5 : Int32) = nI 5 from rfl, nI_add, show (47 : Int32) = nI 47 from rfl, pk_mul, nI_add, nI_1, nI_1, nI_clamp (show 47 * 1 + (6 * e + 5) < 2 ^ 31 by omega)]
        refine ⟨vp_in_nI ht (by decide), fun z => ?_, fun z => ?_⟩
        · have z := (nI_eq (by omega) (by omega)).mp z
          have e1 : nb_bad 1 f n = n := nb_fst_none (fun j hj => by rw [hgr j (by omega)]; rfl)
          have e2 : nb_well 1 f n = true := decide_eq_true (Or.inr ⟨e1, by omega⟩)
          unfold f5_readsText_127 f5_readsText_144
          simp only [if_neg (show ¬ nI 1 = (0 : Int32) by decide), if_pos (show nI 1 = (1 : Int32) from rfl)]
          have c9 : nb_Ch [(37, 6)] [43, 44, 45] σ (nw_sS (nw_sS u 37 2 (nw_gS u 37 2)) 37 6 (nI (e + 1))) := (hcu'.sSid rfl).sS _ (by simp)
          have k9 := hk _ c9
          unfold nb_RT1 nb_en nb_fl at k9
          rw [e2, if_pos rfl, if_pos rfl, show (n + 1) / 6 = e + 1 by omega] at k9
          refine k9 ⟨by simp [nb_gSsS], fun i hi w hw => ?_⟩
          rw [nb_gAsS, nb_gAsS]
          by_cases hie : i = e
          · subst hie; exact hpt rfl w hw
          · exact hvu i (by omega) w hw
        · have hlt : 6 * e + 5 < n := by
            rcases Nat.lt_or_ge (6 * e + 5) n with h | h
            · exact h
            · exact absurd (by rw [show 6 * e + 5 = n by omega]) z
          rw [hu.2.2.1 _ hlt]
          refine ⟨vp_in_nI (by omega) (by decide), fun y => ?_, fun y => ?_⟩
          · have y := (nI_eq (b := 59) (by have := hu.2.2.2 _ hlt; omega) (by decide)).mp y
            rw [show 6 * e + 5 + 1 = 6 * (e + 1) by omega]
            refine ih u ⟨hcu', hzu, by omega, fun j hj => ?_, fun i hi w hw => ?_⟩
            · by_cases hj5 : j = 6 * e + 5
              · rw [hj5, nb_good5, decide_eq_true y]
              · exact hgr j (by omega)
            · by_cases hie : i = e
              · subst hie; exact hpt rfl w hw
              · exact hvu i (by omega) w hw
          · have y : f (6 * e + 5) ≠ 59 := fun q => y (by rw [q]; rfl)
            exact bad _ u hcu' hzu hgr (by omega) (fun _ => by rw [nb_good5, decide_eq_false y]) (by omega)
      · have hr : r < 5 := by
          rcases Nat.lt_or_ge r 5 with h | h
          · exact h
          · exact absurd (nI_le (a := 5) h (by omega)) w
        rw [nI_add]
        have hle : 6 * e + r ≤ n := by
          rcases Nat.eq_zero_or_pos r with q | q
          · omega
          · have := (hp (r - 1) (by omega)).1; omega
        refine bad _ u hcu' hzu hgr hle (fun hl => ?_) (by omega)
        cases hq : nb_good 1 f (6 * e + r)
        · rfl
        · exact absurd ⟨hl, hq⟩ (hno hr)
    refine ⟨vp_in_nI ht (by decide), fun w => go (by have := (nI_ltI (by omega) (by omega)).mp w; omega), fun w => ⟨fun z => ?_, fun z => go ?_⟩⟩
    · have e0 : 6 * e = 0 := by
        rcases Nat.eq_zero_or_pos (6 * e) with q | q
        · exact q
        · exact absurd z (nI_nle q (by omega))
      have n0 : n = 0 := by
        rcases Nat.eq_zero_or_pos n with q | q
        · exact q
        · exact absurd (nI_lt (by omega) (by omega)) w
      have := hk s hch
      subst n0
      unfold nb_RT1 nb_en nb_fl nb_well at this
      simp only [true_or, decide_true, if_true] at this
      exact this ⟨hz, fun i hi => absurd hi (by omega)⟩
    · rcases Nat.eq_zero_or_pos n with q | q
      · exfalso
        apply z
        rw [show 6 * e = 0 by omega]; decide
      · exact q
