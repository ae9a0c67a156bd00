/-! ===== the class's texts: the whole parse ===== -/
/-- a part's value when the bytes before i are read -/
def nb_pv (t : Nat) (f : Nat → Nat) (i e w : Nat) : Nat :=
  if t = 0 then (if w = 0 then (if 6 * e < i then nb_d f (6 * e) else 0) else if w = 1 then (if 6 * e + 2 < i then 10 * nb_d f (6 * e + 1) + nb_d f (6 * e + 2) else if 6 * e + 1 < i then nb_d f (6 * e + 1) else 0) else (if 6 * e + 4 < i then 10 * nb_d f (6 * e + 3) + nb_d f (6 * e + 4) else if 6 * e + 3 < i then nb_d f (6 * e + 3) else 0))
  else (if w = 0 then (if 6 * e + 1 < i then 10 * nb_d f (6 * e) + nb_d f (6 * e + 1) else if 6 * e < i then nb_d f (6 * e) else 0) else if w = 1 then (if 6 * e + 3 < i then 10 * nb_d f (6 * e + 2) + nb_d f (6 * e + 3) else if 6 * e + 2 < i then nb_d f (6 * e + 2) else 0) else (if 6 * e + 4 < i then nb_d f (6 * e + 4) else 0))
theorem nb_pv0 (t : Nat) (f : Nat → Nat) (e w : Nat) : nb_pv t f 0 e w = 0 := by
  unfold nb_pv; repeat' split
  all_goals first | rfl | omega
theorem nb_pvfull {t : Nat} {f : Nat → Nat} {i e w : Nat} (h : 6 * e + 4 < i) (hw : w < 3) : nb_pv t f i e w = nb_pt t f e w := by
  unfold nb_pv nb_pt
  rcases (show w = 0 ∨ w = 1 ∨ w = 2 by omega) with rfl | rfl | rfl
  · simp only [if_true]; repeat' split
    all_goals first | rfl | omega
  · simp only [show (1 : Nat) ≠ 0 by decide, if_true, if_false]; repeat' split
    all_goals first | rfl | omega
  · simp only [show (2 : Nat) ≠ 0 by decide, show (2 : Nat) ≠ 1 by decide, if_false]; repeat' split
    all_goals first | rfl | omega
theorem nb_isD_iff {f : Nat → Nat} {j : Nat} : nb_isD f j = true ↔ (48 ≤ f j ∧ f j ≤ 57) := by unfold nb_isD; exact decide_eq_true_iff
theorem nb_goodD {t : Nat} {f : Nat → Nat} {j : Nat} (h : nb_good t f j = true) (h5 : j % 6 ≠ 5) : 48 ≤ f j ∧ f j ≤ 57 := by
  unfold nb_good at h
  rw [if_neg h5, Bool.and_eq_true] at h
  exact nb_isD_iff.mp h.1
theorem nb_goodN {t : Nat} {f : Nat → Nat} {j : Nat} (h : ¬ (48 ≤ f j ∧ f j ≤ 57)) (h5 : j % 6 ≠ 5) : nb_good t f j = false := by
  cases e : nb_good t f j with
  | false => rfl
  | true => exact absurd (nb_goodD e h5) h
theorem nb_good5 (t : Nat) (f : Nat → Nat) (e : Nat) : nb_good t f (6 * e + 5) = decide (f (6 * e + 5) = 59) := by
  unfold nb_good; rw [if_pos (by omega)]
theorem nb_gd00 {f : Nat → Nat} {e : Nat} (h1 : 48 ≤ f (6 * e + 0)) (h2 : f (6 * e + 0) ≤ 57) : nb_good 0 f (6 * e + 0) = !decide (10 * (0) + (f (6 * e + 0) - 48) < 1) := by
  unfold nb_good
  rw [if_neg (by omega), nb_isD_iff.mpr ⟨h1, h2⟩, Bool.true_and]
  rw [if_pos rfl]
  rw [← decide_not, decide_eq_decide]
  unfold nb_d
  constructor
  · intro h; have := h.1 (by omega); omega
  · intro h; exact ⟨fun _ => by omega, fun z => absurd z (by omega)⟩
theorem nb_ps00 {f : Nat → Nat} {e : Nat} : nb_pv 0 f (6 * e + 0) e 0 = 0 ∧ nb_pv 0 f (6 * e + 0 + 1) e 0 = 10 * (0) + (f (6 * e + 0) - 48) ∧ ∀ e' w', w' < 3 → ¬ (e' = e ∧ w' = 0) → nb_pv 0 f (6 * e + 0 + 1) e' w' = nb_pv 0 f (6 * e + 0) e' w' := by
  refine ⟨?_, ?_, fun e' w' hw h => ?_⟩
  · unfold nb_pv; repeat' split
    all_goals first | rfl | omega
  · simp only [Nat.add_zero]; unfold nb_pv nb_d; repeat' split
    all_goals first | rfl | omega
  · unfold nb_pv
    rcases (show w' = 0 ∨ w' = 1 ∨ w' = 2 by omega) with rfl | rfl | rfl <;> repeat' split
    all_goals first | rfl | omega
theorem nb_gd01 {f : Nat → Nat} {e : Nat} (h1 : 48 ≤ f (6 * e + 1)) (h2 : f (6 * e + 1) ≤ 57) : nb_good 0 f (6 * e + 1) = true := by
  unfold nb_good
  rw [if_neg (by omega), nb_isD_iff.mpr ⟨h1, h2⟩, Bool.true_and]
  rw [if_pos rfl]
  exact decide_eq_true ⟨fun z => absurd z (by omega), fun z => absurd z (by omega)⟩
theorem nb_ps01 {f : Nat → Nat} {e : Nat} : nb_pv 0 f (6 * e + 1) e 1 = 0 ∧ nb_pv 0 f (6 * e + 1 + 1) e 1 = 10 * (0) + (f (6 * e + 1) - 48) ∧ ∀ e' w', w' < 3 → ¬ (e' = e ∧ w' = 1) → nb_pv 0 f (6 * e + 1 + 1) e' w' = nb_pv 0 f (6 * e + 1) e' w' := by
  refine ⟨?_, ?_, fun e' w' hw h => ?_⟩
  · unfold nb_pv; repeat' split
    all_goals first | rfl | omega
  · unfold nb_pv nb_d; repeat' split
    all_goals first | rfl | omega
  · unfold nb_pv
    rcases (show w' = 0 ∨ w' = 1 ∨ w' = 2 by omega) with rfl | rfl | rfl <;> repeat' split
    all_goals first | rfl | omega
theorem nb_gd02 {f : Nat → Nat} {e : Nat} (h1 : 48 ≤ f (6 * e + 2)) (h2 : f (6 * e + 2) ≤ 57) : nb_good 0 f (6 * e + 2) = !decide (10 * (nb_d f (6 * e + 1)) + (f (6 * e + 2) - 48) < 2) := by
  unfold nb_good
  rw [if_neg (by omega), nb_isD_iff.mpr ⟨h1, h2⟩, Bool.true_and]
  rw [if_pos rfl]
  rw [← decide_not, decide_eq_decide]
  unfold nb_d
  rw [show 6 * e + 2 - 1 = 6 * e + 1 by omega]
  constructor
  · intro h; have := h.2 (by omega); omega
  · intro h; exact ⟨fun z => absurd z (by omega), fun _ => by omega⟩
theorem nb_ps02 {f : Nat → Nat} {e : Nat} : nb_pv 0 f (6 * e + 2) e 1 = nb_d f (6 * e + 1) ∧ nb_pv 0 f (6 * e + 2 + 1) e 1 = 10 * (nb_d f (6 * e + 1)) + (f (6 * e + 2) - 48) ∧ ∀ e' w', w' < 3 → ¬ (e' = e ∧ w' = 1) → nb_pv 0 f (6 * e + 2 + 1) e' w' = nb_pv 0 f (6 * e + 2) e' w' := by
  refine ⟨?_, ?_, fun e' w' hw h => ?_⟩
  · unfold nb_pv; repeat' split
    all_goals first | rfl | omega
  · unfold nb_pv nb_d; repeat' split
    all_goals first | rfl | omega
  · unfold nb_pv
    rcases (show w' = 0 ∨ w' = 1 ∨ w' = 2 by omega) with rfl | rfl | rfl <;> repeat' split
    all_goals first | rfl | omega
theorem nb_gd03 {f : Nat → Nat} {e : Nat} (h1 : 48 ≤ f (6 * e + 3)) (h2 : f (6 * e + 3) ≤ 57) : nb_good 0 f (6 * e + 3) = true := by
  unfold nb_good
  rw [if_neg (by omega), nb_isD_iff.mpr ⟨h1, h2⟩, Bool.true_and]
  rw [if_pos rfl]
  exact decide_eq_true ⟨fun z => absurd z (by omega), fun z => absurd z (by omega)⟩
theorem nb_ps03 {f : Nat → Nat} {e : Nat} : nb_pv 0 f (6 * e + 3) e 2 = 0 ∧ nb_pv 0 f (6 * e + 3 + 1) e 2 = 10 * (0) + (f (6 * e + 3) - 48) ∧ ∀ e' w', w' < 3 → ¬ (e' = e ∧ w' = 2) → nb_pv 0 f (6 * e + 3 + 1) e' w' = nb_pv 0 f (6 * e + 3) e' w' := by
  refine ⟨?_, ?_, fun e' w' hw h => ?_⟩
  · unfold nb_pv; repeat' split
    all_goals first | rfl | omega
  · unfold nb_pv nb_d; repeat' split
    all_goals first | rfl | omega
  · unfold nb_pv
    rcases (show w' = 0 ∨ w' = 1 ∨ w' = 2 by omega) with rfl | rfl | rfl <;> repeat' split
    all_goals first | rfl | omega
theorem nb_gd04 {f : Nat → Nat} {e : Nat} (h1 : 48 ≤ f (6 * e + 4)) (h2 : f (6 * e + 4) ≤ 57) : nb_good 0 f (6 * e + 4) = true := by
  unfold nb_good
  rw [if_neg (by omega), nb_isD_iff.mpr ⟨h1, h2⟩, Bool.true_and]
  rw [if_pos rfl]
  exact decide_eq_true ⟨fun z => absurd z (by omega), fun z => absurd z (by omega)⟩
theorem nb_ps04 {f : Nat → Nat} {e : Nat} : nb_pv 0 f (6 * e + 4) e 2 = nb_d f (6 * e + 3) ∧ nb_pv 0 f (6 * e + 4 + 1) e 2 = 10 * (nb_d f (6 * e + 3)) + (f (6 * e + 4) - 48) ∧ ∀ e' w', w' < 3 → ¬ (e' = e ∧ w' = 2) → nb_pv 0 f (6 * e + 4 + 1) e' w' = nb_pv 0 f (6 * e + 4) e' w' := by
  refine ⟨?_, ?_, fun e' w' hw h => ?_⟩
  · unfold nb_pv; repeat' split
    all_goals first | rfl | omega
  · unfold nb_pv nb_d; repeat' split
    all_goals first | rfl | omega
  · unfold nb_pv
    rcases (show w' = 0 ∨ w' = 1 ∨ w' = 2 by omega) with rfl | rfl | rfl <;> repeat' split
    all_goals first | rfl | omega
theorem nb_pk0 {f : Nat → Nat} {e : Nat} : ∀ e' w', w' < 3 → nb_pv 0 f (6 * e + 5 + 1) e' w' = nb_pv 0 f (6 * e + 5) e' w' := by
  intro e' w' hw
  unfold nb_pv
  rcases (show w' = 0 ∨ w' = 1 ∨ w' = 2 by omega) with rfl | rfl | rfl <;> repeat' split
  all_goals first | rfl | omega
/-- the state within the parse, before byte i -/
def nb_pi0 (f : Nat → Nat) (n : Nat) (σ : nw_ST) (i : Nat) (s : nw_ST) : Prop := nb_Ch [(1, 5)] [3] σ s ∧ ((nw_gS s 1 5 = -1 ∧ (∀ j, j < i → nb_good 0 f j = true) ∧ ∀ e w, w < 3 → 3 * e + w < 18 → nw_gA s 3 (3 * e + w) = nI (nb_pv 0 f i e w)) ∨ ∃ b, b < i ∧ b < n ∧ nw_gS s 1 5 = nI b ∧ (∀ j, j < b → nb_good 0 f j = true) ∧ nb_good 0 f b = false)
theorem nb_pf0 {K : nw_ST → Prop} {f : Nat → Nat} {n : Nat} {σ s : nw_ST} (hn : n ≤ 35) (hl : nw_gS σ 1 4 = nI n) (hb : ∀ i, i < n → nw_gA σ 2 i = nI (f i)) (hk : ∀ s, nb_Tx s 1 0 f n → nb_Ch [(1, 5), (1, 6)] [3] σ s → K s) (i : Nat) (hi : i ≤ n ∨ True) (hs : nb_pi0 f n σ i s) (hend : i = n ∨ ∃ b, b < i ∧ b < n ∧ nw_gS s 1 5 = nI b ∧ (∀ j, j < b → nb_good 0 f j = true) ∧ nb_good 0 f b = false) : f2_parse_50 K s 1 := by
  have hls : nw_gS s 1 4 = nI n := (hs.1.1 1 4 (by decide)).trans hl
  have hbs : ∀ i, i < n → nw_gA s 2 i = nI (f i) := fun i hi => ((hs.1.2 2 (by decide)).1 i).trans (hb i hi)
  have hchs : nb_Ch [(1, 5), (1, 6)] [3] σ s := hs.1.up (by simp) (by simp)
  unfold f2_parse_50 f2_parse_84 f2_parse_106
  have bad : ∀ b, b < n → nw_gS s 1 5 = nI b → (∀ j, j < b → nb_good 0 f j = true) → nb_good 0 f b = false → K (nw_sS s 1 6 0) := by
    intro b hbn h5 hg hnb
    have e1 : nb_bad 0 f n = b := nb_fst_eq hbn (fun i hi => by rw [hg i hi]; rfl) (by rw [hnb]; rfl)
    have e2 : nb_well 0 f n = false := decide_eq_false (by rw [e1]; omega)
    refine hk _ ⟨by simp [nb_gSsS, hls], fun i hi => hbs i hi, ?_, ?_, ?_⟩ (hchs.sS _ (by simp))
    · unfold nb_fl; rw [e2, e1]; simp [nb_gSsS, h5]
    · unfold nb_en; rw [e2]; simp [nb_gSsS]; rfl
    · unfold nb_en; rw [e2]; intro i hi; exact absurd hi (Nat.not_lt_zero i)
  rcases hs.2 with ⟨h5, hg, hp⟩ | ⟨b, -, hbn, h5, hg, hnb⟩
  · have hin : i = n := by
      rcases hend with h | ⟨b, -, hbn, h5', -, -⟩
      · exact h
      · exfalso
        rw [h5] at h5'
        have := congrArg Int32.toInt h5'
        rw [nI_toInt (by omega)] at this
        have h9 : (-1 : Int32).toInt = -1 := rfl
        omega
    subst hin
    have e1 : nb_bad 0 f i = i := nb_fst_none (fun j hj => by rw [hg j hj]; rfl)
    rw [h5, hls]
    simp only [nb_gSsS, hls, h5]
    refine ⟨fun _ => ⟨fun z => ?_, fun z => ⟨fun z2 => ?_, fun z2 => ?_⟩⟩, fun z => absurd trivial z⟩
    · have hi0 : i = 0 := by
        rcases Nat.eq_zero_or_pos i with h | h
        · exact h
        · exact absurd z (nI_nle h (by omega))
      subst hi0
      rw [if_pos trivial]
      refine hk _ ⟨by simp [nb_gSsS, hls], fun i hi => hbs i hi, ?_, ?_, ?_⟩ (hchs.sS _ (by simp))
      · simp [nb_gSsS, h5, nb_fl, nb_well]
      · simp [nb_gSsS, nb_en, nb_well]; decide
      · simp [nb_en, nb_well]
    · rw [if_pos trivial]
      have hr : i % 6 = 5 := by
        have h1 := nb_rem6 (i / 6) (i % 6) (by omega) (by omega)
        rw [show 6 * (i / 6) + i % 6 = i by omega] at h1
        rw [h1] at z2
        exact (nI_eq (by omega) (by decide)).mp z2
      have e2 : nb_well 0 f i = true := decide_eq_true (Or.inr ⟨e1, hr⟩)
      have e3 : (nI i + 1) / 6 = nI ((i + 1) / 6) := by rw [nI_1, show (6 : Int32) = nI 6 from rfl, pk_div (by omega) (by decide) (by decide)]
      rw [e3]
      refine hk _ ⟨by simp [nb_gSsS, hls], fun i hi => hbs i hi, ?_, ?_, ?_⟩ (hchs.sS _ (by simp))
      · unfold nb_fl; rw [e2]; simp [nb_gSsS, h5]
      · unfold nb_en; rw [e2]; simp [nb_gSsS]
      · intro e he w hw
        unfold nb_en at he; rw [e2, if_pos rfl] at he
        show nw_gA s 3 (3 * e + w) = _
        rw [hp e w hw (by omega), nb_pvfull (by omega) hw]
    · have hr : ¬ i % 6 = 5 := by
        intro hr
        have h1 := nb_rem6 (i / 6) (i % 6) (by omega) (by omega)
        rw [show 6 * (i / 6) + i % 6 = i by omega, hr] at h1
        exact z2 h1
      have hi0 : i ≠ 0 := fun e => z (by rw [e]; decide)
      have e2 : nb_well 0 f i = false := decide_eq_false (by omega)
      have hne : ¬ nI i = -1 := by
        intro h
        have := congrArg Int32.toInt h
        rw [nI_toInt (by omega)] at this
        have h9 : (-1 : Int32).toInt = -1 := rfl
        omega
      simp only [if_true, show (4 : Nat) ≠ 5 by decide, if_false]
      rw [if_neg hne]
      refine hk _ ⟨by simp [nb_gSsS, hls], fun i hi => hbs i hi, ?_, ?_, ?_⟩ ((hchs.sS _ (by simp)).sS _ (by simp))
      · unfold nb_fl; rw [e2, e1]; simp [nb_gSsS]
      · unfold nb_en; rw [e2]; simp [nb_gSsS]; rfl
      · unfold nb_en; rw [e2]; intro i hi; exact absurd hi (Nat.not_lt_zero i)
  · have hne : ¬ nI b = -1 := by
      intro h
      have := congrArg Int32.toInt h
      rw [nI_toInt (by omega)] at this
      have h9 : (-1 : Int32).toInt = -1 := rfl
      omega
    rw [h5]
    refine ⟨fun z => absurd z hne, fun _ => ?_⟩
    rw [if_neg hne]
    exact bad b hbn h5 hg hnb
theorem nb_parse0 {K : nw_ST → Prop} {f : Nat → Nat} {n : Nat} {σ : nw_ST} (hn : n ≤ 35) (hl : nw_gS σ 1 4 = nI n) (hb : ∀ i, i < n → nw_gA σ 2 i = nI (f i)) (hf : ∀ i, i < n → f i < 256) (hk : ∀ s, nb_Tx s 1 0 f n → nb_Ch [(1, 5), (1, 6)] [3] σ s → K s) : f2_parse K σ 1 := by
  unfold f2_parse
  rw [show nw_rf 1 3 = 3 from rfl]
  refine nb_fill (L := 18) rfl (by decide) (fun s0 hch0 hv0 => ?_)
  have hch1 : nb_Ch [(1, 5)] [3] σ (nw_sS s0 1 5 (-1)) := (hch0.up (by simp) (by simp)).sS _ (by simp)
  refine pk_loop (fun m i s => f2_parse_15 K m s 1 (nI i)) (nb_pi0 f n σ) n 0 _ (Nat.zero_le _) ⟨hch1, Or.inl ⟨by simp [nb_gSsS], fun j hj => absurd hj (Nat.not_lt_zero j), fun e w hw h => ?_⟩⟩ ?_ ?_
  · rw [nb_gAsS, hv0 _ h, nb_pv0]; rfl
  · intro m s hs
    have hls : nw_gS s 1 4 = nI n := (hs.1.1 1 4 (by decide)).trans hl
    show b2_parse_15 K _ s 1 (nI n)
    unfold b2_parse_15
    rw [hls]
    exact ⟨fun _ => nb_pf0 hn hl hb hk n (Or.inr trivial) hs (Or.inl rfl), fun w => absurd (nI_le (Nat.le_refl _) (by omega)) w⟩
  · intro m i s hi hs ih
    have hls : nw_gS s 1 4 = nI n := (hs.1.1 1 4 (by decide)).trans hl
    have hbs : nw_gA s 2 i = nI (f i) := ((hs.1.2 2 (by decide)).1 i).trans (hb i hi)
    have hfi := hf i hi
    show b2_parse_15 K _ s 1 (nI i)
    unfold b2_parse_15 f2_parse_44
    rw [hls]
    refine ⟨fun w => absurd w (nI_ge hi (by omega)), fun _ => ⟨fun h5 => ?_, fun h5 => ?_⟩⟩
    · rcases hs.2 with ⟨-, hg, hp⟩ | ⟨b, -, hbn, h5', -, -⟩
      · have stop : ∀ u, nb_Ch [(1, 5)] [3] σ u → nb_good 0 f i = false → f2_parse_15 K m (nw_sS u 1 5 (nI i)) 1 (nI i + 1) := by
          intro u hu hgi
          rw [nI_1]
          exact ih _ ⟨hu.sS _ (by simp), Or.inr ⟨i, by omega, hi, by simp [nb_gSsS], hg, hgi⟩⟩
        have go : ∀ u, nb_Ch [(1, 5)] [3] σ u → nw_gS u 1 5 = -1 → nb_good 0 f i = true → (∀ e w, w < 3 → 3 * e + w < 18 → nw_gA u 3 (3 * e + w) = nI (nb_pv 0 f (i + 1) e w)) → f2_parse_15 K m u 1 (nI i + 1) := by
          intro u hu hu5 hgi hpu
          rw [nI_1]
          refine ih _ ⟨hu, Or.inl ⟨hu5, fun j hj => ?_, hpu⟩⟩
          by_cases e : j = i
          · rw [e]; exact hgi
          · exact hg j (by omega)
        obtain ⟨e, p, hp6, rfl⟩ : ∃ e p, p < 6 ∧ i = 6 * e + p := ⟨i / 6, i % 6, by omega, by omega⟩
        rcases (show p = 0 ∨ p = 1 ∨ p = 2 ∨ p = 3 ∨ p = 4 ∨ p = 5 by omega) with rfl | rfl | rfl | rfl | rfl | rfl

        · obtain ⟨p1, p2, p3⟩ := nb_ps00 (f := f) (e := e)
          have hold := hp e 0 (by decide) (by omega)
          rw [p1] at hold
          have ho : (0) < 10 := by decide
          refine nb_go00 (by omega) hbs hfi hold ho (fun hd => ⟨fun _ => stop s hs.1 (nb_goodN hd (by omega)), fun z => absurd rfl z⟩) (fun hd1 hd2 => ?_)
          have hgd := nb_gd00 (f := f) (e := e) hd1 hd2
          have hchu : nb_Ch [(1, 5)] [3] σ (nw_sA s 3 (3 * e + 0) (nI (10 * (0) + (f (6 * e + 0) - 48)))) := hs.1.sA _ _ (by simp)
          have hpu : ∀ e' w', w' < 3 → 3 * e' + w' < 18 → nw_gA (nw_sA s 3 (3 * e + 0) (nI (10 * (0) + (f (6 * e + 0) - 48)))) 3 (3 * e' + w') = nI (nb_pv 0 f (6 * e + 0 + 1) e' w') := by
            intro e' w' hw' hlt
            rw [nb_gAsA, if_pos rfl]
            by_cases hee : e' = e ∧ w' = 0
            · rw [hee.1, hee.2, if_pos rfl, p2]
            · rw [if_neg (by omega), p3 e' w' hw' hee, hp e' w' hw' hlt]
          by_cases hlt : 10 * (0) + (f (6 * e + 0) - 48) < 1
          · rw [if_pos hlt]
            exact ⟨fun _ => stop _ hchu (by rw [hgd, decide_eq_true hlt]; rfl), fun z => absurd rfl z⟩
          · rw [if_neg hlt]
            exact ⟨fun z => absurd z (by decide), fun _ => go _ hchu h5 (by rw [hgd, decide_eq_false hlt]; rfl) hpu⟩
        · obtain ⟨p1, p2, p3⟩ := nb_ps01 (f := f) (e := e)
          have hold := hp e 1 (by decide) (by omega)
          rw [p1] at hold
          have ho : (0) < 10 := by decide
          refine nb_go01 (by omega) hbs hfi hold ho (fun hd => ⟨fun _ => stop s hs.1 (nb_goodN hd (by omega)), fun z => absurd rfl z⟩) (fun hd1 hd2 => ?_)
          have hgd := nb_gd01 (f := f) (e := e) hd1 hd2
          have hchu : nb_Ch [(1, 5)] [3] σ (nw_sA s 3 (3 * e + 1) (nI (10 * (0) + (f (6 * e + 1) - 48)))) := hs.1.sA _ _ (by simp)
          have hpu : ∀ e' w', w' < 3 → 3 * e' + w' < 18 → nw_gA (nw_sA s 3 (3 * e + 1) (nI (10 * (0) + (f (6 * e + 1) - 48)))) 3 (3 * e' + w') = nI (nb_pv 0 f (6 * e + 1 + 1) e' w') := by
            intro e' w' hw' hlt
            rw [nb_gAsA, if_pos rfl]
            by_cases hee : e' = e ∧ w' = 1
            · rw [hee.1, hee.2, if_pos rfl, p2]
            · rw [if_neg (by omega), p3 e' w' hw' hee, hp e' w' hw' hlt]
          exact ⟨fun z => absurd z (by decide), fun _ => go _ hchu h5 hgd hpu⟩
        · obtain ⟨p1, p2, p3⟩ := nb_ps02 (f := f) (e := e)
          have hold := hp e 1 (by decide) (by omega)
          rw [p1] at hold
          have ho : (nb_d f (6 * e + 1)) < 10 := by
            have h9 := nb_goodD (hg (6 * e + 1) (by omega)) (by omega)
            unfold nb_d; omega
          refine nb_go02 (by omega) hbs hfi hold ho (fun hd => ⟨fun _ => stop s hs.1 (nb_goodN hd (by omega)), fun z => absurd rfl z⟩) (fun hd1 hd2 => ?_)
          have hgd := nb_gd02 (f := f) (e := e) hd1 hd2
          have hchu : nb_Ch [(1, 5)] [3] σ (nw_sA s 3 (3 * e + 1) (nI (10 * (nb_d f (6 * e + 1)) + (f (6 * e + 2) - 48)))) := hs.1.sA _ _ (by simp)
          have hpu : ∀ e' w', w' < 3 → 3 * e' + w' < 18 → nw_gA (nw_sA s 3 (3 * e + 1) (nI (10 * (nb_d f (6 * e + 1)) + (f (6 * e + 2) - 48)))) 3 (3 * e' + w') = nI (nb_pv 0 f (6 * e + 2 + 1) e' w') := by
            intro e' w' hw' hlt
            rw [nb_gAsA, if_pos rfl]
            by_cases hee : e' = e ∧ w' = 1
            · rw [hee.1, hee.2, if_pos rfl, p2]
            · rw [if_neg (by omega), p3 e' w' hw' hee, hp e' w' hw' hlt]
          by_cases hlt : 10 * (nb_d f (6 * e + 1)) + (f (6 * e + 2) - 48) < 2
          · rw [if_pos hlt]
            exact ⟨fun _ => stop _ hchu (by rw [hgd, decide_eq_true hlt]; rfl), fun z => absurd rfl z⟩
          · rw [if_neg hlt]
            exact ⟨fun z => absurd z (by decide), fun _ => go _ hchu h5 (by rw [hgd, decide_eq_false hlt]; rfl) hpu⟩
        · obtain ⟨p1, p2, p3⟩ := nb_ps03 (f := f) (e := e)
          have hold := hp e 2 (by decide) (by omega)
          rw [p1] at hold
          have ho : (0) < 10 := by decide
          refine nb_go03 (by omega) hbs hfi hold ho (fun hd => ⟨fun _ => stop s hs.1 (nb_goodN hd (by omega)), fun z => absurd rfl z⟩) (fun hd1 hd2 => ?_)
          have hgd := nb_gd03 (f := f) (e := e) hd1 hd2
          have hchu : nb_Ch [(1, 5)] [3] σ (nw_sA s 3 (3 * e + 2) (nI (10 * (0) + (f (6 * e + 3) - 48)))) := hs.1.sA _ _ (by simp)
          have hpu : ∀ e' w', w' < 3 → 3 * e' + w' < 18 → nw_gA (nw_sA s 3 (3 * e + 2) (nI (10 * (0) + (f (6 * e + 3) - 48)))) 3 (3 * e' + w') = nI (nb_pv 0 f (6 * e + 3 + 1) e' w') := by
            intro e' w' hw' hlt
            rw [nb_gAsA, if_pos rfl]
            by_cases hee : e' = e ∧ w' = 2
            · rw [hee.1, hee.2, if_pos rfl, p2]
            · rw [if_neg (by omega), p3 e' w' hw' hee, hp e' w' hw' hlt]
          exact ⟨fun z => absurd z (by decide), fun _ => go _ hchu h5 hgd hpu⟩
        · obtain ⟨p1, p2, p3⟩ := nb_ps04 (f := f) (e := e)
          have hold := hp e 2 (by decide) (by omega)
          rw [p1] at hold
          have ho : (nb_d f (6 * e + 3)) < 10 := by
            have h9 := nb_goodD (hg (6 * e + 3) (by omega)) (by omega)
            unfold nb_d; omega
          refine nb_go04 (by omega) hbs hfi hold ho (fun hd => ⟨fun _ => stop s hs.1 (nb_goodN hd (by omega)), fun z => absurd rfl z⟩) (fun hd1 hd2 => ?_)
          have hgd := nb_gd04 (f := f) (e := e) hd1 hd2
          have hchu : nb_Ch [(1, 5)] [3] σ (nw_sA s 3 (3 * e + 2) (nI (10 * (nb_d f (6 * e + 3)) + (f (6 * e + 4) - 48)))) := hs.1.sA _ _ (by simp)
          have hpu : ∀ e' w', w' < 3 → 3 * e' + w' < 18 → nw_gA (nw_sA s 3 (3 * e + 2) (nI (10 * (nb_d f (6 * e + 3)) + (f (6 * e + 4) - 48)))) 3 (3 * e' + w') = nI (nb_pv 0 f (6 * e + 4 + 1) e' w') := by
            intro e' w' hw' hlt
            rw [nb_gAsA, if_pos rfl]
            by_cases hee : e' = e ∧ w' = 2
            · rw [hee.1, hee.2, if_pos rfl, p2]
            · rw [if_neg (by omega), p3 e' w' hw' hee, hp e' w' hw' hlt]
          rw [if_neg (Nat.not_lt_zero _)]
          exact ⟨fun z => absurd z (by decide), fun _ => go _ hchu h5 hgd hpu⟩
        · refine nb_go05 (by omega) hbs hfi ?_
          have hgd := nb_good5 0 f e
          by_cases h59 : f (6 * e + 5) = 59
          · rw [if_pos h59]
            exact ⟨fun z => absurd z (by decide), fun _ => go s hs.1 h5 (by rw [hgd, decide_eq_true h59]) (fun e' w' hw' hlt => by rw [nb_pk0 e' w' hw']; exact hp e' w' hw' hlt)⟩
          · rw [if_neg h59]
            exact ⟨fun _ => stop s hs.1 (by rw [hgd, decide_eq_false h59]), fun z => absurd rfl z⟩
      · exfalso
        rw [h5] at h5'
        have := congrArg Int32.toInt h5'
        rw [nI_toInt (by omega)] at this
        have h9 : (-1 : Int32).toInt = -1 := rfl
        omega
    · rcases hs.2 with ⟨h5', -, -⟩ | hbad
      · exact absurd h5' h5
      · exact nb_pf0 hn hl hb hk i (Or.inr trivial) hs (Or.inr hbad)
theorem nb_gd10 {f : Nat → Nat} {e : Nat} (h1 : 48 ≤ f (6 * e + 0)) (h2 : f (6 * e + 0) ≤ 57) : nb_good 1 f (6 * e + 0) = true := by
  unfold nb_good
  rw [if_neg (by omega), nb_isD_iff.mpr ⟨h1, h2⟩, Bool.true_and]
  rw [if_neg (by decide)]
  exact decide_eq_true (fun z => absurd z (by omega))
theorem nb_ps10 {f : Nat → Nat} {e : Nat} : nb_pv 1 f (6 * e + 0) e 0 = 0 ∧ nb_pv 1 f (6 * e + 0 + 1) e 0 = 10 * (0) + (f (6 * e + 0) - 48) ∧ ∀ e' w', w' < 3 → ¬ (e' = e ∧ w' = 0) → nb_pv 1 f (6 * e + 0 + 1) e' w' = nb_pv 1 f (6 * e + 0) e' w' := by
  refine ⟨?_, ?_, fun e' w' hw h => ?_⟩
  · unfold nb_pv; repeat' split
    all_goals first | rfl | omega
  · simp only [Nat.add_zero]; unfold nb_pv nb_d; repeat' split
    all_goals first | rfl | omega
  · unfold nb_pv
    rcases (show w' = 0 ∨ w' = 1 ∨ w' = 2 by omega) with rfl | rfl | rfl <;> repeat' split
    all_goals first | rfl | omega
theorem nb_gd11 {f : Nat → Nat} {e : Nat} (h1 : 48 ≤ f (6 * e + 1)) (h2 : f (6 * e + 1) ≤ 57) : nb_good 1 f (6 * e + 1) = !decide (10 * (nb_d f (6 * e + 0)) + (f (6 * e + 1) - 48) < 1) := by
  unfold nb_good
  rw [if_neg (by omega), nb_isD_iff.mpr ⟨h1, h2⟩, Bool.true_and]
  rw [if_neg (by decide)]
  rw [← decide_not, decide_eq_decide]
  unfold nb_d
  rw [show 6 * e + 1 - 1 = 6 * e + 0 by omega]
  constructor
  · intro h; have := h (by omega); omega
  · intro h _; omega
theorem nb_ps11 {f : Nat → Nat} {e : Nat} : nb_pv 1 f (6 * e + 1) e 0 = nb_d f (6 * e + 0) ∧ nb_pv 1 f (6 * e + 1 + 1) e 0 = 10 * (nb_d f (6 * e + 0)) + (f (6 * e + 1) - 48) ∧ ∀ e' w', w' < 3 → ¬ (e' = e ∧ w' = 0) → nb_pv 1 f (6 * e + 1 + 1) e' w' = nb_pv 1 f (6 * e + 1) e' w' := by
  refine ⟨?_, ?_, fun e' w' hw h => ?_⟩
  · unfold nb_pv; repeat' split
    all_goals first | rfl | omega
  · unfold nb_pv nb_d; repeat' split
    all_goals first | rfl | omega
  · unfold nb_pv
    rcases (show w' = 0 ∨ w' = 1 ∨ w' = 2 by omega) with rfl | rfl | rfl <;> repeat' split
    all_goals first | rfl | omega
theorem nb_gd12 {f : Nat → Nat} {e : Nat} (h1 : 48 ≤ f (6 * e + 2)) (h2 : f (6 * e + 2) ≤ 57) : nb_good 1 f (6 * e + 2) = true := by
  unfold nb_good
  rw [if_neg (by omega), nb_isD_iff.mpr ⟨h1, h2⟩, Bool.true_and]
  rw [if_neg (by decide)]
  exact decide_eq_true (fun z => absurd z (by omega))
theorem nb_ps12 {f : Nat → Nat} {e : Nat} : nb_pv 1 f (6 * e + 2) e 1 = 0 ∧ nb_pv 1 f (6 * e + 2 + 1) e 1 = 10 * (0) + (f (6 * e + 2) - 48) ∧ ∀ e' w', w' < 3 → ¬ (e' = e ∧ w' = 1) → nb_pv 1 f (6 * e + 2 + 1) e' w' = nb_pv 1 f (6 * e + 2) e' w' := by
  refine ⟨?_, ?_, fun e' w' hw h => ?_⟩
  · unfold nb_pv; repeat' split
    all_goals first | rfl | omega
  · unfold nb_pv nb_d; repeat' split
    all_goals first | rfl | omega
  · unfold nb_pv
    rcases (show w' = 0 ∨ w' = 1 ∨ w' = 2 by omega) with rfl | rfl | rfl <;> repeat' split
    all_goals first | rfl | omega
theorem nb_gd13 {f : Nat → Nat} {e : Nat} (h1 : 48 ≤ f (6 * e + 3)) (h2 : f (6 * e + 3) ≤ 57) : nb_good 1 f (6 * e + 3) = true := by
  unfold nb_good
  rw [if_neg (by omega), nb_isD_iff.mpr ⟨h1, h2⟩, Bool.true_and]
  rw [if_neg (by decide)]
  exact decide_eq_true (fun z => absurd z (by omega))
theorem nb_ps13 {f : Nat → Nat} {e : Nat} : nb_pv 1 f (6 * e + 3) e 1 = nb_d f (6 * e + 2) ∧ nb_pv 1 f (6 * e + 3 + 1) e 1 = 10 * (nb_d f (6 * e + 2)) + (f (6 * e + 3) - 48) ∧ ∀ e' w', w' < 3 → ¬ (e' = e ∧ w' = 1) → nb_pv 1 f (6 * e + 3 + 1) e' w' = nb_pv 1 f (6 * e + 3) e' w' := by
  refine ⟨?_, ?_, fun e' w' hw h => ?_⟩
  · unfold nb_pv; repeat' split
    all_goals first | rfl | omega
  · unfold nb_pv nb_d; repeat' split
    all_goals first | rfl | omega
  · unfold nb_pv
    rcases (show w' = 0 ∨ w' = 1 ∨ w' = 2 by omega) with rfl | rfl | rfl <;> repeat' split
    all_goals first | rfl | omega
theorem nb_gd14 {f : Nat → Nat} {e : Nat} (h1 : 48 ≤ f (6 * e + 4)) (h2 : f (6 * e + 4) ≤ 57) : nb_good 1 f (6 * e + 4) = true := by
  unfold nb_good
  rw [if_neg (by omega), nb_isD_iff.mpr ⟨h1, h2⟩, Bool.true_and]
  rw [if_neg (by decide)]
  exact decide_eq_true (fun z => absurd z (by omega))
theorem nb_ps14 {f : Nat → Nat} {e : Nat} : nb_pv 1 f (6 * e + 4) e 2 = 0 ∧ nb_pv 1 f (6 * e + 4 + 1) e 2 = 10 * (0) + (f (6 * e + 4) - 48) ∧ ∀ e' w', w' < 3 → ¬ (e' = e ∧ w' = 2) → nb_pv 1 f (6 * e + 4 + 1) e' w' = nb_pv 1 f (6 * e + 4) e' w' := by
  refine ⟨?_, ?_, fun e' w' hw h => ?_⟩
  · unfold nb_pv; repeat' split
    all_goals first | rfl | omega
  · unfold nb_pv nb_d; repeat' split
    all_goals first | rfl | omega
  · unfold nb_pv
    rcases (show w' = 0 ∨ w' = 1 ∨ w' = 2 by omega) with rfl | rfl | rfl <;> repeat' split
    all_goals first | rfl | omega
theorem nb_pk1 {f : Nat → Nat} {e : Nat} : ∀ e' w', w' < 3 → nb_pv 1 f (6 * e + 5 + 1) e' w' = nb_pv 1 f (6 * e + 5) e' w' := by
  intro e' w' hw
  unfold nb_pv
  rcases (show w' = 0 ∨ w' = 1 ∨ w' = 2 by omega) with rfl | rfl | rfl <;> repeat' split
  all_goals first | rfl | omega
/-- the state within the parse, before byte i -/
def nb_pi1 (f : Nat → Nat) (n : Nat) (σ : nw_ST) (i : Nat) (s : nw_ST) : Prop := nb_Ch [(4, 5)] [6] σ s ∧ ((nw_gS s 4 5 = -1 ∧ (∀ j, j < i → nb_good 1 f j = true) ∧ ∀ e w, w < 3 → 3 * e + w < 24 → nw_gA s 6 (3 * e + w) = nI (nb_pv 1 f i e w)) ∨ ∃ b, b < i ∧ b < n ∧ nw_gS s 4 5 = nI b ∧ (∀ j, j < b → nb_good 1 f j = true) ∧ nb_good 1 f b = false)
theorem nb_pf1 {K : nw_ST → Prop} {f : Nat → Nat} {n : Nat} {σ s : nw_ST} (hn : n ≤ 47) (hl : nw_gS σ 4 4 = nI n) (hb : ∀ i, i < n → nw_gA σ 5 i = nI (f i)) (hk : ∀ s, nb_Tx s 4 1 f n → nb_Ch [(4, 5), (4, 6)] [6] σ s → K s) (i : Nat) (hi : i ≤ n ∨ True) (hs : nb_pi1 f n σ i s) (hend : i = n ∨ ∃ b, b < i ∧ b < n ∧ nw_gS s 4 5 = nI b ∧ (∀ j, j < b → nb_good 1 f j = true) ∧ nb_good 1 f b = false) : f2_parse_50 K s 4 := by
  have hls : nw_gS s 4 4 = nI n := (hs.1.1 4 4 (by decide)).trans hl
  have hbs : ∀ i, i < n → nw_gA s 5 i = nI (f i) := fun i hi => ((hs.1.2 5 (by decide)).1 i).trans (hb i hi)
  have hchs : nb_Ch [(4, 5), (4, 6)] [6] σ s := hs.1.up (by simp) (by simp)
  unfold f2_parse_50 f2_parse_84 f2_parse_106
  have bad : ∀ b, b < n → nw_gS s 4 5 = nI b → (∀ j, j < b → nb_good 1 f j = true) → nb_good 1 f b = false → K (nw_sS s 4 6 0) := by
    intro b hbn h5 hg hnb
    have e1 : nb_bad 1 f n = b := nb_fst_eq hbn (fun i hi => by rw [hg i hi]; rfl) (by rw [hnb]; rfl)
    have e2 : nb_well 1 f n = false := decide_eq_false (by rw [e1]; omega)
    refine hk _ ⟨by simp [nb_gSsS, hls], fun i hi => hbs i hi, ?_, ?_, ?_⟩ (hchs.sS _ (by simp))
    · unfold nb_fl; rw [e2, e1]; simp [nb_gSsS, h5]
    · unfold nb_en; rw [e2]; simp [nb_gSsS]; rfl
    · unfold nb_en; rw [e2]; intro i hi; exact absurd hi (Nat.not_lt_zero i)
  rcases hs.2 with ⟨h5, hg, hp⟩ | ⟨b, -, hbn, h5, hg, hnb⟩
  · have hin : i = n := by
      rcases hend with h | ⟨b, -, hbn, h5', -, -⟩
      · exact h
      · exfalso
        rw [h5] at h5'
        have := congrArg Int32.toInt h5'
        rw [nI_toInt (by omega)] at this
        have h9 : (-1 : Int32).toInt = -1 := rfl
        omega
    subst hin
    have e1 : nb_bad 1 f i = i := nb_fst_none (fun j hj => by rw [hg j hj]; rfl)
    rw [h5, hls]
    simp only [nb_gSsS, hls, h5]
    refine ⟨fun _ => ⟨fun z => ?_, fun z => ⟨fun z2 => ?_, fun z2 => ?_⟩⟩, fun z => absurd trivial z⟩
    · have hi0 : i = 0 := by
        rcases Nat.eq_zero_or_pos i with h | h
        · exact h
        · exact absurd z (nI_nle h (by omega))
      subst hi0
      rw [if_pos trivial]
      refine hk _ ⟨by simp [nb_gSsS, hls], fun i hi => hbs i hi, ?_, ?_, ?_⟩ (hchs.sS _ (by simp))
      · simp [nb_gSsS, h5, nb_fl, nb_well]
      · simp [nb_gSsS, nb_en, nb_well]; decide
      · simp [nb_en, nb_well]
    · rw [if_pos trivial]
      have hr : i % 6 = 5 := by
        have h1 := nb_rem6 (i / 6) (i % 6) (by omega) (by omega)
        rw [show 6 * (i / 6) + i % 6 = i by omega] at h1
        rw [h1] at z2
        exact (nI_eq (by omega) (by decide)).mp z2
      have e2 : nb_well 1 f i = true := decide_eq_true (Or.inr ⟨e1, hr⟩)
      have e3 : (nI i + 1) / 6 = nI ((i + 1) / 6) := by rw [nI_1, show (6 : Int32) = nI 6 from rfl, pk_div (by omega) (by decide) (by decide)]
      rw [e3]
      refine hk _ ⟨by simp [nb_gSsS, hls], fun i hi => hbs i hi, ?_, ?_, ?_⟩ (hchs.sS _ (by simp))
      · unfold nb_fl; rw [e2]; simp [nb_gSsS, h5]
      · unfold nb_en; rw [e2]; simp [nb_gSsS]
      · intro e he w hw
        unfold nb_en at he; rw [e2, if_pos rfl] at he
        show nw_gA s 6 (3 * e + w) = _
        rw [hp e w hw (by omega), nb_pvfull (by omega) hw]
    · have hr : ¬ i % 6 = 5 := by
        intro hr
        have h1 := nb_rem6 (i / 6) (i % 6) (by omega) (by omega)
        rw [show 6 * (i / 6) + i % 6 = i by omega, hr] at h1
        exact z2 h1
      have hi0 : i ≠ 0 := fun e => z (by rw [e]; decide)
      have e2 : nb_well 1 f i = false := decide_eq_false (by omega)
      have hne : ¬ nI i = -1 := by
        intro h
        have := congrArg Int32.toInt h
        rw [nI_toInt (by omega)] at this
        have h9 : (-1 : Int32).toInt = -1 := rfl
        omega
      simp only [if_true, show (4 : Nat) ≠ 5 by decide, if_false]
      rw [if_neg hne]
      refine hk _ ⟨by simp [nb_gSsS, hls], fun i hi => hbs i hi, ?_, ?_, ?_⟩ ((hchs.sS _ (by simp)).sS _ (by simp))
      · unfold nb_fl; rw [e2, e1]; simp [nb_gSsS]
      · unfold nb_en; rw [e2]; simp [nb_gSsS]; rfl
      · unfold nb_en; rw [e2]; intro i hi; exact absurd hi (Nat.not_lt_zero i)
  · have hne : ¬ nI b = -1 := by
      intro h
      have := congrArg Int32.toInt h
      rw [nI_toInt (by omega)] at this
      have h9 : (-1 : Int32).toInt = -1 := rfl
      omega
    rw [h5]
    refine ⟨fun z => absurd z hne, fun _ => ?_⟩
    rw [if_neg hne]
    exact bad b hbn h5 hg hnb
theorem nb_parse1 {K : nw_ST → Prop} {f : Nat → Nat} {n : Nat} {σ : nw_ST} (hn : n ≤ 47) (hl : nw_gS σ 4 4 = nI n) (hb : ∀ i, i < n → nw_gA σ 5 i = nI (f i)) (hf : ∀ i, i < n → f i < 256) (hk : ∀ s, nb_Tx s 4 1 f n → nb_Ch [(4, 5), (4, 6)] [6] σ s → K s) : f2_parse K σ 4 := by
  unfold f2_parse
  rw [show nw_rf 4 3 = 6 from rfl]
  refine nb_fill (L := 24) rfl (by decide) (fun s0 hch0 hv0 => ?_)
  have hch1 : nb_Ch [(4, 5)] [6] σ (nw_sS s0 4 5 (-1)) := (hch0.up (by simp) (by simp)).sS _ (by simp)
  refine pk_loop (fun m i s => f2_parse_15 K m s 4 (nI i)) (nb_pi1 f n σ) n 0 _ (Nat.zero_le _) ⟨hch1, Or.inl ⟨by simp [nb_gSsS], fun j hj => absurd hj (Nat.not_lt_zero j), fun e w hw h => ?_⟩⟩ ?_ ?_
  · rw [nb_gAsS, hv0 _ h, nb_pv0]; rfl
  · intro m s hs
    have hls : nw_gS s 4 4 = nI n := (hs.1.1 4 4 (by decide)).trans hl
    show b2_parse_15 K _ s 4 (nI n)
    unfold b2_parse_15
    rw [hls]
    exact ⟨fun _ => nb_pf1 hn hl hb hk n (Or.inr trivial) hs (Or.inl rfl), fun w => absurd (nI_le (Nat.le_refl _) (by omega)) w⟩
  · intro m i s hi hs ih
    have hls : nw_gS s 4 4 = nI n := (hs.1.1 4 4 (by decide)).trans hl
    have hbs : nw_gA s 5 i = nI (f i) := ((hs.1.2 5 (by decide)).1 i).trans (hb i hi)
    have hfi := hf i hi
    show b2_parse_15 K _ s 4 (nI i)
    unfold b2_parse_15 f2_parse_44
    rw [hls]
    refine ⟨fun w => absurd w (nI_ge hi (by omega)), fun _ => ⟨fun h5 => ?_, fun h5 => ?_⟩⟩
    · rcases hs.2 with ⟨-, hg, hp⟩ | ⟨b, -, hbn, h5', -, -⟩
      · have stop : ∀ u, nb_Ch [(4, 5)] [6] σ u → nb_good 1 f i = false → f2_parse_15 K m (nw_sS u 4 5 (nI i)) 4 (nI i + 1) := by
          intro u hu hgi
          rw [nI_1]
          exact ih _ ⟨hu.sS _ (by simp), Or.inr ⟨i, by omega, hi, by simp [nb_gSsS], hg, hgi⟩⟩
        have go : ∀ u, nb_Ch [(4, 5)] [6] σ u → nw_gS u 4 5 = -1 → nb_good 1 f i = true → (∀ e w, w < 3 → 3 * e + w < 24 → nw_gA u 6 (3 * e + w) = nI (nb_pv 1 f (i + 1) e w)) → f2_parse_15 K m u 4 (nI i + 1) := by
          intro u hu hu5 hgi hpu
          rw [nI_1]
          refine ih _ ⟨hu, Or.inl ⟨hu5, fun j hj => ?_, hpu⟩⟩
          by_cases e : j = i
          · rw [e]; exact hgi
          · exact hg j (by omega)
        obtain ⟨e, p, hp6, rfl⟩ : ∃ e p, p < 6 ∧ i = 6 * e + p := ⟨i / 6, i % 6, by omega, by omega⟩
        rcases (show p = 0 ∨ p = 1 ∨ p = 2 ∨ p = 3 ∨ p = 4 ∨ p = 5 by omega) with rfl | rfl | rfl | rfl | rfl | rfl

        · obtain ⟨p1, p2, p3⟩ := nb_ps10 (f := f) (e := e)
          have hold := hp e 0 (by decide) (by omega)
          rw [p1] at hold
          have ho : (0) < 10 := by decide
          refine nb_go10 (by omega) hbs hfi hold ho (fun hd => ⟨fun _ => stop s hs.1 (nb_goodN hd (by omega)), fun z => absurd rfl z⟩) (fun hd1 hd2 => ?_)
          have hgd := nb_gd10 (f := f) (e := e) hd1 hd2
          have hchu : nb_Ch [(4, 5)] [6] σ (nw_sA s 6 (3 * e + 0) (nI (10 * (0) + (f (6 * e + 0) - 48)))) := hs.1.sA _ _ (by simp)
          have hpu : ∀ e' w', w' < 3 → 3 * e' + w' < 24 → nw_gA (nw_sA s 6 (3 * e + 0) (nI (10 * (0) + (f (6 * e + 0) - 48)))) 6 (3 * e' + w') = nI (nb_pv 1 f (6 * e + 0 + 1) e' w') := by
            intro e' w' hw' hlt
            rw [nb_gAsA, if_pos rfl]
            by_cases hee : e' = e ∧ w' = 0
            · rw [hee.1, hee.2, if_pos rfl, p2]
            · rw [if_neg (by omega), p3 e' w' hw' hee, hp e' w' hw' hlt]
          exact ⟨fun z => absurd z (by decide), fun _ => go _ hchu h5 hgd hpu⟩
        · obtain ⟨p1, p2, p3⟩ := nb_ps11 (f := f) (e := e)
          have hold := hp e 0 (by decide) (by omega)
          rw [p1] at hold
          have ho : (nb_d f (6 * e + 0)) < 10 := by
            have h9 := nb_goodD (hg (6 * e + 0) (by omega)) (by omega)
            unfold nb_d; omega
          refine nb_go11 (by omega) hbs hfi hold ho (fun hd => ⟨fun _ => stop s hs.1 (nb_goodN hd (by omega)), fun z => absurd rfl z⟩) (fun hd1 hd2 => ?_)
          have hgd := nb_gd11 (f := f) (e := e) hd1 hd2
          have hchu : nb_Ch [(4, 5)] [6] σ (nw_sA s 6 (3 * e + 0) (nI (10 * (nb_d f (6 * e + 0)) + (f (6 * e + 1) - 48)))) := hs.1.sA _ _ (by simp)
          have hpu : ∀ e' w', w' < 3 → 3 * e' + w' < 24 → nw_gA (nw_sA s 6 (3 * e + 0) (nI (10 * (nb_d f (6 * e + 0)) + (f (6 * e + 1) - 48)))) 6 (3 * e' + w') = nI (nb_pv 1 f (6 * e + 1 + 1) e' w') := by
            intro e' w' hw' hlt
            rw [nb_gAsA, if_pos rfl]
            by_cases hee : e' = e ∧ w' = 0
            · rw [hee.1, hee.2, if_pos rfl, p2]
            · rw [if_neg (by omega), p3 e' w' hw' hee, hp e' w' hw' hlt]
          by_cases hlt : 10 * (nb_d f (6 * e + 0)) + (f (6 * e + 1) - 48) < 1
          · rw [if_pos hlt]
            exact ⟨fun _ => stop _ hchu (by rw [hgd, decide_eq_true hlt]; rfl), fun z => absurd rfl z⟩
          · rw [if_neg hlt]
            exact ⟨fun z => absurd z (by decide), fun _ => go _ hchu h5 (by rw [hgd, decide_eq_false hlt]; rfl) hpu⟩
        · obtain ⟨p1, p2, p3⟩ := nb_ps12 (f := f) (e := e)
          have hold := hp e 1 (by decide) (by omega)
          rw [p1] at hold
          have ho : (0) < 10 := by decide
          refine nb_go12 (by omega) hbs hfi hold ho (fun hd => ⟨fun _ => stop s hs.1 (nb_goodN hd (by omega)), fun z => absurd rfl z⟩) (fun hd1 hd2 => ?_)
          have hgd := nb_gd12 (f := f) (e := e) hd1 hd2
          have hchu : nb_Ch [(4, 5)] [6] σ (nw_sA s 6 (3 * e + 1) (nI (10 * (0) + (f (6 * e + 2) - 48)))) := hs.1.sA _ _ (by simp)
          have hpu : ∀ e' w', w' < 3 → 3 * e' + w' < 24 → nw_gA (nw_sA s 6 (3 * e + 1) (nI (10 * (0) + (f (6 * e + 2) - 48)))) 6 (3 * e' + w') = nI (nb_pv 1 f (6 * e + 2 + 1) e' w') := by
            intro e' w' hw' hlt
            rw [nb_gAsA, if_pos rfl]
            by_cases hee : e' = e ∧ w' = 1
            · rw [hee.1, hee.2, if_pos rfl, p2]
            · rw [if_neg (by omega), p3 e' w' hw' hee, hp e' w' hw' hlt]
          exact ⟨fun z => absurd z (by decide), fun _ => go _ hchu h5 hgd hpu⟩
        · obtain ⟨p1, p2, p3⟩ := nb_ps13 (f := f) (e := e)
          have hold := hp e 1 (by decide) (by omega)
          rw [p1] at hold
          have ho : (nb_d f (6 * e + 2)) < 10 := by
            have h9 := nb_goodD (hg (6 * e + 2) (by omega)) (by omega)
            unfold nb_d; omega
          refine nb_go13 (by omega) hbs hfi hold ho (fun hd => ⟨fun _ => stop s hs.1 (nb_goodN hd (by omega)), fun z => absurd rfl z⟩) (fun hd1 hd2 => ?_)
          have hgd := nb_gd13 (f := f) (e := e) hd1 hd2
          have hchu : nb_Ch [(4, 5)] [6] σ (nw_sA s 6 (3 * e + 1) (nI (10 * (nb_d f (6 * e + 2)) + (f (6 * e + 3) - 48)))) := hs.1.sA _ _ (by simp)
          have hpu : ∀ e' w', w' < 3 → 3 * e' + w' < 24 → nw_gA (nw_sA s 6 (3 * e + 1) (nI (10 * (nb_d f (6 * e + 2)) + (f (6 * e + 3) - 48)))) 6 (3 * e' + w') = nI (nb_pv 1 f (6 * e + 3 + 1) e' w') := by
            intro e' w' hw' hlt
            rw [nb_gAsA, if_pos rfl]
            by_cases hee : e' = e ∧ w' = 1
            · rw [hee.1, hee.2, if_pos rfl, p2]
            · rw [if_neg (by omega), p3 e' w' hw' hee, hp e' w' hw' hlt]
          rw [if_neg (Nat.not_lt_zero _)]
          exact ⟨fun z => absurd z (by decide), fun _ => go _ hchu h5 hgd hpu⟩
        · obtain ⟨p1, p2, p3⟩ := nb_ps14 (f := f) (e := e)
          have hold := hp e 2 (by decide) (by omega)
          rw [p1] at hold
          have ho : (0) < 10 := by decide
          refine nb_go14 (by omega) hbs hfi hold ho (fun hd => ⟨fun _ => stop s hs.1 (nb_goodN hd (by omega)), fun z => absurd rfl z⟩) (fun hd1 hd2 => ?_)
          have hgd := nb_gd14 (f := f) (e := e) hd1 hd2
          have hchu : nb_Ch [(4, 5)] [6] σ (nw_sA s 6 (3 * e + 2) (nI (10 * (0) + (f (6 * e + 4) - 48)))) := hs.1.sA _ _ (by simp)
          have hpu : ∀ e' w', w' < 3 → 3 * e' + w' < 24 → nw_gA (nw_sA s 6 (3 * e + 2) (nI (10 * (0) + (f (6 * e + 4) - 48)))) 6 (3 * e' + w') = nI (nb_pv 1 f (6 * e + 4 + 1) e' w') := by
            intro e' w' hw' hlt
            rw [nb_gAsA, if_pos rfl]
            by_cases hee : e' = e ∧ w' = 2
            · rw [hee.1, hee.2, if_pos rfl, p2]
            · rw [if_neg (by omega), p3 e' w' hw' hee, hp e' w' hw' hlt]
          rw [if_neg (Nat.not_lt_zero _)]
          exact ⟨fun z => absurd z (by decide), fun _ => go _ hchu h5 hgd hpu⟩
        · refine nb_go15 (by omega) hbs hfi ?_
          have hgd := nb_good5 1 f e
          by_cases h59 : f (6 * e + 5) = 59
          · rw [if_pos h59]
            exact ⟨fun z => absurd z (by decide), fun _ => go s hs.1 h5 (by rw [hgd, decide_eq_true h59]) (fun e' w' hw' hlt => by rw [nb_pk1 e' w' hw']; exact hp e' w' hw' hlt)⟩
          · rw [if_neg h59]
            exact ⟨fun _ => stop s hs.1 (by rw [hgd, decide_eq_false h59]), fun z => absurd rfl z⟩
      · exfalso
        rw [h5] at h5'
        have := congrArg Int32.toInt h5'
        rw [nI_toInt (by omega)] at this
        have h9 : (-1 : Int32).toInt = -1 := rfl
        omega
    · rcases hs.2 with ⟨h5', -, -⟩ | hbad
      · exact absurd h5' h5
      · exact nb_pf1 hn hl hb hk i (Or.inr trivial) hs (Or.inr hbad)
