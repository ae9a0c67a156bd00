/-! ===== often: the class ===== -/
/-- swell x with another period -/
def nb_VP (V : nb_V) (x p : Nat) : nb_V := (V.1, V.2.1, fun i => if i = x then p else nb_pe V i, V.2.2.2)
theorem nb_sum_one {f g : Nat → Nat} {x n : Nat} (hx : x < n) (h : ∀ i, i < n → i ≠ x → f i = g i) : nb_sum f n + g x = nb_sum g n + f x := by
  induction n with
  | zero => omega
  | succ n ih =>
    show nb_sum f n + f n + g x = nb_sum g n + g n + f x
    by_cases e : x = n
    · subst e
      rw [nb_sum_congr (fun i hi => h i (by omega) (by omega))]; omega
    · have := ih (by omega) (fun i hi => h i (by omega))
      have := h n (by omega) (by omega)
      omega
theorem nb_sum_ge {f : Nat → Nat} {x n : Nat} (hx : x < n) : f x ≤ nb_sum f n := by
  induction n with
  | zero => omega
  | succ n ih =>
    show f x ≤ nb_sum f n + f n
    by_cases e : x = n
    · subst e; omega
    · have := ih (by omega); omega
theorem nb_hiP (V : nb_V) {x : Nat} (hx : x < nb_ns V) (p t : Nat) : nb_hi (nb_VP V x p) t + (if nb_crest (nb_pe V x) (nb_fr V x) t then nb_ht V x else 0) = nb_hi V t + (if nb_crest p (nb_fr V x) t then nb_ht V x else 0) := by
  have := nb_sum_one (f := fun i => if nb_crest (if i = x then p else nb_pe V i) (nb_fr V i) t then nb_ht V i else 0) (g := fun i => if nb_crest (nb_pe V i) (nb_fr V i) t then nb_ht V i else 0) hx (fun i _ e => by show (if nb_crest (if i = x then p else nb_pe V i) (nb_fr V i) t then nb_ht V i else 0) = _; rw [if_neg e])
  simp only [if_true] at this
  exact this
theorem nb_hi_own (V : nb_V) {x : Nat} (hx : x < nb_ns V) (t : Nat) : (if nb_crest (nb_pe V x) (nb_fr V x) t then nb_ht V x else 0) ≤ nb_hi V t :=
  nb_sum_ge (f := fun i => if nb_crest (nb_pe V i) (nb_fr V i) t then nb_ht V i else 0) hx
theorem nb_VPB {V : nb_V} (hB : nb_VB V) {x p : Nat} (h1 : 1 ≤ p) (h2 : p ≤ 1000) : nb_VB (nb_VP V x p) := by
  refine ⟨hB.1, fun i hi => ?_, hB.2.2⟩
  have hb := hB.2.1 i hi
  show nb_ht V i ≤ 9 ∧ 1 ≤ (if i = x then p else nb_pe V i) ∧ (if i = x then p else nb_pe V i) ≤ 1000 ∧ nb_fr V i ≤ 1000
  by_cases e : i = x
  · rw [if_pos e]; exact ⟨hb.1, h1, h2, hb.2.2.2⟩
  · rw [if_neg e]; exact hb
/-- what was heard at a time, by the first n sayings -/
def nb_due (S : nb_S) (t : Nat) : Nat → Int32
  | 0 => -1
  | i + 1 => if t = S.2.1 7 i then (if nb_due S t i = -1 then nI (S.2.1 8 i) else if nb_due S t i = nI (S.2.1 8 i) then nI (S.2.1 8 i) else -2) else nb_due S t i
theorem nb_dueS (S : nb_S) (t i : Nat) : nb_due S t (i + 1) = if t = S.2.1 7 i then (if nb_due S t i = -1 then nI (S.2.1 8 i) else if nb_due S t i = nI (S.2.1 8 i) then nI (S.2.1 8 i) else -2) else nb_due S t i := rfl
theorem nb_dueC {S : nb_S} {t n : Nat} (hb : ∀ i, i < n → S.2.1 8 i ≤ 400) : (nb_due S t n = -1 ∧ ∀ j, j < n → S.2.1 7 j ≠ t) ∨ (∃ y, y ≤ 400 ∧ nb_due S t n = nI y ∧ (∃ j, j < n ∧ S.2.1 7 j = t) ∧ ∀ j, j < n → S.2.1 7 j = t → S.2.1 8 j = y) ∨ (nb_due S t n = -2 ∧ ∃ j k, j < n ∧ k < n ∧ S.2.1 7 j = t ∧ S.2.1 7 k = t ∧ S.2.1 8 j ≠ S.2.1 8 k) := by
  induction n with
  | zero => exact Or.inl ⟨rfl, fun j hj => absurd hj (Nat.not_lt_zero j)⟩
  | succ n ih =>
    have ih := ih (fun i hi => hb i (by omega))
    have hbn := hb n (by omega)
    rw [nb_dueS]
    by_cases e : t = S.2.1 7 n
    · rw [if_pos e]
      rcases ih with ⟨h1, h2⟩ | ⟨y, hy, h1, ⟨j, hj, ej⟩, h2⟩ | ⟨h1, j, k, hj, hk, ej, ek, hn⟩
      · rw [if_pos h1]
        refine Or.inr (Or.inl ⟨S.2.1 8 n, hbn, rfl, ⟨n, by omega, e.symm⟩, fun j hj ej => ?_⟩)
        by_cases q : j = n
        · rw [q]
        · exact absurd ej (h2 j (by omega))
      · have hne : ¬ nb_due S t n = -1 := by rw [h1]; exact nb_neg1 (by omega)
        rw [if_neg hne]
        by_cases q : y = S.2.1 8 n
        · rw [if_pos (by rw [h1, q])]
          refine Or.inr (Or.inl ⟨S.2.1 8 n, hbn, rfl, ⟨n, by omega, e.symm⟩, fun r hr er => ?_⟩)
          by_cases w : r = n
          · rw [w]
          · rw [h2 r (by omega) er, q]
        · rw [if_neg (fun w => q ((nI_eq (by omega) (by omega)).mp (h1.symm.trans w)))]
          refine Or.inr (Or.inr ⟨rfl, j, n, by omega, by omega, ej, e.symm, ?_⟩)
          rw [h2 j hj ej]; exact q
      · have hne : ¬ nb_due S t n = -1 := by rw [h1]; decide
        have hn2 : ∀ y : Nat, y ≤ 400 → ¬ (-2 : Int32) = nI y := by
          intro y hy w
          have a := congrArg Int32.toInt w
          rw [nI_toInt (by omega)] at a
          have : (-2 : Int32).toInt = -2 := by decide
          omega
        rw [if_neg hne, if_neg (by rw [h1]; exact hn2 _ hbn)]
        exact Or.inr (Or.inr ⟨rfl, j, k, by omega, by omega, ej, ek, hn⟩)
    · rw [if_neg e]
      rcases ih with ⟨h1, h2⟩ | ⟨y, hy, h1, ⟨j, hj, ej⟩, h2⟩ | ⟨h1, j, k, hj, hk, ej, ek, hn⟩
      · refine Or.inl ⟨h1, fun j hj => ?_⟩
        by_cases q : j = n
        · rw [q]; exact fun w => e w.symm
        · exact h2 j (by omega)
      · refine Or.inr (Or.inl ⟨y, hy, h1, ⟨j, by omega, ej⟩, fun r hr er => ?_⟩)
        by_cases w : r = n
        · rw [w] at er; exact absurd er.symm e
        · exact h2 r (by omega) er
      · exact Or.inr (Or.inr ⟨h1, j, k, by omega, by omega, ej, ek, hn⟩)
theorem nb_due_iff {S : nb_S} {t n y : Nat} (hb : ∀ i, i < n → S.2.1 8 i ≤ 400) (hy : y < 2 ^ 31) : (nb_due S t n = -1 ∨ nb_due S t n = nI y) ↔ ∀ j, j < n → S.2.1 7 j = t → S.2.1 8 j = y := by
  rcases nb_dueC (S := S) (t := t) hb with ⟨h1, h2⟩ | ⟨z, hz, h1, ⟨j, hj, ej⟩, h2⟩ | ⟨h1, j, k, hj, hk, ej, ek, hn⟩
  · exact ⟨fun _ j hj ej => absurd ej (h2 j hj), fun _ => Or.inl h1⟩
  · constructor
    · rintro (w | w)
      · rw [h1] at w; exact absurd w (nb_neg1 (by omega))
      · have : z = y := (nI_eq (by omega) hy).mp (h1.symm.trans w)
        rw [← this]; exact h2
    · intro w
      have : z = y := (h2 j hj ej).symm.trans (w j hj ej)
      rw [← this]; exact Or.inr h1
  · constructor
    · rintro (w | w)
      · rw [h1] at w; exact absurd w (by decide)
      · rw [h1] at w
        have a := congrArg Int32.toInt w
        rw [nI_toInt hy] at a
        have : (-2 : Int32).toInt = -2 := by decide
        omega
    · intro w
      exact absurd ((w j hj ej).trans (w k hk ek).symm) hn
def nb_end (S : nb_S) : Nat → Nat
  | 0 => 0
  | i + 1 => if nb_end S i < S.2.1 7 i + 1 then S.2.1 7 i + 1 else nb_end S i
theorem nb_endS (S : nb_S) (i : Nat) : nb_end S (i + 1) = if nb_end S i < S.2.1 7 i + 1 then S.2.1 7 i + 1 else nb_end S i := rfl
theorem nb_end_gt (S : nb_S) {n j : Nat} (h : j < n) : S.2.1 7 j < nb_end S n := by
  induction n with
  | zero => omega
  | succ n ih =>
    rw [nb_endS]
    by_cases e : j = n
    · subst e; split <;> omega
    · have := ih (by omega); split <;> omega
theorem nb_end_le {S : nb_S} {n : Nat} (h : ∀ i, i < n → S.2.1 7 i < 240) : nb_end S n ≤ 240 := by
  induction n with
  | zero => exact Nat.zero_le _
  | succ n ih =>
    have := ih (fun i hi => h i (by omega))
    have := h n (by omega)
    rw [nb_endS]; split <;> omega
theorem nb_markDue {K : Int32 → nw_ST → Prop} {S : nb_S} {σ : nw_ST} (hO : nb_OK S) (hC : nb_CP S σ) (hk : ∀ s, nb_Ch [] [35] σ s → (∀ t, t < 240 → nw_gA s 35 t = nb_due S t (S.1 6)) → K (nI (nb_end S (S.1 6))) s) : f4_markDueNumbers K σ := by
  unfold f4_markDueNumbers
  have hb := hO.2.2.2.2.2.1
  have hp := hC.2.2.2.2.2.2.2.1
  refine nb_fill (L := 240) rfl (by decide) (fun s1 c1 v1 => ?_)
  refine pk_loop (fun m i u => f4_markDueNumbers_12 K m u (nI (nb_end S i)) (nI i)) (fun i u => nb_Ch [] [35] σ u ∧ ∀ t, t < 240 → nw_gA u 35 t = nb_due S t i) (S.1 6) 0 s1 (Nat.zero_le _) ⟨c1, v1⟩ ?_ ?_
  · rintro m u ⟨cu, vu⟩
    show b4_markDueNumbers_12 K _ u (nI (nb_end S (S.1 6))) (nI (S.1 6))
    unfold b4_markDueNumbers_12
    have h16 : nw_gS u 16 2 = nI (S.1 6) := (cu.1 16 2 (by decide)).trans hp.1
    rw [h16]
    exact ⟨fun _ => hk u cu vu, fun w => absurd (nI_le (Nat.le_refl _) (by omega)) w⟩
  · rintro m i u hi ⟨cu, vu⟩ ih
    show b4_markDueNumbers_12 K _ u (nI (nb_end S i)) (nI i)
    have hbi := hb.2 i hi
    have he := nb_end_le (S := S) (n := i) (fun j hj => (hb.2 j (by omega)).1)
    have h16 : nw_gS u 16 2 = nI (S.1 6) := (cu.1 16 2 (by decide)).trans hp.1
    have h17 : nw_gA u 17 i = nI (S.2.1 7 i) := ((cu.2 17 (by decide)).1 i).trans (hp.2 i hi).1
    have h18 : nw_gA u 18 i = nI (S.2.1 8 i) := ((cu.2 18 (by decide)).1 i).trans (hp.2 i hi).2
    have h35 : nw_gA u 35 (S.2.1 7 i) = nb_due S (S.2.1 7 i) i := vu _ hbi.1
    unfold b4_markDueNumbers_12 f4_markDueNumbers_77
    rw [h16, nI_clamp (show i < 2 ^ 31 by omega), h17, h18, nI_clamp (show S.2.1 7 i < 2 ^ 31 by omega), h35, nI_1 i, nI_1 (S.2.1 7 i)]
    have e1 : (if nI (nb_end S i) < nI (S.2.1 7 i + 1) then nI (S.2.1 7 i + 1) else nI (nb_end S i)) = nI (nb_end S (i + 1)) := by
      rw [nb_endS]
      by_cases q : nb_end S i < S.2.1 7 i + 1
      · rw [if_pos q, if_pos (nI_lt q (by omega))]
      · rw [if_neg q, if_neg (nI_nlt (by omega) (by omega))]
    rw [e1]
    refine ⟨fun w => absurd w (nI_ge hi (by omega)), fun _ => ⟨vp_in_nI (by omega) (by decide), vp_in_nI (by omega) (by decide), vp_in_nI hbi.1 (by decide), ⟨fun _ => trivial, fun _ => vp_in_nI hbi.1 (by decide)⟩, vp_in_nI hbi.1 (by decide), ih _ ⟨cu.sA _ _ (by decide), fun t ht => ?_⟩⟩⟩
    rw [nb_gAsA, if_pos rfl, nb_dueS]
    by_cases q : t = S.2.1 7 i
    · rw [if_pos q, if_pos q, q]
    · rw [if_neg q, if_neg q]; exact vu t ht
theorem nb_sp4 {S : nb_S} {σ : nw_ST} {i w : Nat} (hO : nb_OK S) (hC : nb_CP S σ) (hi : i < nb_ns (nb_VS S)) (hw : w < 3) : o2_part σ 1 (nI i) (nI w) ∧ v2_part σ 1 (nI i) (nI w) = nI (nb_pt 0 (S.2.1 0) i w) := by
  have hen := nb_en0 S hO
  have hi' : i < nb_en 0 (S.2.1 0) (S.1 0) := hi
  unfold o2_part v2_part
  rw [nb_three, nI_clamp (show 3 * i + w < 2 ^ 31 by omega), show nw_rf 1 3 = 3 from rfl, show nw_len 3 = 18 from rfl]
  exact ⟨vp_in_nI (by omega) (by decide), hC.2.2.1.2.2.2.2 i hi' w hw⟩
theorem nb_fitsPeriod {K : Int32 → nw_ST → Prop} {S : nb_S} {σ : nw_ST} {x p : Nat} (hO : nb_OK S) (hC : nb_CP S σ) (hw : nb_WV (nb_VS S) σ) (hD : ∀ t, t < 240 → nw_gA σ 35 t = nb_due S t (S.1 6)) (hx : x < nb_ns (nb_VS S)) (h1 : 2 ≤ p) (h2 : p ≤ 99) (hk : K (if nb_hd (nb_VP (nb_VS S) x p) S (S.1 6) then 1 else 0) σ) : f4_fitsPeriod K σ (nI x) (nI p) (nI (nb_end S (S.1 6))) := by
  unfold f4_fitsPeriod
  have hb := hO.2.2.2.2.2.1
  have hB := nb_VSB hO
  have hB2 : nb_VB (nb_VP (nb_VS S) x p) := nb_VPB hB (by omega) (by omega)
  have q0 := nb_sp4 hO hC hx (show 0 < 3 by decide)
  have q1 := nb_sp4 hO hC hx (show 1 < 3 by decide)
  have q2 := nb_sp4 hO hC hx (show 2 < 3 by decide)
  rw [show nI 0 = (0 : Int32) from rfl] at q0
  rw [show nI 1 = (1 : Int32) from rfl] at q1
  rw [show nI 2 = (2 : Int32) from rfl] at q2
  rw [q0.2, q1.2, q2.2]
  refine ⟨q0.1, q1.1, q2.1, ?_⟩
  have hbx := hB.2.1 x hx
  have he := nb_end_le (S := S) (n := S.1 6) (fun j hj => (hb.2 j hj).1)
  have eht : nb_pt 0 (S.2.1 0) x 0 = nb_ht (nb_VS S) x := rfl
  have epe : nb_pt 0 (S.2.1 0) x 1 = nb_pe (nb_VS S) x := rfl
  have efr : nb_pt 0 (S.2.1 0) x 2 = nb_fr (nb_VS S) x := rfl
  rw [eht, epe, efr]
  have hdp : S.1 2 ≤ 55 := hO.2.1
  have hgt : ∀ j, j < S.1 6 → S.2.1 7 j < nb_end S (S.1 6) := fun j hj => nb_end_gt S hj
  generalize nb_end S (S.1 6) = E at he hgt ⊢
  refine pk_loop (fun m t u => f4_fitsPeriod_39 K m u (nI p) (nI E) (nI (nb_ht (nb_VS S) x)) (nI (nb_pe (nb_VS S) x)) (nI (nb_fr (nb_VS S) x)) (nI (nb_ct (nb_VP (nb_VS S) x p) t)) (nI t)) (fun t u => u = σ ∧ ∀ j, j < S.1 6 → S.2.1 7 j < t → S.2.1 8 j = nb_at (nb_VP (nb_VS S) x p) (S.2.1 7 j)) E 0 σ (Nat.zero_le _) ⟨rfl, fun j _ hj => absurd hj (Nat.not_lt_zero _)⟩ ?_ ?_
  · rintro m u ⟨rfl, hh⟩
    show b4_fitsPeriod_39 K _ u (nI p) (nI E) _ _ _ _ (nI E)
    unfold b4_fitsPeriod_39
    refine ⟨fun _ => ?_, fun w => absurd (nI_le (Nat.le_refl _) (by omega)) w⟩
    rw [if_pos (nb_hd_iff.mpr (fun j hj => (hh j hj (hgt j hj)).symm))] at hk
    exact hk
  · rintro m t u ht ⟨rfl, hh⟩ ih
    show b4_fitsPeriod_39 K _ u (nI p) (nI E) _ _ _ _ (nI t)
    unfold b4_fitsPeriod_39 f4_fitsPeriod_75
    obtain ⟨o1, v1⟩ := nb_cr4 (p := nb_pe (nb_VS S) x) (f := nb_fr (nb_VS S) x) (t := t) (by omega) (by omega) (by omega) (by omega)
    obtain ⟨o2, v2⟩ := nb_cr4 (p := p) (f := nb_fr (nb_VS S) x) (t := t) (by omega) (by omega) (by omega) (by omega)
    have hown := nb_hi_own (nb_VS S) hx t
    have hP := nb_hiP (nb_VS S) hx p t
    have hh2 := nb_hi_le hB2 t
    have hh1 := nb_hi_le hB t
    have hct := nb_ct_le (nb_VP (nb_VS S) x p) t
    rw [nI_clamp (show t < 2 ^ 31 by omega), (hw.1 t (by omega)).1, v1, v2]
    refine ⟨fun w => absurd w (nI_ge ht (by omega)), fun _ => ⟨vp_in_nI (by omega) (by decide), o1, o2, ?_⟩⟩
    have ev : nI (nb_hi (nb_VS S) t) - (if (if nb_crest (nb_pe (nb_VS S) x) (nb_fr (nb_VS S) x) t then (1 : Int32) else 0) = 0 then 0 else nI (nb_ht (nb_VS S) x)) + (if (if nb_crest p (nb_fr (nb_VS S) x) t then (1 : Int32) else 0) = 0 then 0 else nI (nb_ht (nb_VS S) x)) = nI (nb_hi (nb_VP (nb_VS S) x p) t) := by
      have e1 : ∀ c : Bool, (if (if c then (1 : Int32) else 0) = 0 then 0 else nI (nb_ht (nb_VS S) x)) = nI (if c then nb_ht (nb_VS S) x else 0) := by
        intro c; cases c <;> rfl
      rw [e1, e1, pk_sub hown, nI_add]
      congr 1
      omega
    unfold f4_fitsPeriod_97
    rw [ev, hC.1, nb_bk4 (by omega) (by omega), nI_clamp (show t < 2 ^ 31 by omega), (hw.1 t (by omega)).2.2.1, nI_1, nI_clamp (show nb_ct (nb_VP (nb_VS S) x p) t + 1 < 2 ^ 31 by omega), hw.2.1 _ (by omega)]
    have hca : nb_ca (nb_VP (nb_VS S) x p) t = (nb_bk (S.1 2) (nb_hi (nb_VP (nb_VS S) x p) t) && !nb_wk (nb_VS S) t) := rfl
    have hcS := nb_ctS (nb_VP (nb_VS S) x p) t
    have hnu : ∀ k, nb_nu (nb_VP (nb_VS S) x p) k = nb_nu (nb_VS S) k := fun k => rfl
    have g1 : (if (if nb_bk (S.1 2) (nb_hi (nb_VP (nb_VS S) x p) t) then (1 : Int32) else 0) = 0 then nI (nb_ct (nb_VP (nb_VS S) x p) t) else if (if nb_wk (nb_VS S) t then (1 : Int32) else 0) = 0 then nI (nb_ct (nb_VP (nb_VS S) x p) t + 1) else nI (nb_ct (nb_VP (nb_VS S) x p) t)) = nI (nb_ct (nb_VP (nb_VS S) x p) (t + 1)) := by
      rw [hcS, hca]
      cases nb_bk (S.1 2) (nb_hi (nb_VP (nb_VS S) x p) t) <;> cases nb_wk (nb_VS S) t <;> rfl
    have g2 : (if (if nb_bk (S.1 2) (nb_hi (nb_VP (nb_VS S) x p) t) then (1 : Int32) else 0) = 0 then (0 : Int32) else if (if nb_wk (nb_VS S) t then (1 : Int32) else 0) = 0 then nI (nb_nu (nb_VS S) (nb_ct (nb_VP (nb_VS S) x p) t + 1)) else 0) = nI (nb_at (nb_VP (nb_VS S) x p) t) := by
      unfold nb_at
      rw [hcS, hnu, hca]
      cases nb_bk (S.1 2) (nb_hi (nb_VP (nb_VS S) x p) t) <;> cases nb_wk (nb_VS S) t <;> rfl
    rw [g1, g2]
    refine ⟨⟨fun _ => trivial, fun _ => ⟨vp_in_nI (by omega) (by decide), fun _ => vp_in_nI (by omega) (by decide), fun _ => trivial⟩⟩, ?_⟩
    unfold f4_fitsPeriod_137 f4_fitsPeriod_162
    rw [nI_clamp (show t < 2 ^ 31 by omega), hD t (by omega), nI_1 t]
    have hat := nb_at_le hB2 t
    have hdi := nb_due_iff (S := S) (t := t) (n := S.1 6) (y := nb_at (nb_VP (nb_VS S) x p) t) (fun i hi => (hb.2 i hi).2) (by omega)
    have go : (nb_due S t (S.1 6) = -1 ∨ nb_due S t (S.1 6) = nI (nb_at (nb_VP (nb_VS S) x p) t)) → f4_fitsPeriod_39 K m u (nI p) (nI E) (nI (nb_ht (nb_VS S) x)) (nI (nb_pe (nb_VS S) x)) (nI (nb_fr (nb_VS S) x)) (nI (nb_ct (nb_VP (nb_VS S) x p) (t + 1))) (nI (t + 1)) := by
      intro y
      refine ih u ⟨rfl, fun j hj hjt => ?_⟩
      by_cases e : S.2.1 7 j = t
      · rw [e]; exact hdi.mp y j hj e
      · exact hh j hj (by omega)
    refine ⟨vp_in_nI (by omega) (by decide), fun y => go (Or.inl y), fun y => ⟨vp_in_nI (by omega) (by decide), fun w => go (Or.inr w), fun w => ?_⟩⟩
    have : ¬ nb_hd (nb_VP (nb_VS S) x p) S (S.1 6) = true := by
      intro q
      have := hdi.mpr (fun j hj e => by rw [← e]; exact (nb_hd_iff.mp q j hj).symm)
      exact this.elim y w
    rw [if_neg this] at hk
    exact hk
