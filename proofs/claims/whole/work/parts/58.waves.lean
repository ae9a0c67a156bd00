/-! ===== the class's waves ===== -/
theorem nb_ct_mono (V : nb_V) {a b : Nat} (h : a ≤ b) : nb_ct V a ≤ nb_ct V b := by
  induction b with
  | zero => rw [show a = 0 by omega]; exact Nat.le_refl _
  | succ b ih =>
    by_cases e : a = b + 1
    · rw [e]; exact Nat.le_refl _
    · have := ih (by omega)
      rw [nb_ctS]; omega
theorem nb_nu_mono (V : nb_V) {a b : Nat} (h : a < b) : nb_nu V a < nb_nu V b := by
  induction b with
  | zero => omega
  | succ b ih =>
    rw [nb_nuS]
    by_cases e : a = b
    · rw [e]; omega
    · have := ih (by omega); omega
theorem nb_nu_pos (V : nb_V) (k : Nat) : k ≤ nb_nu V k := by unfold nb_nu; omega
theorem nb_nuB {V : nb_V} {B k : Nat} (h1 : nb_nl V ≤ 13) (h2 : ∀ i, i < nb_nl V → nb_lm V i ≤ B) : nb_nu V k ≤ k + 13 * B := by
  have := nb_sum_le (f := fun i => if nb_lk V i ≤ k then nb_lm V i else 0) (n := nb_nl V) (B := B) (fun i hi => by have := h2 i hi; split <;> omega)
  have h3 : nb_nl V * B ≤ 13 * B := Nat.mul_le_mul_right B h1
  unfold nb_nu; omega
/-- a number once called is not called again -/
theorem nb_at_new {V : nb_V} {u t : Nat} (h : u < t) (hn : 1 ≤ nb_at V u) : nb_at V u < nb_nu V (nb_ct V t + 1) := by
  unfold nb_at at hn ⊢
  by_cases hc : nb_ca V u = true
  · rw [if_pos hc]
    have := nb_ct_mono V (show u + 1 ≤ t by omega)
    exact nb_nu_mono V (by omega)
  · rw [if_neg hc] at hn; omega
def nb_tT (V : nb_V) (T n : Nat) : Int32 := if nb_fst (fun t => decide (nb_at V t = n ∧ 1 ≤ n)) T < T then nI (nb_fst (fun t => decide (nb_at V t = n ∧ 1 ≤ n)) T) else -1
theorem nb_tT_no {V : nb_V} {t n : Nat} (h : ¬ (nb_at V t = n ∧ 1 ≤ n)) : nb_tT V (t + 1) n = nb_tT V t n := by
  unfold nb_tT
  have hlt := nb_fst_lt (fun t => decide (nb_at V t = n ∧ 1 ≤ n)) t
  by_cases h1 : nb_fst (fun t => decide (nb_at V t = n ∧ 1 ≤ n)) t < t
  · have e : nb_fst (fun t => decide (nb_at V t = n ∧ 1 ≤ n)) (t + 1) = nb_fst (fun t => decide (nb_at V t = n ∧ 1 ≤ n)) t := by
      show (if _ then _ else _) = _; rw [if_pos h1]
    rw [e, if_pos h1, if_pos (by omega)]
  · have h3 : ¬ nb_fst (fun t => decide (nb_at V t = n ∧ 1 ≤ n)) (t + 1) < t + 1 := fun z => (hlt.mp z).elim h1 (fun y => h (of_decide_eq_true y))
    rw [if_neg h1, if_neg h3]
theorem nb_tT_yes {V : nb_V} {t n : Nat} (h : nb_at V t = n) (hn : 1 ≤ n) (hu : ∀ u, u < t → nb_at V u ≠ n) : nb_tT V (t + 1) n = nI t := by
  unfold nb_tT
  have e : nb_fst (fun t => decide (nb_at V t = n ∧ 1 ≤ n)) (t + 1) = t := nb_fst_eq (by omega) (fun i hi => decide_eq_false (fun z => hu i hi z.1)) (decide_eq_true ⟨h, hn⟩)
  rw [e, if_pos (by omega)]
theorem nb_reckon {K : nw_ST → Prop} {S : nb_S} {σ : nw_ST} (hO : nb_OK S) (hC : nb_CP S σ) (hk : ∀ s, nb_Ch [(19, 6)] [20, 21, 22, 23, 24, 25] σ s → nb_WV (nb_VS S) s → K s) : f3_reckon K σ 1 (nI (S.1 2)) 10 7 := by
  unfold f3_reckon
  refine nb_rh hO hC.2.2.1 (fun s1 c1 v1 => ?_)
  refine nb_rn hO (hC.2.2.2.2.1.keep (c1.1 7 2 (by simp)) ((c1.2 8 (by decide)).1) ((c1.2 9 (by decide)).1)) (fun s2 c2 v2 => ?_)
  refine nb_fill (L := 401) rfl (by decide) (fun s3 c3 v3 => ?_)
  have cc : nb_Ch [(19, 6)] [20, 21, 22, 23, 24, 25] σ s3 := ((c1.up (by simp) (by simp)).tr (c2.up (by simp) (by simp))).tr (c3.up (by simp) (by simp))
  have hv : ∀ t, t < 240 → nw_gA s3 20 t = nI (nb_hi (nb_VS S) t) ∧ nw_gA s3 21 t = nI (nb_cn (nb_VS S) t) := fun t ht => ⟨(((c3.2 20 (by decide)).1 t).trans ((c2.2 20 (by decide)).1 t)).trans (v1 t ht).1, (((c3.2 21 (by decide)).1 t).trans ((c2.2 21 (by decide)).1 t)).trans (v1 t ht).2⟩
  have hn : ∀ k, k ≤ 240 → nw_gA s3 24 k = nI (nb_nu (nb_VS S) k) := fun k hk => ((c3.2 24 (by decide)).1 k).trans (v2 k hk)
  have ht5 : ∀ n, n ≤ 400 → nw_gA s3 25 n = -1 := fun n hn => v3 n (by omega)
  clear c1 v1 c2 v2 c3 v3
  have hP : ∀ s, nb_Ch [(19, 6)] [20, 21, 22, 23, 24, 25] σ s → nb_Pr s 10 (S.1 4) (S.2.1 4) (fun _ => 0) := fun s hc => hC.2.2.2.2.2.1.keep (hc.1 10 2 (by decide)) ((hc.2 11 (by decide)).1) ((hc.2 12 (by decide)).1)
  have hw4 := hO.2.2.2.1
  have hB := nb_VSB hO
  have hd := hO.2.1
  have hnB : ∀ k, k ≤ 240 → nb_nu (nb_VS S) k ≤ 400 := fun k hk => by
    have := nb_nuB (V := nb_VS S) (k := k) (B := 11) hB.2.2.2.2.1 (fun i hi => (hO.2.2.1.2 i hi).2.2.2)
    omega
  refine pk_loop (fun m t s => f3_reckon_22 K m s (nI (S.1 2)) 10 (nI t)) (fun t s => nb_Ch [] [22] s3 s ∧ ∀ u, u < t → nw_gA s 22 u = 0) 240 0 s3 (by decide) ⟨nb_Ch.rf, fun u hu => absurd hu (Nat.not_lt_zero u)⟩ ?_ ?_
  · rintro m s ⟨hc, h0⟩
    show b3_reckon_22 K _ s (nI (S.1 2)) 10 (nI 240)
    unfold b3_reckon_22
    refine ⟨fun _ => ?_, fun w => absurd (by decide) w⟩
    refine pk_loop (fun m i s => f3_reckon_47 K m s (nI (S.1 2)) 10 (nI i)) (fun i s => nb_Ch [] [22] s3 s ∧ ∀ u, u < 240 → nw_gA s 22 u = if nb_fst (fun i => decide (S.2.1 4 i = u)) i < i then 1 else 0) (S.1 4) 0 s (Nat.zero_le _) ⟨hc, fun u hu => by rw [if_neg (Nat.not_lt_zero _)]; exact h0 u hu⟩ ?_ ?_
    · clear hc h0 s m
      rintro m s ⟨hc, hw⟩
      show b3_reckon_47 K _ s (nI (S.1 2)) 10 (nI (S.1 4))
      unfold b3_reckon_47
      have hcs : nb_Ch [(19, 6)] [20, 21, 22, 23, 24, 25] σ s := cc.tr (hc.up (by simp) (by simp))
      rw [(hP s hcs).1]
      refine ⟨fun _ => ?_, fun w => absurd (nI_le (Nat.le_refl _) (by omega)) w⟩
      have hw2 : ∀ t, t < 240 → nw_gA s 22 t = if nb_wk (nb_VS S) t then 1 else 0 := by
        intro t ht
        rw [hw t ht]
        unfold nb_wk
        simp only [decide_eq_true_eq]
        rfl
      have hh : ∀ t, t < 240 → nw_gA s 20 t = nI (nb_hi (nb_VS S) t) ∧ nw_gA s 21 t = nI (nb_cn (nb_VS S) t) := fun t ht => ⟨((hc.2 20 (by decide)).1 t).trans (hv t ht).1, ((hc.2 21 (by decide)).1 t).trans (hv t ht).2⟩
      have hnn : ∀ k, k ≤ 240 → nw_gA s 24 k = nI (nb_nu (nb_VS S) k) := fun k hk => ((hc.2 24 (by decide)).1 k).trans (hn k hk)
      have h55 : ∀ n, n ≤ 400 → nw_gA s 25 n = -1 := fun n hn => ((hc.2 25 (by decide)).1 n).trans (ht5 n hn)
      clear hw hc hv hn ht5
      generalize hV : nb_VS S = V at *
      have hdp : nb_dp V = S.1 2 := by rw [← hV]; rfl
      refine pk_loop (fun m t u => f3_reckon_83 K m u (nI (S.1 2)) (nI t)) (fun t u => nb_Ch [(19, 6)] [23, 25] s u ∧ nw_gS u 19 6 = nI (nb_ct V t) ∧ (∀ r, r < t → nw_gA u 23 r = nI (nb_tu V r)) ∧ ∀ n, n ≤ 400 → nw_gA u 25 n = nb_tT V t n) 240 0 _ (by decide) ⟨nb_Ch.rf.sS _ (by simp), by simp [nb_gSsS]; rfl, fun r hr => absurd hr (Nat.not_lt_zero r), fun n hn => h55 n hn⟩ ?_ ?_
      · rintro m u ⟨cu, u6, u23, u25⟩
        show b3_reckon_83 K _ u (nI (S.1 2)) (nI 240)
        unfold b3_reckon_83
        refine ⟨fun _ => ?_, fun w => absurd (by decide) w⟩
        refine hk u (hcs.tr (cu.up (by simp) (by simp))) ⟨fun t ht => ⟨((cu.2 20 (by decide)).1 t).trans (hh t ht).1, ((cu.2 21 (by decide)).1 t).trans (hh t ht).2, ((cu.2 22 (by decide)).1 t).trans (hw2 t ht), u23 t ht⟩, fun k hk => ((cu.2 24 (by decide)).1 k).trans (hnn k hk), u25, u6⟩
      · rintro m t u ht ⟨cu, u6, u23, u25⟩ ih
        show b3_reckon_83 K _ u (nI (S.1 2)) (nI t)
        unfold b3_reckon_83 f3_reckon_160
        have q20 : nw_gA u 20 t = nI (nb_hi V t) := ((cu.2 20 (by decide)).1 t).trans (hh t ht).1
        have q22 : nw_gA u 22 t = if nb_wk V t then 1 else 0 := ((cu.2 22 (by decide)).1 t).trans (hw2 t ht)
        have hhi := nb_hi_le hB t
        have hle := nb_ct_le V t
        have q24 : nw_gA u 24 (nb_ct V t + 1) = nI (nb_nu V (nb_ct V t + 1)) := ((cu.2 24 (by decide)).1 _).trans (hnn _ (by omega))
        have hnb := hnB (nb_ct V t + 1) (by omega)
        have hnp := nb_nu_pos V (nb_ct V t + 1)
        rw [nI_clamp (show t < 2 ^ 31 by omega), nI_1 t]
        simp only [nb_gAsA, nb_gSsA, nb_gSsS, nb_gAsS, if_true, show (20 : Nat) ≠ 23 by decide, show (22 : Nat) ≠ 23 by decide, show (24 : Nat) ≠ 23 by decide, if_false, q20, q22, u6, nI_1]
        rw [nI_clamp (show nb_ct V t + 1 < 2 ^ 31 by omega), q24, nI_clamp (show nb_nu V (nb_ct V t + 1) < 2 ^ 31 by omega), nb_bk4 (by omega) (by omega)]
        have none : nb_ca V t = false → f3_reckon_83 K m (nw_sA u 23 t 0) (nI (S.1 2)) (nI (t + 1)) := by
          intro hca
          have e0 : nb_at V t = 0 := by unfold nb_at; rw [hca]; rfl
          refine ih _ ⟨cu.sA _ _ (by simp), ?_, fun r hr => ?_, fun n hn => ?_⟩
          · rw [nb_gSsA, u6, nb_ctS, hca]; rfl
          · rw [nb_gAsA, if_pos rfl]
            by_cases e : r = t
            · rw [if_pos e, e]; unfold nb_tu; rw [hca]; rfl
            · rw [if_neg e]; exact u23 r (by omega)
          · rw [nb_gAsA, if_neg (by decide), u25 n hn, nb_tT_no (by omega)]
        refine ⟨fun w => absurd w (nI_ge (b := 240) ht (by decide)), fun _ => ⟨vp_in_nI ht (by decide), vp_in_nI ht (by decide), fun z => ?_, fun z => ⟨vp_in_nI ht (by decide), fun y => ?_, fun y => ?_⟩⟩⟩
        · refine none ?_
          unfold nb_ca
          rw [hdp]
          cases hb : nb_bk (S.1 2) (nb_hi V t)
          · rfl
          · rw [hb] at z; exact absurd z (by decide)
        · have hbk : nb_bk (S.1 2) (nb_hi V t) = true := by
            cases hb : nb_bk (S.1 2) (nb_hi V t)
            · rw [hb] at z; exact absurd rfl z
            · rfl
          have hwk : nb_wk V t = false := by
            cases hb : nb_wk V t
            · rfl
            · rw [hb] at y; exact absurd y (by decide)
          have hca : nb_ca V t = true := by unfold nb_ca; rw [hdp, hbk, hwk]; rfl
          have e1 : nb_ct V (t + 1) = nb_ct V t + 1 := by rw [nb_ctS, hca]; rfl
          have ea : nb_at V t = nb_nu V (nb_ct V t + 1) := by unfold nb_at; rw [hca, e1]; rfl
          refine ⟨vp_in_nI ht (by decide), vp_in_nI (by omega) (by decide), vp_in_nI (by omega) (by decide), ih _ ⟨(((cu.sA _ _ (by simp)).sS _ (by simp)).sA _ _ (by simp)).sA _ _ (by simp), ?_, fun r hr => ?_, fun n hn => ?_⟩⟩
          · simp [nb_gSsA, nb_gSsS, e1]
          · simp only [nb_gAsA, nb_gAsS, if_true, show (23 : Nat) ≠ 25 by decide, if_false]
            by_cases e : r = t
            · rw [if_pos e, e]; unfold nb_tu; rw [hca, e1]; rfl
            · rw [if_neg e, if_neg e]; exact u23 r (by omega)
          · simp only [nb_gAsA, nb_gAsS, if_true, show (25 : Nat) ≠ 23 by decide, if_false]
            by_cases e : n = nb_nu V (nb_ct V t + 1)
            · rw [if_pos e, nb_tT_yes (by rw [ea, e]) (by omega) (fun r hr hz => ?_)]
              have := nb_at_new (V := V) hr (by omega)
              omega
            · rw [if_neg e, u25 n hn, nb_tT_no (by omega)]
        · refine none ?_
          have hwk : nb_wk V t = true := by
            cases hb : nb_wk V t
            · rw [hb] at y; exact absurd rfl y
            · rfl
          unfold nb_ca; rw [hwk, Bool.not_true, Bool.and_false]
    · clear hc h0 s m
      rintro m i s hi ⟨hc, hw⟩ ih
      show b3_reckon_47 K _ s (nI (S.1 2)) 10 (nI i)
      unfold b3_reckon_47
      have hcs : nb_Ch [(19, 6)] [20, 21, 22, 23, 24, 25] σ s := cc.tr (hc.up (by simp) (by simp))
      have hp := hP s hcs
      have hwi := hw4.2 i hi
      rw [hp.1, nI_clamp (show i < 2 ^ 31 by omega), show nw_rf 10 0 = 11 from rfl, show nw_len 11 = 8 from rfl, (hp.2 i hi).1, nI_clamp (show S.2.1 4 i < 2 ^ 31 by omega), nI_1 i]
      have cB : ∀ v, nb_Ch [] [22] s3 (nw_sA s 22 (S.2.1 4 i) v) := fun v => hc.sA _ _ (by simp)
      refine ⟨fun w => absurd w (nI_ge hi (by omega)), fun _ => ⟨vp_in_nI (by omega) (by decide), vp_in_nI hwi (by decide), ih _ ⟨cB _, fun u hu => ?_⟩⟩⟩
      rw [nb_gAsA, if_pos rfl]
      have hlt := nb_fst_lt (fun i => decide (S.2.1 4 i = u)) i
      by_cases e : u = S.2.1 4 i
      · rw [if_pos e, if_pos (hlt.mpr (Or.inr (decide_eq_true e.symm)))]
      · rw [if_neg e, hw u hu]
        by_cases h1 : nb_fst (fun i => decide (S.2.1 4 i = u)) i < i
        · rw [if_pos h1, if_pos (hlt.mpr (Or.inl h1))]
        · rw [if_neg h1, if_neg (fun z => (hlt.mp z).elim h1 (fun y => e (of_decide_eq_true y).symm))]
  · rintro m t s ht ⟨hc, h0⟩ ih
    show b3_reckon_22 K _ s (nI (S.1 2)) 10 (nI t)
    unfold b3_reckon_22
    rw [nI_clamp (show t < 2 ^ 31 by omega), nI_1 t]
    have cB : ∀ v, nb_Ch [] [22] s3 (nw_sA s 22 t v) := fun v => hc.sA _ _ (by simp)
    refine ⟨fun w => absurd w (nI_ge (b := 240) ht (by decide)), fun _ => ⟨vp_in_nI ht (by decide), ih _ ⟨cB _, fun u hu => ?_⟩⟩⟩
    rw [nb_gAsA, if_pos rfl]
    by_cases e : u = t
    · rw [if_pos e]
    · rw [if_neg e]; exact h0 u (by omega)
theorem nb_waves {K : Nat → nw_ST → Prop} {S : nb_S} {σ : nw_ST} (hO : nb_OK S) (hC : nb_C S σ) (hk : ∀ s, nb_C S s → nb_WV (nb_VS S) s → nb_Ch nb_cS nb_cA σ s → K 19 s) : f4_waves K σ := by
  unfold f4_waves f4_waves_35
  refine ⟨fun z => ?_, fun z => ?_⟩
  · rw [hC.1.1]
    refine nb_reckon hO hC.1 (fun s hc hw => ?_)
    have hc2 : nb_Ch [(0, 12), (19, 6)] [20, 21, 22, 23, 24, 25] σ (nw_sS s 0 12 1) := (hc.up (by simp) (by simp)).sS _ (by simp)
    have hw2 : nb_WV (nb_VS S) (nw_sS s 0 12 1) := hw.ch (LS := [(0, 12)]) (L := []) (nb_Ch.rf.sS _ (by simp)) (by decide) (by decide)
    exact hk _ ⟨hC.1.ch hc2 (by decide +kernel) (by decide +kernel), Or.inr ⟨by simp [nb_gSsS], hw2⟩⟩ hw2 (hc2.up (by decide +kernel) (by decide +kernel))
  · rcases hC.2 with h | ⟨h, hw⟩
    · exact absurd h z
    · exact hk σ hC hw nb_Ch.rf
