/-! ===== digest: the class ===== -/
def nb_hh (h : Int64) (r : Int32) : Int64 := (31 : Int64) * h + Int32.toInt64 r
def nb_hl (h r : Int64) : Int64 := (31 : Int64) * h + r
def nb_dC (S : nb_S) : Nat → Int64
  | 0 => 17
  | i + 1 => nb_hh (nb_dC S i) (nb_aCount S (nI i))
def nb_dW (S : nb_S) (t x : Nat) (h : Int64) : Nat → Int64
  | 0 => h
  | w + 1 => nb_hh (nb_dW S t x h w) (nI (nb_pt t (S.2.1 t) x w))
def nb_dS1 (S : nb_S) (h : Int64) (x : Nat) : Int64 := nb_hh (nb_hh (nb_hh (nb_hh (nb_dW S 0 x h 3) (nb_aAgree S 0 (nI x) 5 0)) (nb_aAgree S 0 (nI x) 5 1)) (nb_aOften S (nI x) (-1))) (nb_aOften S (nI x) 0)
def nb_dS (S : nb_S) (h : Int64) : Nat → Int64
  | 0 => h
  | x + 1 => nb_dS1 S (nb_dS S h x) x
def nb_dF (S : nb_S) (h : Int64) : Nat → Int64
  | 0 => h
  | x + 1 => nb_dW S 1 x (nb_dF S h x) 3
def nb_dV (S : nb_S) (a : Int32) (h : Int64) : Nat → Int64
  | 0 => h
  | w + 1 => nb_hh (nb_dV S a h w) (nb_aWave S a (nI w))
def nb_dT (S : nb_S) (h : Int64) (a : Int32) : Int64 := nb_hh (nb_dV S a (nb_hh h (nb_aHigh S a)) 3) (nb_aCalled S 0 a)
def nb_dTt (S : nb_S) (h : Int64) : Nat → Int64
  | 0 => h
  | i + 1 => nb_dT S (nb_dTt S h i) (nw_cst 67 i)
def nb_dN (S : nb_S) (h : Int64) (a : Int32) : Int64 := nb_hh (nb_hh h (nb_aWhen S a)) (nb_aBrings S a)
def nb_dNt (S : nb_S) (h : Int64) : Nat → Int64
  | 0 => h
  | i + 1 => nb_dN S (nb_dNt S h i) (nw_cst 68 i)
def nb_dH (S : nb_S) (h : Int64) : Nat → Int64
  | 0 => h
  | k + 1 => nb_hh (nb_hh (nb_hh (nb_dH S h k) (nb_aClaims S (nI k))) (nb_aEarn S (nI k) 0)) (nb_aEarn S (nI k) 1)
def nb_dG (S : nb_S) (h : Int64) : Nat → Int64
  | 0 => h
  | k + 1 => nb_hh (nb_dG S h k) (nb_aGood S (nI k))
def nb_dP (S : nb_S) (h : Int64) : Int64 := nb_hh (nb_hh (nb_hl (nb_hl (nb_hh (nb_hh (nb_hh (nb_hh (nb_hh (nb_hh h (nb_aRun S 3 0)) (nb_aRun S 3 1)) (nb_aBar S 9)) (nb_aSkipped S 1)) (nb_aVoids S (-1))) (nb_aVoids S 0)) (nb_aHoarse S 5 4 0)) (nb_aHoarse S 5 4 1)) (nb_aStorm S 7 30 0)) (nb_aStorm S 7 30 1)
def nb_dZ (S : nb_S) : Int64 := nb_dP S (nb_dG S (nb_dH S (nb_dNt S (nb_dTt S (nb_dF S (nb_dS S (nb_hh (nb_hh (nb_dC S 8) (nb_fl 0 (S.2.1 0) (S.1 0))) (nb_fl 1 (S.2.1 1) (S.1 1))) (nb_ns (nb_VS S))) (nb_nf S)) 4) 3) 8) (S.1 5))
theorem nb_dgSw {K : Int64 → nw_ST → Prop} {S : nb_S} {σ : nw_ST} {h : Int64} (hO : nb_OK S) (hC : nb_C S σ) (hk : ∀ s, nb_C S s → nb_Ch nb_cS nb_cA σ s → K (nb_dS S h (nb_ns (nb_VS S))) s) : f4_digestSwells K σ h := by
  unfold f4_digestSwells
  have hen := nb_en0 S hO
  have hns : nb_ns (nb_VS S) ≤ 6 := hen
  refine pk_loop (fun n x u => f4_digestSwells_5 K n u (nb_dS S h x) (nI x)) (fun x u => nb_C S u ∧ nb_Ch nb_cS nb_cA σ u) (nb_ns (nb_VS S)) 0 σ (Nat.zero_le _) ⟨hC, nb_Ch.rf⟩ ?_ ?_
  · rintro n u ⟨hu, cu⟩
    show b4_digestSwells_5 K _ u (nb_dS S h (nb_ns (nb_VS S))) (nI (nb_ns (nb_VS S)))
    unfold b4_digestSwells_5
    rw [show nw_gS u 1 6 = nI (nb_ns (nb_VS S)) from hu.1.2.2.1.2.2.2.1]
    exact ⟨fun _ => hk u hu cu, fun w => absurd (nI_le (Nat.le_refl _) (by omega)) w⟩
  · rintro n x u hx ⟨hu, cu⟩ ih
    show b4_digestSwells_5 K _ u (nb_dS S h x) (nI x)
    unfold b4_digestSwells_5
    rw [show nw_gS u 1 6 = nI (nb_ns (nb_VS S)) from hu.1.2.2.1.2.2.2.1]
    refine ⟨fun w => absurd w (nI_ge hx (by omega)), fun _ => ?_⟩
    refine pk_loop (fun m w v => f4_digestSwells_20 K (f4_digestSwells_5 K n) m v (nb_dW S 0 x (nb_dS S h x) w) (nI x) (nI w)) (fun w v => v = u) 3 0 u (by decide) rfl ?_ ?_
    · rintro m v rfl
      show b4_digestSwells_20 K (f4_digestSwells_5 K n) _ v (nb_dW S 0 x (nb_dS S h x) 3) (nI x) (nI 3)
      unfold b4_digestSwells_20
      refine ⟨fun _ => ?_, fun w => absurd (by decide) w⟩
      refine nb_agree4 hO hu ?_
      refine nb_agree4 hO hu ?_
      refine nb_often4 hO hu (fun s1 h1 c1 => ?_)
      refine nb_often4 hO h1 (fun s2 h2 c2 => ?_)
      rw [nI_1 x]
      exact ih s2 ⟨h2, (cu.tr c1).tr c2⟩
    · rintro m w v hw rfl ih2
      show b4_digestSwells_20 K (f4_digestSwells_5 K n) _ v (nb_dW S 0 x (nb_dS S h x) w) (nI x) (nI w)
      unfold b4_digestSwells_20
      have e := (nb_partOf (S := S) (Or.inl ⟨rfl, rfl⟩) hu.1.2.2.1 (by omega) (fun _ => hen) (nI x) (nI w)).2 x w hx hw rfl rfl
      have e : v4_swell v (nI x) (nI w) = nI (nb_pt 0 (S.2.1 0) x w) := e
      rw [e, nI_1 w]
      exact ⟨fun q => absurd q (nI_ge (b := 3) hw (by decide)), fun _ => ⟨nb_swO hO hu.1 _ _, ih2 v rfl⟩⟩
theorem nb_dgFi {K : Int64 → nw_ST → Prop} {S : nb_S} {σ : nw_ST} {h : Int64} (hO : nb_OK S) (hC : nb_C S σ) (hk : K (nb_dF S h (nb_nf S)) σ) : f4_digestFinds K σ h := by
  unfold f4_digestFinds
  have hen := nb_en1 S hO
  have hnf : nb_nf S ≤ 8 := hen
  have h46 : nw_gS σ 4 6 = nI (nb_nf S) := hC.1.2.2.2.1.2.2.2.1
  refine pk_loop (fun n x u => f4_digestFinds_5 K n u (nb_dF S h x) (nI x)) (fun x u => u = σ) (nb_nf S) 0 σ (Nat.zero_le _) rfl ?_ ?_
  · rintro n u rfl
    show b4_digestFinds_5 K _ u (nb_dF S h (nb_nf S)) (nI (nb_nf S))
    unfold b4_digestFinds_5
    rw [h46]
    exact ⟨fun _ => hk, fun w => absurd (nI_le (Nat.le_refl _) (by omega)) w⟩
  · rintro n x u hx rfl ih
    show b4_digestFinds_5 K _ u (nb_dF S h x) (nI x)
    unfold b4_digestFinds_5
    rw [h46]
    refine ⟨fun w => absurd w (nI_ge hx (by omega)), fun _ => ?_⟩
    refine pk_loop (fun m w v => f4_digestFinds_20 K (f4_digestFinds_5 K n) m v (nb_dW S 1 x (nb_dF S h x) w) (nI x) (nI w)) (fun w v => v = u) 3 0 u (by decide) rfl ?_ ?_
    · rintro m v rfl
      show b4_digestFinds_20 K (f4_digestFinds_5 K n) _ v (nb_dW S 1 x (nb_dF S h x) 3) (nI x) (nI 3)
      unfold b4_digestFinds_20
      rw [nI_1 x]
      exact ⟨fun _ => ih v rfl, fun w => absurd (by decide) w⟩
    · rintro m w v hw rfl ih2
      show b4_digestFinds_20 K (f4_digestFinds_5 K n) _ v (nb_dW S 1 x (nb_dF S h x) w) (nI x) (nI w)
      unfold b4_digestFinds_20
      have e := (nb_partOf (S := S) (Or.inr ⟨rfl, rfl⟩) hC.1.2.2.2.1 hen (fun q => absurd q (by decide)) (nI x) (nI w)).2 x w hx hw rfl rfl
      have e : v4_find v (nI x) (nI w) = nI (nb_pt 1 (S.2.1 1) x w) := e
      rw [e, nI_1 w]
      exact ⟨fun q => absurd q (nI_ge (b := 3) hw (by decide)), fun _ => ⟨nb_fiO hO hC.1 _ _, ih2 v rfl⟩⟩
theorem nb_dgTi {K : Int64 → nw_ST → Prop} {S : nb_S} {σ : nw_ST} {h : Int64} (hO : nb_OK S) (hC : nb_C S σ) (hk : ∀ s, nb_C S s → nb_Ch nb_cS nb_cA σ s → K (nb_dTt S h 4) s) : f4_digestTimes K σ h := by
  unfold f4_digestTimes
  generalize hT : nb_dTt S h 4 = T at hk
  refine pk_loop (fun n i u => f4_digestTimes_15 K n u (nb_dTt S h i) 4 (nI i)) (fun i u => nb_C S u ∧ nb_Ch nb_cS nb_cA σ u) 4 0 σ (by decide) ⟨hC, nb_Ch.rf⟩ ?_ ?_
  · rintro n u ⟨hu, cu⟩
    show b4_digestTimes_15 K _ u (nb_dTt S h 4) 4 (nI 4)
    rw [hT]
    unfold b4_digestTimes_15
    exact ⟨fun _ => hk u hu cu, fun w => absurd (by decide) w⟩
  · rintro n i u hi ⟨hu, cu⟩ ih
    show b4_digestTimes_15 K _ u (nb_dTt S h i) 4 (nI i)
    unfold b4_digestTimes_15
    rw [nI_clamp (show i < 2 ^ 31 by omega)]
    refine ⟨fun w => absurd w (nI_ge (b := 4) hi (by decide)), fun _ => ⟨vp_in_nI hi (by decide), nb_high4 hO hu (fun s1 h1 c1 => ?_)⟩⟩
    refine pk_loop (fun m w v => f4_digestTimes_46 K (f4_digestTimes_15 K n) m v (nb_dV S (nw_cst 67 i) (nb_hh (nb_dTt S h i) (nb_aHigh S (nw_cst 67 i))) w) 4 (nI i) (nw_cst 67 i) (nI w)) (fun w v => nb_C S v ∧ nb_Ch nb_cS nb_cA σ v) 3 0 s1 (by decide) ⟨h1, cu.tr c1⟩ ?_ ?_
    · rintro m v ⟨hv, cv⟩
      show b4_digestTimes_46 K (f4_digestTimes_15 K n) _ v (nb_dV S (nw_cst 67 i) (nb_hh (nb_dTt S h i) (nb_aHigh S (nw_cst 67 i))) 3) 4 (nI i) (nw_cst 67 i) (nI 3)
      unfold b4_digestTimes_46
      refine ⟨fun _ => nb_called4 hO hv (fun s2 h2 c2 => ?_), fun w => absurd (by decide) w⟩
      rw [nI_1 i]
      exact ih s2 ⟨h2, cv.tr c2⟩
    · rintro m w v hw ⟨hv, cv⟩ ih2
      show b4_digestTimes_46 K (f4_digestTimes_15 K n) _ v (nb_dV S (nw_cst 67 i) (nb_hh (nb_dTt S h i) (nb_aHigh S (nw_cst 67 i))) w) 4 (nI i) (nw_cst 67 i) (nI w)
      unfold b4_digestTimes_46
      refine ⟨fun q => absurd q (nI_ge (b := 3) hw (by decide)), fun _ => nb_wave4 hO hv (fun s2 h2 c2 => ?_)⟩
      rw [nI_1 w]
      exact ih2 s2 ⟨h2, cv.tr c2⟩
theorem nb_dgNu {K : Int64 → nw_ST → Prop} {S : nb_S} {σ : nw_ST} {h : Int64} (hO : nb_OK S) (hC : nb_C S σ) (hk : ∀ s, nb_C S s → nb_Ch nb_cS nb_cA σ s → K (nb_dNt S h 3) s) : f4_digestNumbers K σ h := by
  unfold f4_digestNumbers
  generalize hT : nb_dNt S h 3 = T at hk
  refine pk_loop (fun n i u => f4_digestNumbers_15 K n u (nb_dNt S h i) 3 (nI i)) (fun i u => nb_C S u ∧ nb_Ch nb_cS nb_cA σ u) 3 0 σ (by decide) ⟨hC, nb_Ch.rf⟩ ?_ ?_
  · rintro n u ⟨hu, cu⟩
    show b4_digestNumbers_15 K _ u (nb_dNt S h 3) 3 (nI 3)
    rw [hT]
    unfold b4_digestNumbers_15
    exact ⟨fun _ => hk u hu cu, fun w => absurd (by decide) w⟩
  · rintro n i u hi ⟨hu, cu⟩ ih
    show b4_digestNumbers_15 K _ u (nb_dNt S h i) 3 (nI i)
    unfold b4_digestNumbers_15
    rw [nI_clamp (show i < 2 ^ 31 by omega)]
    refine ⟨fun w => absurd w (nI_ge (b := 3) hi (by decide)), fun _ => ⟨vp_in_nI hi (by decide), nb_when4 hO hu (fun s1 h1 c1 => ?_)⟩⟩
    refine nb_brings4 hO h1 (fun s2 h2 c2 => ?_)
    rw [nI_1 i]
    exact ih s2 ⟨h2, (cu.tr c1).tr c2⟩
theorem nb_dgTk {K : Int64 → nw_ST → Prop} {S : nb_S} {σ : nw_ST} {h : Int64} (hO : nb_OK S) (hC : nb_C S σ) (hk : ∀ s, nb_C S s → nb_Ch nb_cS nb_cA σ s → K (nb_dG S (nb_dH S h 8) (S.1 5)) s) : f4_digestTickets K σ h := by
  unfold f4_digestTickets
  have hb5 := hO.2.2.2.2.1.1
  generalize hT : nb_dH S h 8 = T at hk
  refine pk_loop (fun n i u => f4_digestTickets_5 K n u (nb_dH S h i) (nI i)) (fun i u => nb_C S u ∧ nb_Ch nb_cS nb_cA σ u) 8 0 σ (by decide) ⟨hC, nb_Ch.rf⟩ ?_ ?_
  · rintro n u ⟨hu, cu⟩
    show b4_digestTickets_5 K _ u (nb_dH S h 8) (nI 8)
    rw [hT]
    unfold b4_digestTickets_5
    refine ⟨fun _ => ?_, fun w => absurd (by decide) w⟩
    refine pk_loop (fun n i v => f4_digestTickets_65 K n v (nb_dG S T i) (nI i)) (fun i v => nb_C S v ∧ nb_Ch nb_cS nb_cA σ v) (S.1 5) 0 u (Nat.zero_le _) ⟨hu, cu⟩ ?_ ?_
    · rintro n v ⟨hv, cv⟩
      show b4_digestTickets_65 K _ v (nb_dG S T (S.1 5)) (nI (S.1 5))
      unfold b4_digestTickets_65
      rw [hv.1.2.2.2.2.2.2.1.1]
      exact ⟨fun _ => hk v hv cv, fun w => absurd (nI_le (Nat.le_refl _) (by omega)) w⟩
    · rintro n i v hi ⟨hv, cv⟩ ih
      show b4_digestTickets_65 K _ v (nb_dG S T i) (nI i)
      unfold b4_digestTickets_65
      rw [hv.1.2.2.2.2.2.2.1.1]
      refine ⟨fun w => absurd w (nI_ge hi (by omega)), fun _ => nb_goodC hO hv (fun s2 h2 c2 => ?_)⟩
      rw [nI_1 i]
      exact ih s2 ⟨h2, cv.tr c2⟩
  · rintro n i u hi ⟨hu, cu⟩ ih
    show b4_digestTickets_5 K _ u (nb_dH S h i) (nI i)
    unfold b4_digestTickets_5
    refine ⟨fun w => absurd w (nI_ge (b := 8) hi (by decide)), fun _ => nb_claims4 hO hu (fun s1 h1 c1 => ?_)⟩
    refine nb_earn4 hO h1 (fun s2 h2 c2 => ?_)
    refine nb_earn4 hO h2 (fun s3 h3 c3 => ?_)
    rw [nI_1 i]
    exact ih s3 ⟨h3, ((cu.tr c1).tr c2).tr c3⟩
theorem nb_dgPl {K : Int64 → nw_ST → Prop} {S : nb_S} {σ : nw_ST} {h : Int64} (hO : nb_OK S) (hC : nb_C S σ) (hk : ∀ s, nb_C S s → nb_Ch nb_cS nb_cA σ s → K (nb_dP S h) s) : f4_digestPlans K σ h := by
  unfold f4_digestPlans
  refine nb_run4 hO hC (fun s1 h1 c1 => ?_)
  refine nb_run4 hO h1 (fun s2 h2 c2 => ?_)
  refine nb_bar4 hO h2 (fun s3 h3 c3 => ?_)
  refine nb_skipped4 hO h3 (fun s4 h4 c4 => ?_)
  refine nb_voids4 hO h4 (fun s5 h5 c5 => ?_)
  refine nb_voids4 hO h5 (fun s6 h6 c6 => ?_)
  refine nb_hoarse4 hO h6 (fun s7 h7 c7 => ?_)
  refine nb_hoarse4 hO h7 (fun s8 h8 c8 => ?_)
  refine nb_storm4 hO h8 (fun s9 h9 c9 => ?_)
  refine nb_storm4 hO h9 (fun s h c => ?_)
  exact hk s h ((((((((((c1.tr c2).tr c3).tr c4).tr c5).tr c6).tr c7).tr c8).tr c9).tr c))
theorem nb_digest4 {K : Int64 → nw_ST → Prop} {S : nb_S} {σ : nw_ST} (hO : nb_OK S) (hC : nb_C S σ) (hk : ∀ s, nb_C S s → nb_Ch nb_cS nb_cA σ s → K (nb_dZ S) s) : f4_digest K σ := by
  unfold f4_digest
  unfold nb_dZ at hk
  generalize hT : nb_dC S 8 = T at hk
  refine pk_loop (fun n i u => f4_digest_6 K n u (nb_dC S i) (nI i)) (fun i u => nb_C S u ∧ nb_Ch nb_cS nb_cA σ u) 8 0 σ (by decide) ⟨hC, nb_Ch.rf⟩ ?_ ?_
  · rintro n u ⟨hu, cu⟩
    show b4_digest_6 K _ u (nb_dC S 8) (nI 8)
    rw [hT]
    unfold b4_digest_6
    have f0 : v4_fault u 0 = nb_fl 0 (S.2.1 0) (S.1 0) := by
      unfold v4_fault
      rw [if_neg (by decide)]
      exact (nb_flT hu.1).1
    have f1 : v4_fault u 1 = nb_fl 1 (S.2.1 1) (S.1 1) := by
      unfold v4_fault
      rw [if_neg (by decide)]
      exact (nb_flT hu.1).2
    rw [f0, f1]
    refine ⟨fun _ => ?_, fun w => absurd (by decide) w⟩
    refine nb_dgSw hO hu (fun s1 h1 c1 => ?_)
    refine nb_dgFi hO h1 ?_
    refine nb_dgTi hO h1 (fun s2 h2 c2 => ?_)
    refine nb_dgNu hO h2 (fun s3 h3 c3 => ?_)
    refine nb_dgTk hO h3 (fun s4 h4 c4 => ?_)
    refine nb_dgPl hO h4 (fun s5 h5 c5 => ?_)
    exact hk s5 h5 (((((cu.tr c1).tr c2).tr c3).tr c4).tr c5)
  · rintro n i u hi ⟨hu, cu⟩ ih
    show b4_digest_6 K _ u (nb_dC S i) (nI i)
    unfold b4_digest_6
    refine ⟨fun w => absurd ((nI_ltI (a := 7) (by decide) (by omega)).mp w) (by omega), fun _ => nb_count4 hO hu (fun s1 h1 c1 => ?_)⟩
    rw [nI_1 i]
    exact ih s1 ⟨h1, cu.tr c1⟩
