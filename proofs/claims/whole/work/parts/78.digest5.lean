/-! ===== digest: the reference ===== -/
theorem nb_highOf {K : Int32 → nw_ST → Prop} {S : nb_S} {σ : nw_ST} {a : Int32} (hO : nb_OK S) (hM : nb_MP S σ) (hz : ¬ v5_in a 0 239 = 0) (hk : ∀ s, nb_MP S s → nb_Ch nb_mS nb_mA σ s → K (nb_aHigh S a) s) : f5_highOf K σ a := by
  have h := nb_high5 hO hM hk
  unfold f5_high at h
  exact h.2 hz
theorem nb_waveOf {K : Int32 → nw_ST → Prop} {S : nb_S} {σ : nw_ST} {a b : Int32} (hO : nb_OK S) (hM : nb_MP S σ) (hz : ¬ v5_in a 0 239 = 0) (hy : ¬ v5_in b 0 2 = 0) (hk : ∀ s, nb_MP S s → nb_Ch nb_mS nb_mA σ s → K (nb_aWave S a b) s) : f5_waveOf K σ a b := by
  have h := nb_wave5 hO hM hk
  unfold f5_wave at h
  exact (h.2 hz).2 hy
theorem nb_calledOf {K : Int32 → nw_ST → Prop} {S : nb_S} {σ : nw_ST} {a b : Int32} (hO : nb_OK S) (hM : nb_MP S σ) (hz : ¬ v5_in a 0 239 = 0) (hy : ¬ v5_in b 0 239 = 0) (hk : ∀ s, nb_MP S s → nb_Ch nb_mS nb_mA σ s → K (nb_aCalled S a b) s) : f5_calledOf K σ a b := by
  have h := nb_called5 hO hM hk
  unfold f5_called at h
  exact (h.2 hz).2 hy
theorem nb_whenOf {K : Int32 → nw_ST → Prop} {S : nb_S} {σ : nw_ST} {a : Int32} (hO : nb_OK S) (hM : nb_MP S σ) (hz : ¬ v5_in a 1 400 = 0) (hk : ∀ s, nb_MP S s → nb_Ch nb_mS nb_mA σ s → K (nb_aWhen S a) s) : f5_whenOf K σ a := by
  have h := nb_when5 hO hM hk
  unfold f5_when at h
  exact h.2 hz
theorem nb_bringsOf {K : Int32 → nw_ST → Prop} {S : nb_S} {σ : nw_ST} {a : Int32} (hO : nb_OK S) (hM : nb_MP S σ) (hz : ¬ v5_in a 1 400 = 0) (hk : ∀ s, nb_MP S s → nb_Ch nb_mS nb_mA σ s → K (nb_aBrings S a) s) : f5_bringsOf K σ a := by
  have h := nb_brings5 hO hM hk
  unfold f5_brings at h
  exact h.2 hz
theorem nb_claimsD {K : Int32 → nw_ST → Prop} {S : nb_S} {σ : nw_ST} {a : Int32} (hO : nb_OK S) (hM : nb_MP S σ) (hz : ¬ v5_in a 0 7 = 0) (hk : ∀ s, nb_MP S s → nb_Ch nb_mS nb_mA σ s → K (nb_aClaims S a) s) : f5_claimsOf K σ a := by
  have h := nb_claims5 hO hM hk
  unfold f5_claims at h
  exact h.2 hz
theorem nb_earnOf {K : Int32 → nw_ST → Prop} {S : nb_S} {σ : nw_ST} {a b : Int32} (hO : nb_OK S) (hM : nb_MP S σ) (hz : ¬ v5_in a 0 7 = 0) (hy : ¬ v5_in b 0 1 = 0) (hk : ∀ s, nb_MP S s → nb_Ch nb_mS nb_mA σ s → K (nb_aEarn S a b) s) : f5_earnOf K σ a b := by
  have h := nb_earn5 hO hM hk
  unfold f5_earn at h
  exact (h.2 hz).2 hy
theorem nb_goodOf {K : Int32 → nw_ST → Prop} {S : nb_S} {σ : nw_ST} {k : Nat} (hO : nb_OK S) (hM : nb_MP S σ) (hz : k < S.1 5) (hk : ∀ s, nb_MP S s → nb_Ch nb_mS nb_mA σ s → K (nb_aGood S (nI k)) s) : f5_goodOf K σ (nI k) := by
  have h := nb_goodR hO hM hk
  unfold f5_good at h
  have hb := hO.2.2.2.2.1.1
  rw [hM.2.2.2.2.1.1, nb_belowS (by omega)] at h
  refine h.2 ?_
  rw [nb_below_iff, Classical.not_not]
  exact ⟨nI_pos' (by omega), nI_lt hz (by omega)⟩
theorem nb_runOf {K : Int32 → nw_ST → Prop} {S : nb_S} {σ : nw_ST} {a b : Int32} (hO : nb_OK S) (hM : nb_MP S σ) (hz : ¬ v5_in a 1 9 = 0) (hy : ¬ v5_in b 0 1 = 0) (hk : ∀ s, nb_MP S s → nb_Ch nb_mS nb_mA σ s → K (nb_aRun S a b) s) : f5_runOf K σ a b := by
  have h := nb_run5 hO hM hk
  unfold f5_run at h
  exact (h.2 hz).2 hy
theorem nb_barOf {K : Int32 → nw_ST → Prop} {S : nb_S} {σ : nw_ST} {a : Int32} (hO : nb_OK S) (hM : nb_MP S σ) (hz : ¬ v5_in a 0 240 = 0) (hk : ∀ s, nb_MP S s → nb_Ch nb_mS nb_mA σ s → K (nb_aBar S a) s) : f5_barOf K σ a := by
  have h := nb_bar5 hO hM hk
  unfold f5_bar at h
  exact h.2 hz
theorem nb_skippedOf {K : Int32 → nw_ST → Prop} {S : nb_S} {σ : nw_ST} {a : Int32} (hO : nb_OK S) (hM : nb_MP S σ) (hz : ¬ v5_in a 1 11 = 0) (hk : ∀ s, nb_MP S s → nb_Ch nb_mS nb_mA σ s → K (nb_aSkipped S a) s) : f5_skippedOf K σ a := by
  have h := nb_skipped5 hO hM hk
  unfold f5_skipped at h
  exact h.2 hz
theorem nb_voidsOf {K : Int32 → nw_ST → Prop} {S : nb_S} {σ : nw_ST} {a : Int32} (hO : nb_OK S) (hM : nb_MP S σ) (hz : ¬ v5_in a (-1) 239 = 0) (hk : ∀ s, nb_MP S s → nb_Ch nb_mS nb_mA σ s → K (nb_aVoids S a) s) : f5_voidsOf K σ a := by
  have h := nb_voids5 hO hM hk
  unfold f5_voids at h
  exact h.2 hz
theorem nb_hoarseOf {K : Int64 → nw_ST → Prop} {S : nb_S} {σ : nw_ST} {a b d : Int32} (hO : nb_OK S) (hM : nb_MP S σ) (hz : ¬ v5_in a 0 16 = 0) (hy : ¬ v5_in b 1 12 = 0) (hx : ¬ v5_in d 0 1 = 0) (hk : ∀ s, nb_MP S s → nb_Ch nb_mS nb_mA σ s → K (nb_aHoarse S a b d) s) : f5_hoarseOf K σ a b d := by
  have h := nb_hoarse5 hO hM hk
  unfold f5_hoarse at h
  exact ((h.2 hz).2 hy).2 hx
theorem nb_stormOf {K : Int32 → nw_ST → Prop} {S : nb_S} {σ : nw_ST} {a b c : Int32} (hO : nb_OK S) (hM : nb_MP S σ) (hz : ¬ v5_in b 1 99 = 0) (hy : ¬ v5_in c 0 1 = 0) (hk : ∀ s, nb_MP S s → nb_Ch nb_mS nb_mA σ s → K (nb_aStorm S a b c) s) : f5_stormOf K σ a b c := by
  have h := nb_storm5 hO hM hk
  unfold f5_storm at h
  exact (h.2 hz).2 hy
theorem nb_aOftenE {S : nb_S} {x : Nat} {b : Int32} (hO : nb_OK S) (hx : x < nb_ns (nb_VS S)) (hb : ¬ v5_in b (-1) 97 = 0) : nb_aOften S (nI x) b = nb_iP S x b := by
  have hen := nb_en0 S hO
  have hns : nb_ns (nb_VS S) ≤ 6 := hen
  unfold nb_aOften
  rw [if_neg (by rw [nb_below_iff, Classical.not_not]; exact ⟨nI_pos' (by omega), nI_lt hx (by omega)⟩), if_neg hb, nI_clamp (by omega)]
theorem nb_swD {K : Int64 → nw_ST → Prop} {S : nb_S} {σ : nw_ST} {h : Int64} {x : Nat} (hO : nb_OK S) (hM : nb_MP S σ) (hR : nb_RD S σ) (hx : x < nb_ns (nb_VS S)) (hk : ∀ s, nb_MP S s → nb_Ch nb_mS nb_mA σ s → nb_RD S s → K (nb_dS1 S h x) s) : f5_swellDigest K σ h (nI x) := by
  unfold f5_swellDigest
  have hen := nb_en0 S hO
  have hns : nb_ns (nb_VS S) ≤ 6 := hen
  refine pk_loop (fun m w v => f5_swellDigest_6 K m v (nI x) (nb_dW S 0 x h w) (nI w)) (fun w v => v = σ) 3 0 σ (by decide) rfl ?_ ?_
  · rintro m v rfl
    show b5_swellDigest_6 K _ v (nI x) (nb_dW S 0 x h 3) (nI 3)
    unfold b5_swellDigest_6
    refine ⟨fun _ => ?_, fun w => absurd (by decide) w⟩
    refine nb_agree5 hO hM (fun s1 m1 c1 r1 => ?_)
    refine nb_agree5 hO m1 (fun s2 m2 c2 r2 => ?_)
    refine nb_oftenOf hO m2 hx (fun s3 m3 c3 r3 => ?_)
    refine nb_oftenOf hO m3 hx (fun s4 m4 c4 r4 => ?_)
    have := hk s4 m4 (((c1.tr c2).tr c3).tr c4) r4
    unfold nb_dS1 at this
    rw [nb_aOftenE hO hx (by decide), nb_aOftenE hO hx (by decide)] at this
    exact this
  · rintro m w v hw rfl ih
    show b5_swellDigest_6 K _ v (nI x) (nb_dW S 0 x h w) (nI w)
    unfold b5_swellDigest_6
    have e : v5_swellOf v (nI x) (nI w) = nI (nb_pt 0 (S.2.1 0) x w) := by
      have hg := hR.1.2 x hx w hw
      unfold v5_swellOf
      rw [nI_clamp (show x < 2 ^ 31 by omega), ← hg]
      rcases (show w = 0 ∨ w = 1 ∨ w = 2 by omega) with rfl | rfl | rfl <;> rfl
    have o : o5_swellOf v (nI x) (nI w) := ⟨fun _ => vp_in_nI (by omega) (by decide), fun _ => ⟨fun _ => vp_in_nI (by omega) (by decide), fun _ => vp_in_nI (by omega) (by decide)⟩⟩
    rw [e, nI_1 w]
    exact ⟨fun q => absurd q (nI_ge (b := 3) hw (by decide)), fun _ => ⟨o, ih v rfl⟩⟩
theorem nb_tiD {K : Int64 → nw_ST → Prop} {S : nb_S} {σ : nw_ST} {h : Int64} {a : Int32} (hO : nb_OK S) (hM : nb_MP S σ) (hz : ¬ v5_in a 0 239 = 0) (hk : ∀ s, nb_MP S s → nb_Ch nb_mS nb_mA σ s → K (nb_dT S h a) s) : f5_timeDigest K σ h a := by
  unfold f5_timeDigest
  refine nb_highOf hO hM hz (fun s1 m1 c1 => ?_)
  refine pk_loop (fun m w v => f5_timeDigest_17 K m v a (nb_dV S a (nb_hh h (nb_aHigh S a)) w) (nI w)) (fun w v => nb_MP S v ∧ nb_Ch nb_mS nb_mA σ v) 3 0 s1 (by decide) ⟨m1, c1⟩ ?_ ?_
  · rintro m v ⟨hv, cv⟩
    show b5_timeDigest_17 K _ v a (nb_dV S a (nb_hh h (nb_aHigh S a)) 3) (nI 3)
    unfold b5_timeDigest_17
    exact ⟨fun _ => nb_calledOf hO hv (by decide) hz (fun s2 m2 c2 => hk s2 m2 (cv.tr c2)), fun w => absurd (by decide) w⟩
  · rintro m w v hw ⟨hv, cv⟩ ih
    show b5_timeDigest_17 K _ v a (nb_dV S a (nb_hh h (nb_aHigh S a)) w) (nI w)
    unfold b5_timeDigest_17
    have hy : ¬ v5_in (nI w) 0 2 = 0 := by rcases (show w = 0 ∨ w = 1 ∨ w = 2 by omega) with rfl | rfl | rfl <;> decide
    refine ⟨fun q => absurd q (nI_ge (b := 3) hw (by decide)), fun _ => nb_waveOf hO hv hz hy (fun s2 m2 c2 => ?_)⟩
    rw [nI_1 w]
    exact ih s2 ⟨m2, cv.tr c2⟩
theorem nb_nuD {K : Int64 → nw_ST → Prop} {S : nb_S} {σ : nw_ST} {h : Int64} {a : Int32} (hO : nb_OK S) (hM : nb_MP S σ) (hz : ¬ v5_in a 1 400 = 0) (hk : ∀ s, nb_MP S s → nb_Ch nb_mS nb_mA σ s → K (nb_dN S h a) s) : f5_numberDigest K σ h a := by
  unfold f5_numberDigest
  refine nb_whenOf hO hM hz (fun s1 m1 c1 => ?_)
  refine nb_bringsOf hO m1 hz (fun s2 m2 c2 => ?_)
  exact hk s2 m2 (c1.tr c2)
theorem nb_r237 {K : Int64 → nw_ST → Prop} {S : nb_S} {σ : nw_ST} {h : Int64} (hO : nb_OK S) (hM : nb_MP S σ) (hk : ∀ s, nb_MP S s → nb_Ch nb_mS nb_mA σ s → K (nb_dP S (nb_dG S h (S.1 5))) s) : ∃ n, f5_digest_237 K n σ h 0 := by
  have hb5 := hO.2.2.2.2.1.1
  refine pk_loop (fun n i v => f5_digest_237 K n v (nb_dG S h i) (nI i)) (fun i v => nb_MP S v ∧ nb_Ch nb_mS nb_mA σ v) (S.1 5) 0 σ (Nat.zero_le _) ⟨hM, nb_Ch.rf⟩ ?_ ?_
  · rintro n v ⟨hv, cv⟩
    show b5_digest_237 K _ v (nb_dG S h (S.1 5)) (nI (S.1 5))
    unfold b5_digest_237
    rw [hv.2.2.2.2.1.1]
    refine ⟨fun _ => ?_, fun w => absurd (nI_le (Nat.le_refl _) (by omega)) w⟩
    refine nb_runOf hO hv (by decide) (by decide) (fun s1 h1 c1 => ?_)
    refine nb_runOf hO h1 (by decide) (by decide) (fun s2 h2 c2 => ?_)
    refine nb_barOf hO h2 (by decide) (fun s3 h3 c3 => ?_)
    refine nb_skippedOf hO h3 (by decide) (fun s4 h4 c4 => ?_)
    refine nb_voidsOf hO h4 (by decide) (fun s5 h5 c5 => ?_)
    refine nb_voidsOf hO h5 (by decide) (fun s6 h6 c6 => ?_)
    refine nb_hoarseOf hO h6 (by decide) (by decide) (by decide) (fun s7 h7 c7 => ?_)
    refine nb_hoarseOf hO h7 (by decide) (by decide) (by decide) (fun s8 h8 c8 => ?_)
    refine nb_stormOf hO h8 (by decide) (by decide) (fun s9 h9 c9 => ?_)
    refine nb_stormOf hO h9 (by decide) (by decide) (fun s h c => ?_)
    exact hk s h ((((((((((cv.tr c1).tr c2).tr c3).tr c4).tr c5).tr c6).tr c7).tr c8).tr c9).tr c)
  · rintro n i v hi ⟨hv, cv⟩ ih
    show b5_digest_237 K _ v (nb_dG S h i) (nI i)
    unfold b5_digest_237
    rw [hv.2.2.2.2.1.1]
    refine ⟨fun w => absurd w (nI_ge hi (by omega)), fun _ => nb_goodOf hO hv hi (fun s2 h2 c2 => ?_)⟩
    rw [nI_1 i]
    exact ih s2 ⟨h2, cv.tr c2⟩
theorem nb_r182 {K : Int64 → nw_ST → Prop} {S : nb_S} {σ : nw_ST} {h : Int64} (hO : nb_OK S) (hM : nb_MP S σ) (hk : ∀ s, nb_MP S s → nb_Ch nb_mS nb_mA σ s → K (nb_dP S (nb_dG S (nb_dH S h 8) (S.1 5))) s) : ∃ n, f5_digest_182 K n σ h 0 := by
  generalize hT : nb_dH S h 8 = T at hk
  refine pk_loop (fun n i v => f5_digest_182 K n v (nb_dH S h i) (nI i)) (fun i v => nb_MP S v ∧ nb_Ch nb_mS nb_mA σ v) 8 0 σ (by decide) ⟨hM, nb_Ch.rf⟩ ?_ ?_
  · rintro n v ⟨hv, cv⟩
    show b5_digest_182 K _ v (nb_dH S h 8) (nI 8)
    rw [hT]
    unfold b5_digest_182
    exact ⟨fun _ => nb_r237 hO hv (fun s hs cs => hk s hs (cv.tr cs)), fun w => absurd (by decide) w⟩
  · rintro n i v hi ⟨hv, cv⟩ ih
    show b5_digest_182 K _ v (nb_dH S h i) (nI i)
    unfold b5_digest_182
    have hz : ¬ v5_in (nI i) 0 7 = 0 := by
      rw [nb_in_iff, Classical.not_not]
      exact ⟨nI_pos' (by omega), nI_le (b := 7) (by omega) (by decide)⟩
    refine ⟨fun w => absurd w (nI_ge (b := 8) hi (by decide)), fun _ => nb_claimsD hO hv hz (fun s1 h1 c1 => ?_)⟩
    refine nb_earnOf hO h1 hz (by decide) (fun s2 h2 c2 => ?_)
    refine nb_earnOf hO h2 hz (by decide) (fun s3 h3 c3 => ?_)
    rw [nI_1 i]
    exact ih s3 ⟨h3, ((cv.tr c1).tr c2).tr c3⟩
theorem nb_r82 {K : Int64 → nw_ST → Prop} {S : nb_S} {σ : nw_ST} {h : Int64} (hO : nb_OK S) (hM : nb_MP S σ) (hR : nb_RD S σ) (hk : ∀ s, nb_MP S s → nb_Ch nb_mS nb_mA σ s → K (nb_dP S (nb_dG S (nb_dH S (nb_dNt S (nb_dTt S (nb_dF S h (nb_nf S)) 4) 3) 8) (S.1 5))) s) : ∃ n, f5_digest_82 K n σ h 0 := by
  have hen := nb_en1 S hO
  have hnf : nb_nf S ≤ 8 := hen
  have h6 : nw_gS σ 37 6 = nI (nb_nf S) := hR.2.1
  refine pk_loop (fun n x v => f5_digest_82 K n v (nb_dF S h x) (nI x)) (fun x v => v = σ) (nb_nf S) 0 σ (Nat.zero_le _) rfl ?_ ?_
  · rintro n v rfl
    show b5_digest_82 K _ v (nb_dF S h (nb_nf S)) (nI (nb_nf S))
    unfold b5_digest_82
    rw [h6]
    refine ⟨fun _ => ?_, fun w => absurd (nI_le (Nat.le_refl _) (by omega)) w⟩
    generalize nb_dF S h (nb_nf S) = X at hk ⊢
    have eT : nb_dTt S X 4 = nb_dT S (nb_dT S (nb_dT S (nb_dT S X 0) 1) 60) 239 := rfl
    have eN : ∀ Y, nb_dNt S Y 3 = nb_dN S (nb_dN S (nb_dN S Y 1) 7) 40 := fun Y => rfl
    rw [eT, eN] at hk
    refine nb_tiD hO hM (by decide) (fun s1 h1 c1 => ?_)
    refine nb_tiD hO h1 (by decide) (fun s2 h2 c2 => ?_)
    refine nb_tiD hO h2 (by decide) (fun s3 h3 c3 => ?_)
    refine nb_tiD hO h3 (by decide) (fun s4 h4 c4 => ?_)
    refine nb_nuD hO h4 (by decide) (fun s5 h5 c5 => ?_)
    refine nb_nuD hO h5 (by decide) (fun s6 h6 c6 => ?_)
    refine nb_nuD hO h6 (by decide) (fun s7 h7 c7 => ?_)
    exact nb_r182 hO h7 (fun s hs cs => hk s hs (((((((c1.tr c2).tr c3).tr c4).tr c5).tr c6).tr c7).tr cs))
  · rintro n x v hx rfl ih
    show b5_digest_82 K _ v (nb_dF S h x) (nI x)
    unfold b5_digest_82
    rw [h6]
    refine ⟨fun w => absurd w (nI_ge hx (by omega)), fun _ => ?_⟩
    refine pk_loop (fun m w u => f5_digest_93 K (f5_digest_82 K n) m u (nb_dW S 1 x (nb_dF S h x) w) (nI x) (nI w)) (fun w u => u = v) 3 0 v (by decide) rfl ?_ ?_
    · rintro m u rfl
      show b5_digest_93 K (f5_digest_82 K n) _ u (nb_dW S 1 x (nb_dF S h x) 3) (nI x) (nI 3)
      unfold b5_digest_93
      rw [nI_1 x]
      exact ⟨fun _ => ih u rfl, fun w => absurd (by decide) w⟩
    · rintro m w u hw rfl ih2
      show b5_digest_93 K (f5_digest_82 K n) _ u (nb_dW S 1 x (nb_dF S h x) w) (nI x) (nI w)
      unfold b5_digest_93
      have e : v5_findOf u (nI x) (nI w) = nI (nb_pt 1 (S.2.1 1) x w) := by
        have hg := hR.2.2 x hx w hw
        unfold v5_findOf
        rw [nI_clamp (show x < 2 ^ 31 by omega), ← hg]
        rcases (show w = 0 ∨ w = 1 ∨ w = 2 by omega) with rfl | rfl | rfl <;> rfl
      have o : o5_findOf u (nI x) (nI w) := ⟨fun _ => vp_in_nI (by omega) (by decide), fun _ => ⟨fun _ => vp_in_nI (by omega) (by decide), fun _ => vp_in_nI (by omega) (by decide)⟩⟩
      rw [e, nI_1 w]
      exact ⟨fun q => absurd q (nI_ge (b := 3) hw (by decide)), fun _ => ⟨o, ih2 u rfl⟩⟩
theorem nb_r59 {K : Int64 → nw_ST → Prop} {S : nb_S} {σ : nw_ST} {h : Int64} (hO : nb_OK S) (hM : nb_MP S σ) (hR : nb_RD S σ) (hk : ∀ s, nb_MP S s → nb_Ch nb_mS nb_mA σ s → K (nb_dP S (nb_dG S (nb_dH S (nb_dNt S (nb_dTt S (nb_dF S (nb_dS S h (nb_ns (nb_VS S))) (nb_nf S)) 4) 3) 8) (S.1 5))) s) : ∃ n, f5_digest_59 K n σ h 0 := by
  have hen := nb_en0 S hO
  have hns : nb_ns (nb_VS S) ≤ 6 := hen
  refine pk_loop (fun n x v => f5_digest_59 K n v (nb_dS S h x) (nI x)) (fun x v => nb_MP S v ∧ nb_Ch nb_mS nb_mA σ v ∧ nb_RD S v) (nb_ns (nb_VS S)) 0 σ (Nat.zero_le _) ⟨hM, nb_Ch.rf, hR⟩ ?_ ?_
  · rintro n v ⟨hv, cv, rv⟩
    show b5_digest_59 K _ v (nb_dS S h (nb_ns (nb_VS S))) (nI (nb_ns (nb_VS S)))
    unfold b5_digest_59
    rw [show nw_gS v 37 2 = nI (nb_ns (nb_VS S)) from rv.1.1]
    exact ⟨fun _ => nb_r82 hO hv rv (fun s hs cs => hk s hs (cv.tr cs)), fun w => absurd (nI_le (Nat.le_refl _) (by omega)) w⟩
  · rintro n x v hx ⟨hv, cv, rv⟩ ih
    show b5_digest_59 K _ v (nb_dS S h x) (nI x)
    unfold b5_digest_59
    rw [show nw_gS v 37 2 = nI (nb_ns (nb_VS S)) from rv.1.1]
    refine ⟨fun w => absurd w (nI_ge hx (by omega)), fun _ => nb_swD hO hv rv hx (fun s hs cs rs => ?_)⟩
    rw [nI_1 x]
    exact ih s ⟨hs, cv.tr cs, rs⟩
theorem nb_digest5 {K : Int64 → nw_ST → Prop} {S : nb_S} {σ : nw_ST} (hO : nb_OK S) (hM : nb_MP S σ) (hk : ∀ s, nb_MP S s → nb_Ch nb_mS nb_mA σ s → K (nb_dZ S) s) : f5_digest K σ := by
  unfold f5_digest
  unfold nb_dZ at hk
  generalize hT : nb_dC S 8 = T at hk
  refine pk_loop (fun n i u => f5_digest_6 K n u (nb_dC S i) (nI i)) (fun i u => nb_MP S u ∧ nb_Ch nb_mS nb_mA σ u) 8 0 σ (by decide) ⟨hM, nb_Ch.rf⟩ ?_ ?_
  · rintro n u ⟨hu, cu⟩
    show b5_digest_6 K _ u (nb_dC S 8) (nI 8)
    rw [hT]
    unfold b5_digest_6
    refine ⟨fun _ => ?_, fun w => absurd (by decide) w⟩
    refine nb_faultOf (t := 0) (by decide) hO hu (fun s1 h1 c1 r1 => ?_)
    refine nb_faultOf (t := 1) (by decide) hO h1 (fun s2 h2 c2 r2 => ?_)
    exact nb_r59 hO h2 r2 (fun s hs cs => hk s hs (((cu.tr (nb_rCh c1)).tr (nb_rCh c2)).tr cs))
  · rintro n i u hi ⟨hu, cu⟩ ih
    show b5_digest_6 K _ u (nb_dC S i) (nI i)
    unfold b5_digest_6
    refine ⟨fun w => absurd w (nI_ge (b := 8) hi (by decide)), fun _ => nb_count5 hO hu (fun s1 h1 c1 => ?_)⟩
    rw [nI_1 i]
    exact ih s1 ⟨h1, cu.tr c1⟩
theorem nb_step37 : nl_S37 nb_Inv := by
  intro σ ⟨S, hO, hC, hM⟩
  refine nb_digest4 hO hC (fun s1 h1 c1 => ?_)
  show f5_digest _ s1
  exact nb_digest5 hO (hM.other c1) (fun s2 h2 c2 => ⟨rfl, S, hO, h1.other c2, h2⟩)
