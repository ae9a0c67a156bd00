/-! ===== high, wave, when, called, brings ===== -/
theorem nb_nu_le {V : nb_V} (hB : nb_VB V) (k : Nat) : nb_nu V k ≤ k + 13000 := nb_nuB (B := 1000) hB.2.2.2.2.1 (fun i hi => (hB.2.2.2.2.2 i hi).2.2)
theorem nb_at_le {V : nb_V} (hB : nb_VB V) (t : Nat) : nb_at V t ≤ t + 13001 := by
  unfold nb_at
  have := nb_nu_le hB (nb_ct V (t + 1))
  have := nb_ct_le V (t + 1)
  split <;> omega
theorem nb_at0 {V : nb_V} {t : Nat} : nb_at V t = 0 ↔ nb_ca V t = false := by
  unfold nb_at
  cases h : nb_ca V t
  · simp
  · have := nb_nu_pos V (nb_ct V (t + 1))
    rw [nb_ctS, h] at this
    rw [if_pos rfl, nb_ctS, h]
    simp only [if_true] at this ⊢
    constructor
    · intro z; omega
    · intro z; cases z
theorem nb_tu0 {V : nb_V} {t : Nat} : nb_tu V t = 0 ↔ nb_ca V t = false := by
  unfold nb_tu
  cases h : nb_ca V t
  · simp
  · rw [if_pos rfl, nb_ctS, h]; simp
theorem nb_tu_le (V : nb_V) (t : Nat) : nb_tu V t ≤ t + 1 := by
  unfold nb_tu
  have := nb_ct_le V (t + 1)
  split <;> omega
theorem nb_le0 {n : Nat} (h : n < 2 ^ 31) : nI n ≤ 0 ↔ n = 0 := by
  rw [show (0 : Int32) = nI 0 from rfl, nI_leI h (by decide)]; omega
/-- the number at t, on the class's side -/
theorem nb_num4 {V : nb_V} {s : nw_ST} {t : Nat} (hB : nb_VB V) (h : nb_WV V s) (ht : t < 240) : o3_numberAt s (nI t) ∧ v3_numberAt s (nI t) = nI (nb_at V t) := by
  unfold o3_numberAt v3_numberAt
  have hw := h.1 t ht
  have hle := nb_tu_le V t
  rw [nI_clamp (show t < 2 ^ 31 by omega), hw.2.2.2, nI_clamp (show nb_tu V t < 2 ^ 31 by omega), h.2.1 _ (by omega)]
  refine ⟨⟨vp_in_nI ht (by decide), vp_in_nI (by omega) (by decide)⟩, ?_⟩
  unfold nb_tu nb_at
  cases nb_ca V t
  · simp [nb_nu0 hB]
  · rfl
theorem nb_dbl4 {V : nb_V} {s : nw_ST} {t : Nat} (hB : nb_VB V) (h : nb_WV V s) (ht : t < 240) : o3_isDouble s (nI t) ∧ v3_isDouble s (nI t) = if nb_cn V t ≤ 1 then 0 else 1 := by
  unfold o3_isDouble v3_isDouble
  have hw := h.1 t ht
  have hle := nb_cn_le V t
  have := hB.1
  rw [nI_clamp (show t < 2 ^ 31 by omega), hw.2.1]
  refine ⟨vp_in_nI ht (by decide), ?_⟩
  by_cases h1 : nb_cn V t ≤ 1
  · rw [if_pos h1, if_pos (show nI (nb_cn V t) < 2 from nI_lt (b := 2) (by omega) (by decide))]
  · rw [if_neg h1, if_neg (show ¬ nI (nb_cn V t) < 2 from nI_nlt (b := 2) (by omega) (by omega))]
def nb_aHigh (S : nb_S) (a : Int32) : Int32 := if v5_in a 0 239 = 0 then -2 else nI (nb_hi (nb_VS S) a.toNatClampNeg)
theorem nb_high4 {K : Int32 → nw_ST → Prop} {S : nb_S} {σ : nw_ST} {a : Int32} (hO : nb_OK S) (hC : nb_C S σ) (hk : ∀ s, nb_C S s → nb_Ch nb_cS nb_cA σ s → K (nb_aHigh S a) s) : f4_high K σ a := by
  unfold f4_high f4_high_21
  rw [nb_isTime4]
  refine ⟨fun z => ?_, fun z => ?_⟩
  · have := hk σ hC nb_Ch.rf; unfold nb_aHigh at this; rw [if_pos z] at this; exact this
  · refine nb_waves hO hC (fun s hs hw hc => ?_)
    have := hk s hs hc; unfold nb_aHigh at this; rw [if_neg z] at this
    obtain ⟨t, -, ht, rfl⟩ := nb_in 0 239 (by decide) (by decide) z
    rw [nI_clamp (show t < 2 ^ 31 by omega)] at this ⊢
    rw [(hw.1 t (by omega)).1]
    exact ⟨vp_in_nI (by omega) (by decide), this⟩
theorem nb_high5 {K : Int32 → nw_ST → Prop} {S : nb_S} {σ : nw_ST} {a : Int32} (hO : nb_OK S) (hM : nb_MP S σ) (hk : ∀ s, nb_MP S s → nb_Ch nb_mS nb_mA σ s → K (nb_aHigh S a) s) : f5_high K σ a := by
  unfold f5_high f5_high_17 f5_highOf
  rw [nb_isTime5]
  refine ⟨fun z => ?_, fun z => ?_⟩
  · have := hk σ hM nb_Ch.rf; unfold nb_aHigh at this; rw [if_pos z] at this; exact this
  · refine nb_laysTold hO hM (fun s hs hc hT => ?_)
    have := hk s hs hc; unfold nb_aHigh at this; rw [if_neg z] at this
    obtain ⟨t, -, ht, rfl⟩ := nb_in 0 239 (by decide) (by decide) z
    rw [nI_clamp (show t < 2 ^ 31 by omega)] at this ⊢
    rw [(hT.2.2.1.1 t (by omega)).1]
    exact ⟨vp_in_nI (by omega) (by decide), this⟩
theorem nb_step12 : nl_S12 nb_Inv := by
  intro σ ⟨S, hO, hC, hM⟩ a
  refine nb_high4 hO hC (fun s1 h1 c1 => ?_)
  show f5_high _ s1 a
  exact nb_high5 hO (hM.other c1) (fun s2 h2 c2 => ⟨rfl, S, hO, h1.other c2, h2⟩)
def nb_aWave (S : nb_S) (a b : Int32) : Int32 := if v5_in a 0 239 = 0 then -2 else if v5_in b 0 2 = 0 then -2 else if b = 0 then (if nb_bk (S.1 2) (nb_hi (nb_VS S) a.toNatClampNeg) then 1 else 0) else if b = 1 then nI (nb_at (nb_VS S) a.toNatClampNeg) else (if nb_cn (nb_VS S) a.toNatClampNeg ≤ 1 then 0 else 1)
theorem nb_ite01 {p : Prop} [Decidable p] : (if (if p then (1 : Int32) else 0) = 0 then (0 : Int32) else 1) = if p then 1 else 0 := by
  by_cases h : p
  · rw [if_pos h]; rfl
  · rw [if_neg h]; rfl
theorem nb_ite10 {p : Prop} [Decidable p] : (if (if p then (0 : Int32) else 1) = 0 then (0 : Int32) else 1) = if p then 0 else 1 := by
  by_cases h : p
  · rw [if_pos h]; rfl
  · rw [if_neg h]; rfl
theorem nb_wave4 {K : Int32 → nw_ST → Prop} {S : nb_S} {σ : nw_ST} {a b : Int32} (hO : nb_OK S) (hC : nb_C S σ) (hk : ∀ s, nb_C S s → nb_Ch nb_cS nb_cA σ s → K (nb_aWave S a b) s) : f4_wave K σ a b := by
  unfold f4_wave f4_wave_15 f4_wave_46 f4_wave_77
  have hb3 : v4_isBelow b 3 = 0 ↔ v5_in b 0 2 = 0 := nb_below (a := b) 2 (by decide)
  rw [nb_isTime4, hb3]
  have hB := nb_VSB hO
  refine ⟨fun z => ?_, fun z => ⟨fun z2 => ?_, fun z2 => ?_⟩⟩
  · have := hk σ hC nb_Ch.rf; unfold nb_aWave at this; rw [if_pos z] at this; exact this
  · have := hk σ hC nb_Ch.rf; unfold nb_aWave at this; rw [if_neg z, if_pos z2] at this; exact this
  · unfold nb_aWave at hk
    rw [if_neg z, if_neg z2] at hk
    obtain ⟨t, -, ht, rfl⟩ := nb_in 0 239 (by decide) (by decide) z
    rw [nI_clamp (show t < 2 ^ 31 by omega)] at hk ⊢
    have hd := hO.2.1
    have hh := nb_hi_le hB t
    refine ⟨fun y => nb_waves hO hC (fun s hs hw hc => ?_), fun y => ⟨fun x => nb_waves hO hC (fun s hs hw hc => ?_), fun x => nb_waves hO hC (fun s hs hw hc => ?_)⟩⟩
    · have := hk s hs hc; rw [if_pos y] at this
      rw [(hw.1 t (by omega)).1, hs.1.1, nb_bk4 (by omega) (by omega), nb_ite01]
      exact ⟨vp_in_nI (by omega) (by decide), this⟩
    · have := hk s hs hc; rw [if_neg y, if_pos x] at this
      obtain ⟨o, v⟩ := nb_num4 hB hw (show t < 240 by omega)
      rw [v]
      exact ⟨o, this⟩
    · have := hk s hs hc; rw [if_neg y, if_neg x] at this
      obtain ⟨o, v⟩ := nb_dbl4 hB hw (show t < 240 by omega)
      rw [v, nb_ite10]
      exact ⟨o, this⟩
theorem nb_wave5 {K : Int32 → nw_ST → Prop} {S : nb_S} {σ : nw_ST} {a b : Int32} (hO : nb_OK S) (hM : nb_MP S σ) (hk : ∀ s, nb_MP S s → nb_Ch nb_mS nb_mA σ s → K (nb_aWave S a b) s) : f5_wave K σ a b := by
  unfold f5_wave f5_wave_25 f5_wave_27 f5_waveOf f5_waveOf_53
  rw [nb_isTime5]
  have hB := nb_VSB hO
  refine ⟨fun z => ?_, fun z => ⟨fun z2 => ?_, fun z2 => ?_⟩⟩
  · have := hk σ hM nb_Ch.rf; unfold nb_aWave at this; rw [if_pos z] at this; exact this
  · have := hk σ hM nb_Ch.rf; unfold nb_aWave at this; rw [if_neg z, if_pos z2] at this; exact this
  · refine nb_laysTold hO hM (fun s hs hc hT => ?_)
    have := hk s hs hc; unfold nb_aWave at this; rw [if_neg z, if_neg z2] at this
    obtain ⟨t, -, ht, rfl⟩ := nb_in 0 239 (by decide) (by decide) z
    rw [nI_clamp (show t < 2 ^ 31 by omega)] at this
    rw [nI_clamp (show t < 2 ^ 31 by omega)]
    have hw := hT.2.2.1.1 t (by omega)
    obtain ⟨o, v⟩ := nb_br5 hB hT.2.1.2.1 (show t < 240 by omega) hw.1
    rw [v, hw.2.1, hw.2.2, nb_ite01]
    refine ⟨⟨fun _ => o, fun _ => ⟨fun _ => vp_in_nI (by omega) (by decide), fun _ => vp_in_nI (by omega) (by decide)⟩⟩, ?_⟩
    have hcn := nb_cn_le (nb_VS S) t
    have hns := hB.1
    have e : (nI (nb_cn (nb_VS S) t) ≤ 1) ↔ nb_cn (nb_VS S) t ≤ 1 := nI_leI (b := 1) (by omega) (by decide)
    by_cases y : b = 0
    · rw [if_pos y] at this ⊢; exact this
    · rw [if_neg y] at this ⊢
      by_cases x : b = 1
      · rw [if_pos x] at this ⊢; exact this
      · rw [if_neg x] at this ⊢
        by_cases w : nb_cn (nb_VS S) t ≤ 1
        · rw [if_pos w] at this; rw [if_pos (e.mpr w)]; exact this
        · rw [if_neg w] at this; rw [if_neg (fun q => w (e.mp q))]; exact this
theorem nb_step13 : nl_S13 nb_Inv := by
  intro σ ⟨S, hO, hC, hM⟩ a b
  refine nb_wave4 hO hC (fun s1 h1 c1 => ?_)
  show f5_wave _ s1 a b
  exact nb_wave5 hO (hM.other c1) (fun s2 h2 c2 => ⟨rfl, S, hO, h1.other c2, h2⟩)
def nb_aWhen (S : nb_S) (a : Int32) : Int32 := if v5_in a 1 400 = 0 then -2 else nb_ti (nb_VS S) a.toNatClampNeg
theorem nb_isNum4 (a : Int32) : v4_isNumber a = v5_in a 1 400 := rfl
theorem nb_when4 {K : Int32 → nw_ST → Prop} {S : nb_S} {σ : nw_ST} {a : Int32} (hO : nb_OK S) (hC : nb_C S σ) (hk : ∀ s, nb_C S s → nb_Ch nb_cS nb_cA σ s → K (nb_aWhen S a) s) : f4_when K σ a := by
  unfold f4_when f4_when_21
  rw [nb_isNum4]
  refine ⟨fun z => ?_, fun z => ?_⟩
  · have := hk σ hC nb_Ch.rf; unfold nb_aWhen at this; rw [if_pos z] at this; exact this
  · refine nb_waves hO hC (fun s hs hw hc => ?_)
    have := hk s hs hc; unfold nb_aWhen at this; rw [if_neg z] at this
    obtain ⟨n, h1, h2, rfl⟩ := nb_in 1 400 (by decide) (by decide) z
    rw [nI_clamp (show n < 2 ^ 31 by omega)] at this ⊢
    rw [hw.2.2.1 n h2]
    exact ⟨vp_in_nI (by omega) (by decide), this⟩
theorem nb_timeOf {K : Int32 → nw_ST → Prop} {V : nb_V} {s : nw_ST} {n : Nat} (hB : nb_VB V) (hv : ∀ t, t < 240 → nw_gA s 53 t = nI (nb_at V t)) (h1 : 1 ≤ n) (h2 : n < 2 ^ 31) (hk : K (nb_ti V n) s) : f5_timeOf K s (nI n) := by
  unfold f5_timeOf
  refine pk_loop (fun m t u => f5_timeOf_2 K m u (nI n) (nI t)) (fun t u => u = s ∧ ∀ r, r < t → nb_at V r ≠ n) 240 0 s (by decide) ⟨rfl, fun r hr => absurd hr (Nat.not_lt_zero r)⟩ ?_ ?_
  · rintro m u ⟨rfl, hn⟩
    show b5_timeOf_2 K _ u (nI n) (nI 240)
    unfold b5_timeOf_2
    refine ⟨fun _ => ?_, fun w => absurd (by decide) w⟩
    have e : nb_wh V n = 240 := nb_fst_none (fun r hr => decide_eq_false (fun z => hn r hr z.1))
    unfold nb_ti at hk
    rw [e] at hk
    exact hk
  · rintro m t u ht ⟨rfl, hn⟩ ih
    show b5_timeOf_2 K _ u (nI n) (nI t)
    unfold b5_timeOf_2
    have hle := nb_at_le hB t
    rw [nI_clamp (show t < 2 ^ 31 by omega), hv t ht, nI_1]
    refine ⟨fun w => absurd w (nI_ge (b := 240) ht (by decide)), fun _ => ⟨vp_in_nI ht (by decide), fun z => ?_, fun z => ?_⟩⟩
    · have z := (nI_eq (by omega) h2).mp z
      have e : nb_wh V n = t := nb_fst_eq ht (fun r hr => decide_eq_false (fun z => hn r hr z.1)) (decide_eq_true ⟨z, h1⟩)
      unfold nb_ti at hk
      rw [e, if_pos ht] at hk
      exact hk
    · refine ih u ⟨rfl, fun r hr => ?_⟩
      by_cases e : r = t
      · rw [e]; exact fun q => z (by rw [q])
      · exact hn r (by omega)
theorem nb_when5 {K : Int32 → nw_ST → Prop} {S : nb_S} {σ : nw_ST} {a : Int32} (hO : nb_OK S) (hM : nb_MP S σ) (hk : ∀ s, nb_MP S s → nb_Ch nb_mS nb_mA σ s → K (nb_aWhen S a) s) : f5_when K σ a := by
  unfold f5_when f5_when_17 f5_whenOf
  rw [show v5_isNumber a = v5_in a 1 400 from rfl]
  refine ⟨fun z => ?_, fun z => ?_⟩
  · have := hk σ hM nb_Ch.rf; unfold nb_aWhen at this; rw [if_pos z] at this; exact this
  · refine nb_laysTold hO hM (fun s hs hc hT => ?_)
    have := hk s hs hc; unfold nb_aWhen at this; rw [if_neg z] at this
    obtain ⟨n, h1, h2, rfl⟩ := nb_in 1 400 (by decide) (by decide) z
    rw [nI_clamp (show n < 2 ^ 31 by omega)] at this
    exact nb_timeOf (nb_VSB hO) (fun t ht => (hT.2.2.1.1 t ht).2.2) h1 (by omega) this
theorem nb_step14 : nl_S14 nb_Inv := by
  intro σ ⟨S, hO, hC, hM⟩ a
  refine nb_when4 hO hC (fun s1 h1 c1 => ?_)
  show f5_when _ s1 a
  exact nb_when5 hO (hM.other c1) (fun s2 h2 c2 => ⟨rfl, S, hO, h1.other c2, h2⟩)
def nb_aCalled (S : nb_S) (a b : Int32) : Int32 := if v5_in a 0 239 = 0 then -2 else if v5_in b 0 239 = 0 then -2 else nI (nb_ct (nb_VS S) (b.toNatClampNeg + 1) - nb_ct (nb_VS S) a.toNatClampNeg)
theorem nb_ctD (V : nb_V) {a t : Nat} (h : a ≤ t) : nb_ct V (t + 1) - nb_ct V a = (nb_ct V t - nb_ct V a) + (if nb_ca V t then 1 else 0) := by
  have := nb_ct_mono V h
  rw [nb_ctS]; omega
theorem nb_called4 {K : Int32 → nw_ST → Prop} {S : nb_S} {σ : nw_ST} {a b : Int32} (hO : nb_OK S) (hC : nb_C S σ) (hk : ∀ s, nb_C S s → nb_Ch nb_cS nb_cA σ s → K (nb_aCalled S a b) s) : f4_called K σ a b := by
  unfold f4_called f4_called_14
  rw [nb_isTime4, nb_isTime4]
  refine ⟨fun z => ?_, fun z => ⟨fun z2 => ?_, fun z2 => ?_⟩⟩
  · have := hk σ hC nb_Ch.rf; unfold nb_aCalled at this; rw [if_pos z] at this; exact this
  · have := hk σ hC nb_Ch.rf; unfold nb_aCalled at this; rw [if_neg z, if_pos z2] at this; exact this
  · refine nb_waves hO hC (fun s hs hw hc => ?_)
    have hk := hk s hs hc; unfold nb_aCalled at hk; rw [if_neg z, if_neg z2] at hk
    obtain ⟨x, -, hx, rfl⟩ := nb_in 0 239 (by decide) (by decide) z
    obtain ⟨y, -, hy, rfl⟩ := nb_in 0 239 (by decide) (by decide) z2
    rw [nI_clamp (show x < 2 ^ 31 by omega), nI_clamp (show y < 2 ^ 31 by omega)] at hk
    refine pk_loop (fun m t u => f4_called_28 K m u (nI y) (nI (nb_ct (nb_VS S) t - nb_ct (nb_VS S) x)) (nI t)) (fun t u => u = s ∧ x ≤ t) (if x ≤ y then y + 1 else x) x s (by split <;> omega) ⟨rfl, Nat.le_refl _⟩ ?_ ?_ |> (fun h => by rw [Nat.sub_self] at h; exact h)
    · rintro m u ⟨rfl, hx9⟩
      show b4_called_28 K _ u (nI y) _ (nI (if x ≤ y then y + 1 else x))
      unfold b4_called_28
      refine ⟨fun _ => ?_, fun w => absurd (nI_lt (by split <;> omega) (by split <;> omega)) w⟩
      by_cases h : x ≤ y
      · rw [if_pos h]; exact hk
      · have := nb_ct_mono (nb_VS S) (show y + 1 ≤ x by omega)
        rw [show nb_ct (nb_VS S) (y + 1) - nb_ct (nb_VS S) x = 0 by omega] at hk
        rw [if_neg h, Nat.sub_self]; exact hk
    · rintro m t u ht ⟨rfl, hx9⟩ ih
      have hty : t ≤ y := by split at ht <;> omega
      show b4_called_28 K _ u (nI y) _ (nI t)
      unfold b4_called_28 f4_called_47
      have hle := nb_tu_le (nb_VS S) t
      rw [nI_clamp (show t < 2 ^ 31 by omega), (hw.1 t (by omega)).2.2.2, nI_1 t]
      refine ⟨fun w => absurd w (nI_nlt hty (by omega)), fun _ => ⟨vp_in_nI (by omega) (by decide), ?_⟩⟩
      have := ih u ⟨rfl, by omega⟩
      rw [nb_ctD _ hx9] at this
      cases hca : nb_ca (nb_VS S) t
      · rw [hca] at this; rw [if_pos ((nb_le0 (by omega)).mpr (nb_tu0.mpr hca))]; exact this
      · rw [hca] at this
        rw [if_neg (fun q => by have := nb_tu0.mp ((nb_le0 (by omega)).mp q); rw [hca] at this; cases this), nI_1]; exact this
theorem nb_called5 {K : Int32 → nw_ST → Prop} {S : nb_S} {σ : nw_ST} {a b : Int32} (hO : nb_OK S) (hM : nb_MP S σ) (hk : ∀ s, nb_MP S s → nb_Ch nb_mS nb_mA σ s → K (nb_aCalled S a b) s) : f5_called K σ a b := by
  unfold f5_called f5_called_23 f5_called_25 f5_calledOf
  rw [nb_isTime5, nb_isTime5]
  refine ⟨fun z => ?_, fun z => ⟨fun z2 => ?_, fun z2 => ?_⟩⟩
  · have := hk σ hM nb_Ch.rf; unfold nb_aCalled at this; rw [if_pos z] at this; exact this
  · have := hk σ hM nb_Ch.rf; unfold nb_aCalled at this; rw [if_neg z, if_pos z2] at this; exact this
  · refine nb_laysTold hO hM (fun s hs hc hT => ?_)
    have hk := hk s hs hc; unfold nb_aCalled at hk; rw [if_neg z, if_neg z2] at hk
    obtain ⟨x, -, hx, rfl⟩ := nb_in 0 239 (by decide) (by decide) z
    obtain ⟨y, -, hy, rfl⟩ := nb_in 0 239 (by decide) (by decide) z2
    have hB := nb_VSB hO
    rw [nI_clamp (show x < 2 ^ 31 by omega), nI_clamp (show y < 2 ^ 31 by omega)] at hk
    refine pk_loop (fun m t u => f5_calledOf_9 (fun r s => K r s) m u (nI y) (nI (nb_ct (nb_VS S) t - nb_ct (nb_VS S) x)) (nI t)) (fun t u => u = s ∧ x ≤ t) (if x ≤ y then y + 1 else x) x s (by split <;> omega) ⟨rfl, Nat.le_refl _⟩ ?_ ?_ |> (fun h => by rw [Nat.sub_self] at h; exact h)
    · rintro m u ⟨rfl, hx9⟩
      show b5_calledOf_9 (fun r s => K r s) _ u (nI y) _ (nI (if x ≤ y then y + 1 else x))
      unfold b5_calledOf_9
      refine ⟨fun _ => ?_, fun w => absurd (nI_lt (by split <;> omega) (by split <;> omega)) w⟩
      by_cases h : x ≤ y
      · rw [if_pos h]; exact hk
      · have := nb_ct_mono (nb_VS S) (show y + 1 ≤ x by omega)
        rw [show nb_ct (nb_VS S) (y + 1) - nb_ct (nb_VS S) x = 0 by omega] at hk
        rw [if_neg h, Nat.sub_self]; exact hk
    · rintro m t u ht ⟨rfl, hx9⟩ ih
      have hty : t ≤ y := by split at ht <;> omega
      show b5_calledOf_9 (fun r s => K r s) _ u (nI y) _ (nI t)
      unfold b5_calledOf_9 f5_calledOf_31
      have hle := nb_at_le hB t
      rw [nI_clamp (show t < 2 ^ 31 by omega), (hT.2.2.1.1 t (by omega)).2.2, nI_1 t]
      refine ⟨fun w => absurd w (nI_nlt hty (by omega)), fun _ => ⟨vp_in_nI (by omega) (by decide), ?_⟩⟩
      have := ih u ⟨rfl, by omega⟩
      rw [nb_ctD _ hx9] at this
      cases hca : nb_ca (nb_VS S) t
      · rw [hca] at this; rw [if_pos ((nb_le0 (by omega)).mpr (nb_at0.mpr hca)), show (0 : Int32) = nI 0 from rfl, nI_add]; exact this
      · rw [hca] at this
        rw [if_neg (fun q => by have := nb_at0.mp ((nb_le0 (by omega)).mp q); rw [hca] at this; cases this), nI_1]; exact this
theorem nb_step15 : nl_S15 nb_Inv := by
  intro σ ⟨S, hO, hC, hM⟩ a b
  refine nb_called4 hO hC (fun s1 h1 c1 => ?_)
  show f5_called _ s1 a b
  exact nb_called5 hO (hM.other c1) (fun s2 h2 c2 => ⟨rfl, S, hO, h1.other c2, h2⟩)
/-! what a number brings -/
theorem nb_valueOf {K : Int32 → nw_ST → Prop} {S : nb_S} {σ : nw_ST} {n : Nat} (hO : nb_OK S) (hC : nb_CP S σ) (hn : n < 2 ^ 31) (hk : K (nI (nb_br S n)) σ) : f4_valueOf K σ (nI n) := by
  unfold f4_valueOf
  have tx := hC.2.2.2.1
  have hen := nb_en1 S hO
  refine pk_loop (fun m i u => f4_valueOf_4 K m u (nI n) (nI (nb_sum (fun i => if n % nb_mo S i = nb_re S i then nb_va S i else 0) i)) (nI i)) (fun i u => u = σ) (nb_nf S) 0 σ (Nat.zero_le _) rfl ?_ ?_
  · rintro m u rfl
    show b4_valueOf_4 K _ u (nI n) _ (nI (nb_nf S))
    unfold b4_valueOf_4
    rw [tx.2.2.2.1]
    exact ⟨fun _ => hk, fun w => absurd (nI_le (Nat.le_refl _) (by omega)) w⟩
  · rintro m i u hi rfl ih
    show b4_valueOf_4 K _ u (nI n) _ (nI i)
    have hi' : i < nb_en 1 (S.2.1 1) (S.1 1) := hi
    have hpo : ∀ w, w < 3 → o2_part u 4 (nI i) (nI w) ∧ v2_part u 4 (nI i) (nI w) = nI (nb_pt 1 (S.2.1 1) i w) := by
      intro w hw
      unfold o2_part v2_part
      rw [nb_three, nI_clamp (show 3 * i + w < 2 ^ 31 by omega), show nw_rf 4 3 = 6 from rfl, show nw_len 6 = 24 from rfl]
      exact ⟨vp_in_nI (by omega) (by decide), tx.2.2.2.2 i hi' w hw⟩
    have p0 := hpo 0 (by decide)
    have p1 := hpo 1 (by decide)
    have p2 := hpo 2 (by decide)
    rw [show nI 0 = (0 : Int32) from rfl] at p0
    rw [show nI 1 = (1 : Int32) from rfl] at p1
    rw [show nI 2 = (2 : Int32) from rfl] at p2
    have hb := nb_ptB1 hi'
    unfold b4_valueOf_4 f4_valueOf_59
    have hlt := Nat.mod_lt n (show nb_pt 1 (S.2.1 1) i 0 > 0 by omega)
    rw [p0.2, p1.2, p2.2, tx.2.2.2.1, nb_remN hn (by omega) (by omega), nI_1 i, if_neg (nI_nle (by omega) (by omega))]
    refine ⟨fun w => absurd w (nI_ge hi' (by omega)), fun _ => ⟨p0.1, ⟨fun _ => trivial, fun _ => ⟨nI_ne0 (by omega) (by omega), p1.1, fun _ => p2.1, fun _ => trivial⟩⟩, ?_⟩⟩
    have := ih u rfl
    have e : nb_sum (fun i => if n % nb_mo S i = nb_re S i then nb_va S i else 0) (i + 1) = nb_sum (fun i => if n % nb_mo S i = nb_re S i then nb_va S i else 0) i + (if n % nb_pt 1 (S.2.1 1) i 0 = nb_pt 1 (S.2.1 1) i 1 then nb_pt 1 (S.2.1 1) i 2 else 0) := rfl
    rw [e] at this
    by_cases h : n % nb_pt 1 (S.2.1 1) i 0 = nb_pt 1 (S.2.1 1) i 1
    · rw [if_pos h] at this; rw [if_pos (by rw [h]), nI_add]; exact this
    · rw [if_neg h] at this; rw [if_neg (fun q => h ((nI_eq (by omega) (by omega)).mp q))]; exact this
theorem nb_bringsNow {K : Int32 → nw_ST → Prop} {S : nb_S} {σ : nw_ST} {n : Nat} (hO : nb_OK S) (hR : nb_RT1 σ (S.2.1 1) (S.1 1)) (hn : n < 2 ^ 31) (hk : K (nI (nb_br S n)) σ) : f5_bringsNow K σ (nI n) := by
  unfold f5_bringsNow
  have hen := nb_en1 S hO
  refine pk_loop (fun m i u => f5_bringsNow_4 K m u (nI n) (nI (nb_sum (fun i => if n % nb_mo S i = nb_re S i then nb_va S i else 0) i)) (nI i)) (fun i u => u = σ) (nb_nf S) 0 σ (Nat.zero_le _) rfl ?_ ?_
  · rintro m u rfl
    show b5_bringsNow_4 K _ u (nI n) _ (nI (nb_nf S))
    unfold b5_bringsNow_4
    rw [hR.1]
    exact ⟨fun _ => hk, fun w => absurd (nI_le (Nat.le_refl _) (by omega)) w⟩
  · rintro m i u hi rfl ih
    show b5_bringsNow_4 K _ u (nI n) _ (nI i)
    have hi' : i < nb_en 1 (S.2.1 1) (S.1 1) := hi
    have p0 : nw_gA u 43 i = nI (nb_pt 1 (S.2.1 1) i 0) := hR.2 i hi' 0 (by decide)
    have p1 : nw_gA u 44 i = nI (nb_pt 1 (S.2.1 1) i 1) := hR.2 i hi' 1 (by decide)
    have p2 : nw_gA u 45 i = nI (nb_pt 1 (S.2.1 1) i 2) := hR.2 i hi' 2 (by decide)
    have hb := nb_ptB1 hi'
    unfold b5_bringsNow_4 f5_bringsNow_40
    have hlt := Nat.mod_lt n (show nb_pt 1 (S.2.1 1) i 0 > 0 by omega)
    rw [nI_clamp (show i < 2 ^ 31 by omega), p0, p1, p2, hR.1, nb_remN hn (by omega) (by omega), nI_1 i]
    refine ⟨fun w => absurd w (nI_ge hi' (by omega)), fun _ => ⟨vp_in_nI (by omega) (by decide), nI_ne0 (by omega) (by omega), vp_in_nI (by omega) (by decide), ⟨fun _ => vp_in_nI (by omega) (by decide), fun _ => trivial⟩, ?_⟩⟩
    have := ih u rfl
    have e : nb_sum (fun i => if n % nb_mo S i = nb_re S i then nb_va S i else 0) (i + 1) = nb_sum (fun i => if n % nb_mo S i = nb_re S i then nb_va S i else 0) i + (if n % nb_pt 1 (S.2.1 1) i 0 = nb_pt 1 (S.2.1 1) i 1 then nb_pt 1 (S.2.1 1) i 2 else 0) := rfl
    rw [e] at this
    by_cases h : n % nb_pt 1 (S.2.1 1) i 0 = nb_pt 1 (S.2.1 1) i 1
    · rw [if_pos h] at this; rw [if_pos (by rw [h]), nI_add]; exact this
    · rw [if_neg h] at this; rw [if_neg (fun q => h ((nI_eq (by omega) (by omega)).mp q)), show (0 : Int32) = nI 0 from rfl, nI_add]; exact this
def nb_aBrings (S : nb_S) (a : Int32) : Int32 := if v5_in a 1 400 = 0 then -2 else nI (nb_br S a.toNatClampNeg)
theorem nb_brings4 {K : Int32 → nw_ST → Prop} {S : nb_S} {σ : nw_ST} {a : Int32} (hO : nb_OK S) (hC : nb_C S σ) (hk : ∀ s, nb_C S s → nb_Ch nb_cS nb_cA σ s → K (nb_aBrings S a) s) : f4_brings K σ a := by
  unfold f4_brings f4_brings_17
  rw [nb_isNum4]
  have := hk σ hC nb_Ch.rf
  unfold nb_aBrings at this
  refine ⟨fun z => ?_, fun z => ?_⟩
  · rw [if_pos z] at this; exact this
  · rw [if_neg z] at this
    obtain ⟨n, h1, h2, rfl⟩ := nb_in 1 400 (by decide) (by decide) z
    rw [nI_clamp (show n < 2 ^ 31 by omega)] at this
    exact nb_valueOf hO hC.1 (by omega) this
theorem nb_brings5 {K : Int32 → nw_ST → Prop} {S : nb_S} {σ : nw_ST} {a : Int32} (hO : nb_OK S) (hM : nb_MP S σ) (hk : ∀ s, nb_MP S s → nb_Ch nb_mS nb_mA σ s → K (nb_aBrings S a) s) : f5_brings K σ a := by
  unfold f5_brings f5_brings_17 f5_bringsOf
  rw [show v5_isNumber a = v5_in a 1 400 from rfl]
  refine ⟨fun z => ?_, fun z => ?_⟩
  · have := hk σ hM nb_Ch.rf; unfold nb_aBrings at this; rw [if_pos z] at this; exact this
  · refine nb_reads hO hM (fun s hs hc hr => ?_)
    have := hk s hs (nb_rCh hc); unfold nb_aBrings at this; rw [if_neg z] at this
    obtain ⟨n, h1, h2, rfl⟩ := nb_in 1 400 (by decide) (by decide) z
    rw [nI_clamp (show n < 2 ^ 31 by omega)] at this
    exact nb_bringsNow hO hr.2 (by omega) this
theorem nb_step16 : nl_S16 nb_Inv := by
  intro σ ⟨S, hO, hC, hM⟩ a
  refine nb_brings4 hO hC (fun s1 h1 c1 => ?_)
  show f5_brings _ s1 a
  exact nb_brings5 hO (hM.other c1) (fun s2 h2 c2 => ⟨rfl, S, hO, h1.other c2, h2⟩)
