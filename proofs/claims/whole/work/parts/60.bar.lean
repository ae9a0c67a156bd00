/-! ===== bar, count, good, storm ===== -/
def nb_bc (V : nb_V) (d T : Nat) : Nat := nb_sum (fun t => if nb_bk d (nb_hi V t) then 1 else 0) T
theorem nb_bc_le (V : nb_V) (d T : Nat) : nb_bc V d T ≤ T := by
  have := nb_sum_le (f := fun t => if nb_bk d (nb_hi V t) then 1 else 0) (n := T) (B := 1) (fun i _ => by split <;> omega)
  unfold nb_bc; omega
theorem nb_bcS (V : nb_V) (d T : Nat) : nb_bc V d (T + 1) = nb_bc V d T + (if nb_bk d (nb_hi V T) then 1 else 0) := rfl
theorem nb_breaking {K : Int32 → nw_ST → Prop} {V : nb_V} {s : nw_ST} {d : Nat} (hB : nb_VB V) (hw : nb_WV V s) (hd : d < 2 ^ 31) (hk : K (nI (nb_bc V d 240)) s) : f3_breakingBy K s (nI d) := by
  unfold f3_breakingBy
  refine pk_loop (fun m t u => f3_breakingBy_4 K m u (nI d) (nI (nb_bc V d t)) (nI t)) (fun t u => u = s) 240 0 s (by decide) rfl ?_ ?_
  · rintro m u rfl
    show b3_breakingBy_4 K _ u (nI d) _ (nI 240)
    unfold b3_breakingBy_4
    exact ⟨fun _ => hk, fun w => absurd (by decide) w⟩
  · rintro m t u ht rfl ih
    show b3_breakingBy_4 K _ u (nI d) _ (nI t)
    unfold b3_breakingBy_4 f3_breakingBy_27
    have hh := nb_hi_le hB t
    rw [nI_clamp (show t < 2 ^ 31 by omega), (hw.1 t ht).1, nI_1 t, nb_bk4 (by omega) hd]
    refine ⟨fun w => absurd w (nI_ge (b := 240) ht (by decide)), fun _ => ⟨vp_in_nI ht (by decide), ?_⟩⟩
    have := ih u rfl
    rw [nb_bcS] at this
    cases hb : nb_bk d (nb_hi V t)
    · rw [hb] at this; exact this
    · rw [hb] at this
      rw [if_pos rfl, if_neg (by decide), nI_1]; exact this
def nb_ba (V : nb_V) (n : Nat) : Nat := nb_fst (fun d => decide (nb_bc V d 240 ≤ n)) 55
def nb_aBar (S : nb_S) (a : Int32) : Int32 := if v5_in a 0 240 = 0 then -2 else nI (nb_ba (nb_VS S) a.toNatClampNeg)
theorem nb_bar4 {K : Int32 → nw_ST → Prop} {S : nb_S} {σ : nw_ST} {a : Int32} (hO : nb_OK S) (hC : nb_C S σ) (hk : ∀ s, nb_C S s → nb_Ch nb_cS nb_cA σ s → K (nb_aBar S a) s) : f4_bar K σ a := by
  unfold f4_bar
  rw [nb_isFrom]
  refine ⟨fun z => ?_, fun z => ?_⟩
  · have := hk σ hC nb_Ch.rf; unfold nb_aBar at this; rw [if_pos z] at this; exact this
  · refine nb_waves hO hC (fun s hs hw hc => ?_)
    have hk := hk s hs hc; unfold nb_aBar at hk; rw [if_neg z] at hk
    obtain ⟨n, -, hn, rfl⟩ := nb_in 0 240 (by decide) (by decide) z
    rw [nI_clamp (show n < 2 ^ 31 by omega)] at hk
    refine pk_loop (fun m d u => f4_bar_21 K m u (nI n) (nI d)) (fun d u => u = s ∧ ∀ e, e < d → ¬ nb_bc (nb_VS S) e 240 ≤ n) 55 0 s (by decide) ⟨rfl, fun e he => absurd he (Nat.not_lt_zero e)⟩ ?_ ?_
    · rintro m u ⟨rfl, hd⟩
      show b4_bar_21 K _ u (nI n) (nI 55)
      unfold b4_bar_21
      refine ⟨fun _ => ?_, fun w => absurd (by decide) w⟩
      have e : nb_ba (nb_VS S) n = 55 := nb_fst_none (fun i hi => decide_eq_false (hd i hi))
      rw [e] at hk; exact hk
    · rintro m d u hd5 ⟨rfl, hd⟩ ih
      show b4_bar_21 K _ u (nI n) (nI d)
      unfold b4_bar_21
      have hle := nb_bc_le (nb_VS S) d 240
      refine ⟨fun w => absurd w (nI_ge (b := 55) hd5 (by decide)), fun _ => nb_breaking (nb_VSB hO) hw (by omega) ⟨fun w => ?_, fun w => ?_⟩⟩
      · have w := (nI_ltI (by omega) (by omega)).mp w
        rw [nI_1]
        refine ih u ⟨rfl, fun e he => ?_⟩
        by_cases q : e = d
        · rw [q]; omega
        · exact hd e (by omega)
      · have w : nb_bc (nb_VS S) d 240 ≤ n := by
          rcases Nat.lt_or_ge n (nb_bc (nb_VS S) d 240) with h | h
          · exact absurd (nI_lt h (by omega)) w
          · exact h
        have e : nb_ba (nb_VS S) n = d := nb_fst_eq hd5 (fun i hi => decide_eq_false (hd i hi)) (decide_eq_true w)
        rw [e] at hk; exact hk
theorem nb_bar5 {K : Int32 → nw_ST → Prop} {S : nb_S} {σ : nw_ST} {a : Int32} (hO : nb_OK S) (hM : nb_MP S σ) (hk : ∀ s, nb_MP S s → nb_Ch nb_mS nb_mA σ s → K (nb_aBar S a) s) : f5_bar K σ a := by
  unfold f5_bar f5_bar_21 f5_barOf
  refine ⟨fun z => ?_, fun z => ?_⟩
  · have := hk σ hM nb_Ch.rf; unfold nb_aBar at this; rw [if_pos z] at this; exact this
  · refine nb_laysTold hO hM (fun s hs hc hT => ?_)
    have hk := hk s hs hc; unfold nb_aBar at hk; rw [if_neg z] at hk
    obtain ⟨n, -, hn, rfl⟩ := nb_in 0 240 (by decide) (by decide) z
    rw [nI_clamp (show n < 2 ^ 31 by omega)] at hk
    have hB := nb_VSB hO
    refine pk_loop (fun m d u => f5_barOf_6 (fun r s => K r s) m u (nI n) (nI d)) (fun d u => u = s ∧ ∀ e, e < d → ¬ nb_bc (nb_VS S) e 240 ≤ n) 55 0 s (by decide) ⟨rfl, fun e he => absurd he (Nat.not_lt_zero e)⟩ ?_ ?_
    · rintro m u ⟨rfl, hd⟩
      show b5_barOf_6 _ _ u (nI n) (nI 55)
      unfold b5_barOf_6
      refine ⟨fun _ => ?_, fun w => absurd (by decide) w⟩
      have e : nb_ba (nb_VS S) n = 55 := nb_fst_none (fun i hi => decide_eq_false (hd i hi))
      rw [e] at hk; exact hk
    · rintro m d u hd5 ⟨rfl, hd⟩ ih
      show b5_barOf_6 _ _ u (nI n) (nI d)
      unfold b5_barOf_6
      have hle := nb_bc_le (nb_VS S) d 240
      refine ⟨fun w => absurd w (nI_ge (b := 55) hd5 (by decide)), fun _ => ?_⟩
      refine pk_loop (fun k t v => f5_barOf_17 (fun r s => K r s) (f5_barOf_6 (fun r s => K r s) m) k v (nI n) (nI d) (nI (nb_bc (nb_VS S) d t)) (nI t)) (fun t v => v = u) 240 0 u (by decide) rfl ?_ ?_
      · rintro k v rfl
        show b5_barOf_17 _ _ _ v (nI n) (nI d) _ (nI 240)
        unfold b5_barOf_17
        refine ⟨fun _ => ⟨fun w => ?_, fun w => ?_⟩, fun w => absurd (by decide) w⟩
        · have w := (nI_ltI (by omega) (by omega)).mp w
          rw [nI_1]
          refine ih v ⟨rfl, fun e he => ?_⟩
          by_cases q : e = d
          · rw [q]; omega
          · exact hd e (by omega)
        · have w : nb_bc (nb_VS S) d 240 ≤ n := by
            rcases Nat.lt_or_ge n (nb_bc (nb_VS S) d 240) with h | h
            · exact absurd (nI_lt h (by omega)) w
            · exact h
          have e : nb_ba (nb_VS S) n = d := nb_fst_eq hd5 (fun i hi => decide_eq_false (hd i hi)) (decide_eq_true w)
          rw [e] at hk; exact hk
      · rintro k t v ht rfl ih2
        show b5_barOf_17 _ _ _ v (nI n) (nI d) _ (nI t)
        unfold b5_barOf_17 f5_barOf_52
        have hh := nb_hi_le hB t
        rw [nI_clamp (show t < 2 ^ 31 by omega), (hT.2.2.1.1 t ht).1, nI_1 t]
        refine ⟨fun w => absurd w (nI_ge (b := 240) ht (by decide)), fun _ => ⟨vp_in_nI ht (by decide), ⟨fun _ => trivial, fun _ => vp_in_nI ht (by decide)⟩, ?_⟩⟩
        have := ih2 v rfl
        rw [nb_bcS] at this
        have e : (if nI (nb_hi (nb_VS S) t) ≤ 0 then (0 : Int32) else if nI (nb_hi (nb_VS S) t) < nI d then 0 else 1) = nI (if nb_bk d (nb_hi (nb_VS S) t) then 1 else 0) := by
          unfold nb_bk
          by_cases h0 : nb_hi (nb_VS S) t = 0
          · rw [h0, if_pos (by decide), if_neg (by simp)]; rfl
          · rw [if_neg (nI_nle (by omega) (by omega))]
            by_cases h3 : nb_hi (nb_VS S) t < d
            · rw [if_pos (nI_lt h3 (by omega)), if_neg (by simp; omega)]; rfl
            · rw [if_neg (nI_nlt (by omega) (by omega)), if_pos (by simp; omega)]; rfl
        rw [e, nI_add]
        exact this
theorem nb_step21 : nl_S21 nb_Inv := by
  intro σ ⟨S, hO, hC, hM⟩ a
  refine nb_bar4 hO hC (fun s1 h1 c1 => ?_)
  show f5_bar _ s1 a
  exact nb_bar5 hO (hM.other c1) (fun s2 h2 c2 => ⟨rfl, S, hO, h1.other c2, h2⟩)
def nb_aCount (S : nb_S) (a : Int32) : Int32 := if a = 0 then nI (nb_en 0 (S.2.1 0) (S.1 0)) else if a = 1 then nI (nb_en 1 (S.2.1 1) (S.1 1)) else if a = 2 then nI (S.1 0) else if a = 3 then nI (S.1 1) else if a = 4 then nI (nb_bc (nb_VS S) (S.1 2) 240) else if a = 5 then nI (S.1 5) else if a = 6 then nI (nb_nu (nb_VS S) (nb_ct (nb_VS S) 240)) else if a = 7 then nI (S.1 6) else if a = 8 then nI (S.1 7) else -2
theorem nb_last4 {V : nb_V} {s : nw_ST} (hw : nb_WV V s) : o3_last s ∧ v3_last s = nI (nb_nu V (nb_ct V 240)) := by
  unfold o3_last v3_last
  have hle := nb_ct_le V 240
  rw [hw.2.2.2, nI_clamp (show nb_ct V 240 < 2 ^ 31 by omega)]
  exact ⟨vp_in_nI (by omega) (by decide), hw.2.1 _ hle⟩
theorem nb_count4 {K : Int32 → nw_ST → Prop} {S : nb_S} {σ : nw_ST} {a : Int32} (hO : nb_OK S) (hC : nb_C S σ) (hk : ∀ s, nb_C S s → nb_Ch nb_cS nb_cA σ s → K (nb_aCount S a) s) : f4_count K σ a := by
  unfold f4_count
  have h0 := hk σ hC nb_Ch.rf
  unfold nb_aCount at h0 hk
  have hd := hO.2.1
  refine ⟨fun z => ?_, fun n0 => ⟨fun z => ?_, fun n1 => ⟨fun z => ?_, fun n2 => ⟨fun z => ?_, fun n3 => ⟨fun z => ?_, fun n4 => ⟨fun z => ?_, fun n5 => ⟨fun z => ?_, fun n6 => ⟨fun z => ?_, fun n7 => ⟨fun z => ?_, fun n8 => ?_⟩⟩⟩⟩⟩⟩⟩⟩⟩
  · rw [if_pos z] at h0; rw [hC.1.2.2.1.2.2.2.1]; exact h0
  · rw [if_neg n0, if_pos z] at h0; rw [hC.1.2.2.2.1.2.2.2.1]; exact h0
  · rw [if_neg n0, if_neg n1, if_pos z] at h0; rw [hC.1.2.2.1.1]; exact h0
  · rw [if_neg n0, if_neg n1, if_neg n2, if_pos z] at h0; rw [hC.1.2.2.2.1.1]; exact h0
  · refine nb_waves hO hC (fun s hs hw hc => ?_)
    have := hk s hs hc
    rw [if_neg n0, if_neg n1, if_neg n2, if_neg n3, if_pos z] at this
    rw [hs.1.1]
    exact nb_breaking (nb_VSB hO) hw (by omega) this
  · rw [if_neg n0, if_neg n1, if_neg n2, if_neg n3, if_neg n4, if_pos z] at h0; rw [hC.1.2.2.2.2.2.2.1.1]; exact h0
  · refine nb_waves hO hC (fun s hs hw hc => ?_)
    have := hk s hs hc
    rw [if_neg n0, if_neg n1, if_neg n2, if_neg n3, if_neg n4, if_neg n5, if_pos z] at this
    rw [(nb_last4 hw).2]
    exact ⟨(nb_last4 hw).1, this⟩
  · rw [if_neg n0, if_neg n1, if_neg n2, if_neg n3, if_neg n4, if_neg n5, if_neg n6, if_pos z] at h0; rw [hC.1.2.2.2.2.2.2.2.1.1]; exact h0
  · rw [if_neg n0, if_neg n1, if_neg n2, if_neg n3, if_neg n4, if_neg n5, if_neg n6, if_neg n7, if_pos z] at h0; rw [hC.1.2.1]; exact h0
  · rw [if_neg n0, if_neg n1, if_neg n2, if_neg n3, if_neg n4, if_neg n5, if_neg n6, if_neg n7, if_neg n8] at h0; exact h0
theorem nb_sumOf {K : Int32 → nw_ST → Prop} {S : nb_S} {σ : nw_ST} {a : Int32} (hO : nb_OK S) (hM : nb_MP S σ) (ha : a = 0 ∨ a = 1 ∨ a = 4 ∨ a = 6) (hk : ∀ s, nb_MP S s → nb_Ch nb_mS nb_mA σ s → K (nb_aCount S a) s) : f5_sumOf K σ a := by
  unfold f5_sumOf
  refine nb_laysTold hO hM (fun s hs hc hT => ?_)
  have hk := hk s hs hc
  have hB := nb_VSB hO
  refine pk_loop (fun m t u => f5_sumOf_8 K m u a (nI (nb_bc (nb_VS S) (S.1 2) t)) (nI t)) (fun t u => u = s) 240 0 s (by decide) rfl ?_ ?_
  · rintro m u rfl
    show b5_sumOf_8 K _ u a _ (nI 240)
    unfold b5_sumOf_8 f5_sumOf_73
    refine ⟨fun _ => ?_, fun w => absurd (by decide) w⟩
    rw [hT.2.1.1.1, hT.1.2.1, hT.2.2.1.2.2]
    rcases ha with rfl | rfl | rfl | rfl <;> exact hk
  · rintro m t u ht rfl ih
    show b5_sumOf_8 K _ u a _ (nI t)
    unfold b5_sumOf_8 f5_sumOf_29
    obtain ⟨o, v⟩ := nb_br5 hB hT.2.1.2.1 ht (hT.2.2.1.1 t ht).1
    rw [v, nI_1 t]
    refine ⟨fun w => absurd w (nI_ge (b := 240) ht (by decide)), fun _ => ⟨o, ?_⟩⟩
    have := ih u rfl
    rw [nb_bcS] at this
    cases hb : nb_bk (S.1 2) (nb_hi (nb_VS S) t)
    · rw [hb] at this
      rw [show nb_bk (nb_dp (nb_VS S)) (nb_hi (nb_VS S) t) = false from hb, nb_ite01, show (if (false : Bool) = true then (1 : Int32) else 0) = nI 0 from rfl, nI_add]; exact this
    · rw [hb] at this
      rw [show nb_bk (nb_dp (nb_VS S)) (nb_hi (nb_VS S) t) = true from hb, nb_ite01, show (if (true : Bool) = true then (1 : Int32) else 0) = nI 1 from rfl, nI_add]; exact this
theorem nb_count5 {K : Int32 → nw_ST → Prop} {S : nb_S} {σ : nw_ST} {a : Int32} (hO : nb_OK S) (hM : nb_MP S σ) (hk : ∀ s, nb_MP S s → nb_Ch nb_mS nb_mA σ s → K (nb_aCount S a) s) : f5_count K σ a := by
  unfold f5_count
  have h0 := hk σ hM nb_Ch.rf
  refine ⟨fun z => nb_sumOf hO hM (Or.inl z) hk, fun n0 => ⟨fun z => nb_sumOf hO hM (Or.inr (Or.inl z)) hk, fun n1 => ⟨fun z => ?_, fun n2 => ⟨fun z => ?_, fun n3 => ⟨fun z => nb_sumOf hO hM (Or.inr (Or.inr (Or.inl z))) hk, fun n4 => ⟨fun z => ?_, fun n5 => ⟨fun z => nb_sumOf hO hM (Or.inr (Or.inr (Or.inr z))) hk, fun n6 => ⟨fun z => ?_, fun n7 => ⟨fun z => ?_, fun n8 => ?_⟩⟩⟩⟩⟩⟩⟩⟩⟩
  · unfold nb_aCount at h0; rw [if_neg n0, if_neg n1, if_pos z] at h0
    rw [z, show ((2 : Int32) - 2) = nI 0 from rfl, nI_clamp (by decide), hM.1.1]
    exact ⟨vp_in_nI (by decide) (by decide), h0⟩
  · unfold nb_aCount at h0; rw [if_neg n0, if_neg n1, if_neg n2, if_pos z] at h0
    rw [z, show ((3 : Int32) - 2) = nI 1 from rfl, nI_clamp (by decide), hM.1.2.1]
    exact ⟨vp_in_nI (by decide) (by decide), h0⟩
  · unfold nb_aCount at h0; rw [if_neg n0, if_neg n1, if_neg n2, if_neg n3, if_neg n4, if_pos z] at h0; rw [hM.2.2.2.2.1.1]; exact h0
  · unfold nb_aCount at h0; rw [if_neg n0, if_neg n1, if_neg n2, if_neg n3, if_neg n4, if_neg n5, if_neg n6, if_pos z] at h0; rw [hM.2.2.2.2.2.1.1]; exact h0
  · unfold nb_aCount at h0; rw [if_neg n0, if_neg n1, if_neg n2, if_neg n3, if_neg n4, if_neg n5, if_neg n6, if_neg n7, if_pos z] at h0; rw [hM.2.2.2.2.2.2.1]; exact h0
  · unfold nb_aCount at h0; rw [if_neg n0, if_neg n1, if_neg n2, if_neg n3, if_neg n4, if_neg n5, if_neg n6, if_neg n7, if_neg n8] at h0; exact h0
theorem nb_step36 : nl_S36 nb_Inv := by
  intro σ ⟨S, hO, hC, hM⟩ a
  refine nb_count4 hO hC (fun s1 h1 c1 => ?_)
  show f5_count _ s1 a
  exact nb_count5 hO (hM.other c1) (fun s2 h2 c2 => ⟨rfl, S, hO, h1.other c2, h2⟩)
