/-! ===== claims: the two sides ===== -/
theorem nb_by_wh {S : nb_S} {n : Nat} (h : nb_wh (nb_VS S) n < 240) : nb_by S (nb_wh (nb_VS S) n) = if nb_db (nb_VS S) (nb_wh (nb_VS S) n) then nb_br S n / 2 else nb_br S n := by
  have e : nb_at (nb_VS S) (nb_wh (nb_VS S) n) = n := (of_decide_eq_true (nb_fst_yes (nb_isn (nb_VS S) n) 240 h)).1
  unfold nb_by
  rw [e]
theorem nb_ti_yes {V : nb_V} {n : Nat} (h : nb_wh V n < 240) : nb_ti V n = nI (nb_wh V n) := by unfold nb_ti; rw [if_pos h]
theorem nb_dbl4b {V : nb_V} {s : nw_ST} {t : Nat} (hB : nb_VB V) (h : nb_WV V s) (ht : t < 240) : o3_isDouble s (nI t) ∧ (v3_isDouble s (nI t) = 0 ↔ ¬ nb_db V t = true) := by
  obtain ⟨o, v⟩ := nb_dbl4 hB h ht
  refine ⟨o, ?_⟩
  rw [v]
  unfold nb_db
  rw [decide_eq_true_iff]
  by_cases q : nb_cn V t ≤ 1
  · rw [if_pos q]; exact ⟨fun _ z => z q, fun _ => rfl⟩
  · rw [if_neg q]; exact ⟨fun z => absurd z (by decide), fun z => absurd q z⟩
theorem nb_worthOf {K : Int32 → nw_ST → Prop} {S : nb_S} {σ : nw_ST} {n : Nat} (hO : nb_OK S) (hC : nb_CP S σ) (hw : nb_WV (nb_VS S) σ) (h1 : 1 ≤ n) (h2 : n ≤ 400) (hk : K (nI (nb_wo S n)) σ) : f4_worthOf K σ (nI n) := by
  have hB := nb_VSB hO
  have half : ∀ x : Nat, x = (if nb_wh (nb_VS S) n < 240 then nb_by S (nb_wh (nb_VS S) n) else 0) → f4_worthOf_43 K σ (nI n) (nI x) := by
    intro x hx
    unfold f4_worthOf_43 f4_worthOf_80
    unfold nb_wo at hk
    rw [← hx] at hk
    rw [show nI n - 1 = nI (n - 1) from pk_sub (b := 1) h1, nI_clamp (show n - 1 < 2 ^ 31 by omega), hw.2.2.1 (n - 1) (by omega)]
    refine ⟨vp_in_nI (by omega) (by decide), fun z => ?_, fun z => ?_⟩
    · rw [if_neg (nb_tiN.mp z)] at hk; exact hk
    · have z : nb_wh (nb_VS S) (n - 1) < 240 := by
        rcases Nat.lt_or_ge (nb_wh (nb_VS S) (n - 1)) 240 with h | h
        · exact h
        · exact absurd (nb_tiN.mpr (by omega)) z
      rw [if_pos z, nb_by_wh z] at hk
      rw [nb_ti_yes z]
      obtain ⟨o, v⟩ := nb_dbl4b hB hw z
      refine ⟨o, fun y => ?_, fun y => ?_⟩
      · rw [if_neg (v.mp y)] at hk; exact hk
      · have y : nb_db (nb_VS S) (nb_wh (nb_VS S) (n - 1)) = true := by
          cases q : nb_db (nb_VS S) (nb_wh (nb_VS S) (n - 1))
          · exact absurd (v.mpr (by rw [q]; decide)) y
          · rfl
        rw [if_pos y, if_pos y] at hk
        refine nb_valueOf hO hC (by omega) ?_
        have := nb_br_le hO (n - 1)
        rw [show nI (nb_br S (n - 1)) / 2 = nI (nb_br S (n - 1) / 2) from pk_div (d := 2) (by omega) (by decide) (by decide), nI_add]
        exact hk
  unfold f4_worthOf f4_worthOf_41
  rw [nI_clamp (show n < 2 ^ 31 by omega), hw.2.2.1 n h2]
  refine ⟨vp_in_nI (by omega) (by decide), fun z => ?_, fun z => ?_⟩
  · exact half 0 (by rw [if_neg (nb_tiN.mp z)])
  · have z : nb_wh (nb_VS S) n < 240 := by
      rcases Nat.lt_or_ge (nb_wh (nb_VS S) n) 240 with h | h
      · exact h
      · exact absurd (nb_tiN.mpr (by omega)) z
    rw [if_pos z, nb_by_wh z] at half
    rw [nb_ti_yes z]
    obtain ⟨o, v⟩ := nb_dbl4b hB hw z
    have hle := nb_br_le hO n
    refine ⟨o, fun y => ?_, fun y => ?_⟩
    · refine nb_valueOf hO hC (by omega) ?_
      rw [show (0 : Int32) = nI 0 from rfl, nI_add, Nat.zero_add]
      exact half _ (by rw [if_neg (v.mp y)])
    · have y : nb_db (nb_VS S) (nb_wh (nb_VS S) n) = true := by
        cases q : nb_db (nb_VS S) (nb_wh (nb_VS S) n)
        · exact absurd (v.mpr (by rw [q]; decide)) y
        · rfl
      refine nb_valueOf hO hC (by omega) ?_
      rw [show nI (nb_br S n) / 2 = nI (nb_br S n / 2) from pk_div (d := 2) (by omega) (by decide) (by decide), show (0 : Int32) = nI 0 from rfl, nI_add, Nat.zero_add]
      exact half _ (by rw [if_pos y])
def nb_claS (S : nb_S) (h : Nat) : Nat := nb_cla S (S.2.1 5) (S.2.1 6) (S.1 5) h
theorem nb_claimsBy {K : Int32 → nw_ST → Prop} {S : nb_S} {σ : nw_ST} {h : Nat} (hO : nb_OK S) (hC : nb_CP S σ) (hw : nb_WV (nb_VS S) σ) (hh : h < 2 ^ 31) (hk : K (nI (nb_claS S h)) σ) : f4_claimsBy K σ (nI h) := by
  unfold f4_claimsBy
  have hp := hC.2.2.2.2.2.2.1
  have hb := hO.2.2.2.2.1
  refine pk_loop (fun m i u => f4_claimsBy_5 K m u (nI h) (nI (nb_cla S (S.2.1 5) (S.2.1 6) i h)) (nI i)) (fun i u => u = σ) (S.1 5) 0 σ (Nat.zero_le _) rfl ?_ ?_
  · rintro m u rfl
    show b4_claimsBy_5 K _ u (nI h) _ (nI (S.1 5))
    unfold b4_claimsBy_5
    rw [hp.1]
    exact ⟨fun _ => hk, fun w => absurd (nI_le (Nat.le_refl _) (by omega)) w⟩
  · rintro m i u hi rfl ih
    show b4_claimsBy_5 K _ u (nI h) _ (nI i)
    unfold b4_claimsBy_5 f4_claimsBy_67
    have hbi := hb.2 i hi
    have p1 : nw_gA u 14 i = nI (S.2.1 5 i) := (hp.2 i hi).1
    have p2 : nw_gA u 15 i = nI (S.2.1 6 i) := (hp.2 i hi).2
    rw [hp.1, nI_clamp (show i < 2 ^ 31 by omega), p1, p2, nI_1 i]
    have := ih u rfl
    have e : nb_cla S (S.2.1 5) (S.2.1 6) (i + 1) h = nb_cla S (S.2.1 5) (S.2.1 6) i h + (if nb_f1 (S.2.1 6) i = true ∧ S.2.1 5 i = h then nb_wo S (S.2.1 6 i) else 0) := rfl
    rw [e] at this
    refine ⟨fun w => absurd w (nI_ge hi (by omega)), fun _ => ⟨vp_in_nI (by omega) (by decide), vp_in_nI (by omega) (by decide), fun z => ?_, fun z => ?_⟩⟩
    · have z := (nI_eq (by omega) hh).mp z
      refine nb_fws hO hC hi (fun j hj ej hn => ?_)
      refine ⟨fun y => ?_, fun y => ?_⟩
      · have y := (nI_eq (by omega) (by omega)).mp y
        subst y
        rw [if_pos ⟨nb_f1_iff.mpr hn, z⟩] at this
        refine nb_worthOf hO hC hw hbi.2.1 hbi.2.2 ?_
        rw [nI_add]; exact this
      · have hji : j ≠ i := fun q => y (by rw [q])
        rw [if_neg (fun q => nb_f1_iff.mp q.1 j (by omega) ej)] at this
        exact this
    · rw [if_neg (fun q => z (by rw [q.2]))] at this
      exact this
def nb_aClaims (S : nb_S) (a : Int32) : Int32 := if v5_in a 0 7 = 0 then -2 else nI (nb_claS S a.toNatClampNeg)
theorem nb_claims4 {K : Int32 → nw_ST → Prop} {S : nb_S} {σ : nw_ST} {a : Int32} (hO : nb_OK S) (hC : nb_C S σ) (hk : ∀ s, nb_C S s → nb_Ch nb_cS nb_cA σ s → K (nb_aClaims S a) s) : f4_claims K σ a := by
  unfold f4_claims
  have hb8 : v4_isBelow a 8 = 0 ↔ v5_in a 0 7 = 0 := nb_below (a := a) 7 (by decide)
  rw [hb8]
  unfold nb_aClaims at hk
  refine ⟨fun z => ?_, fun z => ?_⟩
  · have := hk σ hC nb_Ch.rf; rw [if_pos z] at this; exact this
  · refine nb_waves hO hC (fun s hs hw hc => ?_)
    have hk := hk s hs hc
    rw [if_neg z] at hk
    obtain ⟨h, -, hh, rfl⟩ := nb_in 0 7 (by decide) (by decide) z
    rw [nI_clamp (show h < 2 ^ 31 by omega)] at hk
    exact nb_claimsBy hO hs.1 hw (by omega) hk
theorem nb_holderOf {K : Int32 → nw_ST → Prop} {ho nu : Nat → Nat} {N n : Nat} {s : nw_ST} (hN : N ≤ 13) (h24 : nw_gS s 37 24 = nI N) (hv : ∀ i, i < N → nw_gA s 49 i = nI (ho i) ∧ nw_gA s 50 i = nI (nu i)) (hb : ∀ i, i < N → nu i < 2 ^ 31) (hn : n < 2 ^ 31) (hk : K (nb_hof ho nu N n) s) : f5_holderOf K s (nI n) := by
  unfold f5_holderOf
  unfold nb_hof at hk
  refine pk_loop (fun m i u => f5_holderOf_2 K m u (nI n) (nI i)) (fun i u => u = s ∧ ∀ r, r < i → nu r ≠ n) N 0 s (Nat.zero_le _) ⟨rfl, fun r hr => absurd hr (Nat.not_lt_zero r)⟩ ?_ ?_
  · rintro m u ⟨rfl, hno⟩
    show b5_holderOf_2 K _ u (nI n) (nI N)
    unfold b5_holderOf_2
    rw [h24]
    refine ⟨fun _ => ?_, fun w => absurd (nI_le (Nat.le_refl _) (by omega)) w⟩
    have e : nb_fst (fun i => decide (nu i = n)) N = N := nb_fst_none (fun r hr => decide_eq_false (hno r hr))
    rw [e, if_neg (Nat.lt_irrefl _)] at hk
    exact hk
  · rintro m i u hi ⟨rfl, hno⟩ ih
    show b5_holderOf_2 K _ u (nI n) (nI i)
    unfold b5_holderOf_2
    have hbi := hb i hi
    rw [h24, nI_clamp (show i < 2 ^ 31 by omega), (hv i hi).1, (hv i hi).2, nI_1 i]
    refine ⟨fun w => absurd w (nI_ge hi (by omega)), fun _ => ⟨vp_in_nI (by omega) (by decide), fun z => ⟨vp_in_nI (by omega) (by decide), ?_⟩, fun z => ?_⟩⟩
    · have z := (nI_eq hbi hn).mp z
      have e : nb_fst (fun i => decide (nu i = n)) N = i := nb_fst_eq hi (fun r hr => decide_eq_false (hno r hr)) (decide_eq_true z)
      rw [e, if_pos hi] at hk
      exact hk
    · refine ih u ⟨rfl, fun r hr => ?_⟩
      by_cases e : r = i
      · rw [e]; exact fun q => z (by rw [q])
      · exact hno r (by omega)
/-- the reference's claims, over any tickets -/
theorem nb_claimsNow {K : Int32 → nw_ST → Prop} {S : nb_S} {ho nu : Nat → Nat} {N h : Nat} {s : nw_ST} (hO : nb_OK S) (hL : ∀ t, t < 240 → nw_gA s 52 t = nI (nb_cn (nb_VS S) t) ∧ nw_gA s 53 t = nI (nb_at (nb_VS S) t)) (hR : nb_RT1 s (S.2.1 1) (S.1 1)) (hN : N ≤ 13) (h24 : nw_gS s 37 24 = nI N) (hv : ∀ i, i < N → nw_gA s 49 i = nI (ho i) ∧ nw_gA s 50 i = nI (nu i)) (hb : ∀ i, i < N → ho i < 2 ^ 31 ∧ nu i < 2 ^ 31) (hh : h < 2 ^ 31) (hk : K (nI (nb_cla S ho nu N h)) s) : f5_claimsNow K s (nI h) := by
  unfold f5_claimsNow
  have hB := nb_VSB hO
  rw [← nb_claE (fun i hi => (hb i hi).1) hh] at hk
  generalize hT : nb_sum (nb_ct1 S ho nu N h) 240 = T at hk
  refine pk_loop (fun m t u => f5_claimsNow_4 K m u (nI h) (nI (nb_sum (nb_ct1 S ho nu N h) t)) (nI t)) (fun t u => u = s) 240 0 s (by decide) rfl ?_ ?_
  · rintro m u rfl
    show b5_claimsNow_4 K _ u (nI h) (nI (nb_sum (nb_ct1 S ho nu N h) 240)) (nI 240)
    rw [hT]
    unfold b5_claimsNow_4
    exact ⟨fun _ => hk, fun w => absurd (by decide) w⟩
  · rintro m t u ht rfl ih
    show b5_claimsNow_4 K _ u (nI h) (nI (nb_sum (nb_ct1 S ho nu N h) t)) (nI t)
    have := ih u rfl
    have e : nb_sum (nb_ct1 S ho nu N h) (t + 1) = nb_sum (nb_ct1 S ho nu N h) t + nb_ct1 S ho nu N h t := rfl
    rw [e] at this
    generalize nb_sum (nb_ct1 S ho nu N h) t = x at this ⊢
    unfold nb_ct1 at this
    unfold b5_claimsNow_4 f5_claimsNow_103
    have hle := nb_at_le hB t
    rw [nI_clamp (show t < 2 ^ 31 by omega), (hL t ht).2, nI_1 t]
    refine ⟨fun w => absurd w (nI_ge (b := 240) ht (by decide)), fun _ => ⟨vp_in_nI ht (by decide), fun z => ?_, fun z => ?_⟩⟩
    · rw [if_pos ((nb_le0 (by omega)).mp z)] at this
      exact this
    · rw [if_neg (fun q => z ((nb_le0 (by omega)).mpr q))] at this
      refine nb_bringsNow hO hR (by omega) ?_
      refine ⟨vp_in_nI ht (by decide), ?_⟩
      have hcn := nb_cn_le (nb_VS S) t
      have hns := hB.1
      have hbr := nb_br_le hO (nb_at (nb_VS S) t)
      have ec : (nI (nb_cn (nb_VS S) t) ≤ 1) ↔ ¬ nb_db (nb_VS S) t = true := by
        unfold nb_db
        rw [decide_eq_true_iff, Decidable.not_not]
        exact nI_leI (b := 1) (by omega) (by decide)
      have eb : (if nI (nb_cn (nb_VS S) t) ≤ 1 then nI (nb_br S (nb_at (nb_VS S) t)) else nI (nb_br S (nb_at (nb_VS S) t)) / 2) = nI (nb_by S t) := by
        unfold nb_by
        by_cases q : nb_db (nb_VS S) t = true
        · rw [if_pos q, if_neg (fun y => ec.mp y q)]
          exact pk_div (d := 2) (by omega) (by decide) (by decide)
        · rw [if_neg q, if_pos (ec.mpr q)]
      rw [(hL t ht).1, eb]
      unfold f5_claimsNow_51
      refine nb_holderOf hN h24 hv (fun i hi => (hb i hi).2) (by omega) ?_
      unfold f5_claimsNow_70 f5_claimsNow_101 f5_claimsNow_103
      rw [nI_clamp (show t < 2 ^ 31 by omega), (hL t ht).1, nI_1 t, nI_1]
      have e1 : (if nb_hof ho nu N (nb_at (nb_VS S) t) = nI h then nI (nb_by S t) else 0) = nI (if nb_hof ho nu N (nb_at (nb_VS S) t) = nI h then nb_by S t else 0) := by split <;> rfl
      rw [e1, nI_add]
      refine ⟨vp_in_nI ht (by decide), fun y => ?_, fun y => ?_⟩
      · rw [if_neg (ec.mp y), Nat.add_zero] at this
        rw [show (0 : Int32) = nI 0 from rfl, nI_add, Nat.add_zero]
        exact this
      · have y : nb_db (nb_VS S) t = true := by
          cases q : nb_db (nb_VS S) t
          · exact absurd (ec.mpr (by rw [q]; decide)) y
          · rfl
        rw [if_pos y] at this
        refine nb_holderOf hN h24 hv (fun i hi => (hb i hi).2) (by omega) ?_
        have e2 : (if nb_hof ho nu N (nb_at (nb_VS S) t + 1) = nI h then nI (nb_by S t) else 0) = nI (if nb_hof ho nu N (nb_at (nb_VS S) t + 1) = nI h then nb_by S t else 0) := by split <;> rfl
        rw [e2, nI_add, Nat.add_assoc]
        exact this
theorem nb_claimsOf {K : Int32 → nw_ST → Prop} {S : nb_S} {σ : nw_ST} {h : Nat} (hO : nb_OK S) (hM : nb_MP S σ) (hh : h ≤ 7) (hk : ∀ s, nb_MP S s → nb_Ch nb_mS nb_mA σ s → nb_TD S s → K (nI (nb_claS S h)) s) : f5_laysTold (fun s => f5_claimsNow K s (nI h)) σ := by
  refine nb_laysTold hO hM (fun s hs hc hT => ?_)
  have hb := hO.2.2.2.2.1
  exact nb_claimsNow hO (fun t ht => ⟨(hT.2.2.1.1 t ht).2.1, (hT.2.2.1.1 t ht).2.2⟩) hT.1.2 (show S.1 5 ≤ 13 by omega) hT.2.2.2 hs.2.2.2.2.1.2 (fun i hi => by have := hb.2 i hi; omega) (by omega) (hk s hs hc hT)
theorem nb_claims5 {K : Int32 → nw_ST → Prop} {S : nb_S} {σ : nw_ST} {a : Int32} (hO : nb_OK S) (hM : nb_MP S σ) (hk : ∀ s, nb_MP S s → nb_Ch nb_mS nb_mA σ s → K (nb_aClaims S a) s) : f5_claims K σ a := by
  unfold f5_claims f5_claims_20 f5_claimsOf
  unfold nb_aClaims at hk
  refine ⟨fun z => ?_, fun z => ?_⟩
  · have := hk σ hM nb_Ch.rf; rw [if_pos z] at this; exact this
  · obtain ⟨h, -, hh, rfl⟩ := nb_in 0 7 (by decide) (by decide) z
    refine nb_claimsOf hO hM hh (fun s hs hc hT => ?_)
    have := hk s hs hc
    rw [if_neg z, nI_clamp (show h < 2 ^ 31 by omega)] at this
    exact this
theorem nb_step17 : nl_S17 nb_Inv := by
  intro σ ⟨S, hO, hC, hM⟩ a
  refine nb_claims4 hO hC (fun s1 h1 c1 => ?_)
  show f5_claims _ s1 a
  exact nb_claims5 hO (hM.other c1) (fun s2 h2 c2 => ⟨rfl, S, hO, h1.other c2, h2⟩)
