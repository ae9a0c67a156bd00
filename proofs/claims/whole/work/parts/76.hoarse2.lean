/-! ===== hoarse: the two sides ===== -/
theorem nb_wavesX {K : Nat → nw_ST → Prop} {S : nb_S} {σ : nw_ST} (hO : nb_OK S) (hC : nb_C S σ) (hk : ∀ s, nb_C S s → nb_WV (nb_VS S) s → nb_Ch [(0, 12), (19, 6)] [20, 21, 22, 23, 24, 25] σ s → K 19 s) : f4_waves K σ := by
  unfold f4_waves f4_waves_35
  refine ⟨fun z => ?_, fun z => ?_⟩
  · rw [hC.1.1]
    refine nb_reckon hO hC.1 (fun s hc hw => ?_)
    have hc2 : nb_Ch [(0, 12), (19, 6)] [20, 21, 22, 23, 24, 25] σ (nw_sS s 0 12 1) := (hc.up (by simp) (by simp)).sS _ (by simp)
    have hw2 : nb_WV (nb_VS S) (nw_sS s 0 12 1) := hw.ch (LS := [(0, 12)]) (L := []) (nb_Ch.rf.sS _ (by simp)) (by decide) (by decide)
    exact hk _ ⟨hC.1.ch hc2 (by decide +kernel) (by decide +kernel), Or.inr ⟨by simp [nb_gSsS], hw2⟩⟩ hw2 hc2
  · rcases hC.2 with h | ⟨h, hw⟩
    · exact absurd h z
    · exact hk σ hC hw nb_Ch.rf
theorem nb_fillL {K : nw_ST → Prop} {σ : nw_ST} {q L : Nat} {v : Int64} (hL : nw_len q = L) (hb : L < 2 ^ 30) (hk : ∀ s, nb_Ch [] [q] σ s → (∀ i, i < L → nw_gL s q i = v) → K s) : fJ7_fill_d0a16 K σ q v := by
  unfold fJ7_fill_d0a16
  rw [hL]
  refine pk_loop (fun n i s => fJ7_fill_d0a16_6 K n s q v (nI i) (Int32.ofNat L)) (fun i s => nb_Ch [] [q] σ s ∧ ∀ j, j < i → nw_gL s q j = v) L 0 σ (Nat.zero_le _) ⟨nb_Ch.rf, fun j hj => absurd hj (Nat.not_lt_zero j)⟩ ?_ ?_
  · intro n s hs
    show bJ7_fill_d0a16_6 K _ s q v (nI L) (nI L)
    unfold bJ7_fill_d0a16_6
    exact ⟨fun _ => hk s hs.1 hs.2, fun w => absurd (nI_le (Nat.le_refl _) (by omega)) w⟩
  · intro n i s hi hs ih
    show bJ7_fill_d0a16_6 K _ s q v (nI i) (nI L)
    unfold bJ7_fill_d0a16_6
    refine ⟨fun w => absurd w (nI_ge hi (by omega)), fun _ => ⟨by rw [hL]; exact vp_in_nI hi (by omega), ?_⟩⟩
    rw [nI_clamp (by omega), nI_1]
    refine ih _ ⟨hs.1.sL _ _ (by simp), fun j hj => ?_⟩
    rw [nb_gLsL, if_pos rfl]
    by_cases e : j = i
    · rw [if_pos e]
    · rw [if_neg e]; exact hs.2 j (by omega)
theorem nb_c16 {c : Nat} (hc : c ≤ 16) (a b : Nat) : (Int32.toInt64 ((16 : Int32) - nI c)) * lN a + (Int32.toInt64 (nI c)) * lN b = lN ((16 - c) * a + c * b) := by
  rw [show (16 : Int32) - nI c = nI (16 - c) from pk_sub (a := 16) hc, nI_l (show 16 - c < 2 ^ 31 by omega), nI_l (show c < 2 ^ 31 by omega), lN_mul, lN_mul, lN_add]
theorem nb_stepWays {K : nw_ST → Prop} {σ : nw_ST} {c w : Nat} (hc : c ≤ 16) (hv : ∀ x, x ≤ 12 → nw_gL σ 36 x = lN (nb_wy c w x)) (hk : ∀ s, nb_Ch [] [36] σ s → (∀ x, x ≤ 12 → nw_gL s 36 x = lN (nb_wy c (w + 1) x)) → K s) : f4_stepWays K σ (nI c) := by
  unfold f4_stepWays
  rw [show (12 : Int32) = nI 13 + (-1) by decide]
  refine ⟨14, pk_loopD (fun n e u => f4_stepWays_3 K n u (nI c) (nI e + (-1))) (fun e u => nb_Ch [] [36] σ u ∧ e ≤ 13 ∧ ∀ x, x ≤ 12 → nw_gL u 36 x = if x < e then lN (nb_wy c w x) else lN (nb_wy c (w + 1) x)) ?_ ?_ 13 σ ⟨nb_Ch.rf, Nat.le_refl _, fun x hx => by rw [if_pos (by omega)]; exact hv x hx⟩⟩
  · rintro n u ⟨cu, -, vu⟩
    show b4_stepWays_3 K _ u (nI c) (nI 0 + (-1))
    unfold b4_stepWays_3
    exact ⟨fun _ => hk u cu (fun x hx => by have := vu x hx; rw [if_neg (Nat.not_lt_zero x)] at this; exact this), fun q => absurd (by decide) q⟩
  · rintro n i u ⟨cu, hi, vu⟩ ih
    show b4_stepWays_3 K _ u (nI c) (nI (i + 1) + (-1))
    rw [pk_m1]
    unfold b4_stepWays_3 f4_stepWays_24 f4_stepWays_42
    have g1 : (if nI i < 1 then (0 : Int64) else nw_gL u 36 (nI i - 1).toNatClampNeg) = lN (if i < 1 then 0 else nb_wy c w (i - 1)) := by
      by_cases q : i < 1
      · rw [if_pos q, if_pos (show nI i < 1 from nI_lt (b := 1) q (by decide))]; rfl
      · rw [if_neg q, if_neg (show ¬ nI i < 1 from nI_nlt (b := 1) (by omega) (by omega)), show nI i - 1 = nI (i - 1) from pk_sub (b := 1) (by omega), nI_clamp (show i - 1 < 2 ^ 31 by omega), vu _ (by omega), if_pos (by omega)]
    have g2 : (if nI i < 2 then (0 : Int64) else nw_gL u 36 (nI i - 2).toNatClampNeg) = lN (if i < 2 then 0 else nb_wy c w (i - 2)) := by
      by_cases q : i < 2
      · rw [if_pos q, if_pos (show nI i < 2 from nI_lt (b := 2) q (by decide))]; rfl
      · rw [if_neg q, if_neg (show ¬ nI i < 2 from nI_nlt (b := 2) (by omega) (by omega)), show nI i - 2 = nI (i - 2) from pk_sub (b := 2) (by omega), nI_clamp (show i - 2 < 2 ^ 31 by omega), vu _ (by omega), if_pos (by omega)]
    have o1 : (nI i < 1 → True) ∧ (¬ nI i < 1 → vp_in (nI i - 1) 13) := by
      refine ⟨fun _ => trivial, fun q => ?_⟩
      have : ¬ i < 1 := fun z => q (show nI i < 1 from nI_lt (b := 1) z (by decide))
      rw [show nI i - 1 = nI (i - 1) from pk_sub (b := 1) (by omega)]; exact vp_in_nI (by omega) (by decide)
    have o2 : (nI i < 2 → True) ∧ (¬ nI i < 2 → vp_in (nI i - 2) 13) := by
      refine ⟨fun _ => trivial, fun q => ?_⟩
      have : ¬ i < 2 := fun z => q (show nI i < 2 from nI_lt (b := 2) z (by decide))
      rw [show nI i - 2 = nI (i - 2) from pk_sub (b := 2) (by omega)]; exact vp_in_nI (by omega) (by decide)
    rw [g1, g2, nb_c16 hc, ← nb_wyS, nI_clamp (show i < 2 ^ 31 by omega)]
    refine ⟨fun q => absurd q (nI_pos (by omega)), fun _ => ⟨o1, o2, vp_in_nI (by omega) (by decide), ih _ ⟨cu.sL _ _ (by decide), by omega, fun x hx => ?_⟩⟩⟩
    rw [nb_gLsL, if_pos rfl]
    by_cases e : x = i
    · rw [if_pos e, if_neg (by omega), e]
    · rw [if_neg e, vu x hx]
      by_cases q : x < i
      · rw [if_pos (by omega), if_pos q]
      · rw [if_neg (by omega), if_neg q]
def nb_hJ (S : nb_S) (n : Nat) : Nat := if nb_ct (nb_VS S) 240 < n then nb_ct (nb_VS S) 240 else n
def nb_hoA (c n J : Nat) (d : Int32) : Int64 := if d = 0 then lN (nb_ab c n J / Nat.gcd (nb_ab c n J) (16 ^ J)) else lN (16 ^ J / Nat.gcd (nb_ab c n J) (16 ^ J))
def nb_aHoarse (S : nb_S) (a b d : Int32) : Int64 := if v5_in a 0 16 = 0 then -9223372036854775806 else if v5_in b 1 12 = 0 then -9223372036854775806 else if v5_in d 0 1 = 0 then -9223372036854775806 else nb_hoA a.toNatClampNeg b.toNatClampNeg (nb_hJ S b.toNatClampNeg) d
theorem nb_p16 (j : Nat) : 16 ^ j = 2 ^ (4 * j) := by rw [Nat.pow_mul]
theorem nb_hoarse4 {K : Int64 → nw_ST → Prop} {S : nb_S} {σ : nw_ST} {a b d : Int32} (hO : nb_OK S) (hC : nb_C S σ) (hk : ∀ s, nb_C S s → nb_Ch nb_cS nb_cA σ s → K (nb_aHoarse S a b d) s) : f4_hoarse K σ a b d := by
  unfold f4_hoarse f4_hoarse_28
  have hb2 : v4_isBelow d 2 = 0 ↔ v5_in d 0 1 = 0 := nb_below (a := d) 1 (by decide)
  rw [nb_isFrom, nb_isFrom, hb2]
  unfold nb_aHoarse at hk
  refine ⟨fun z1 => ?_, fun z1 => ⟨fun z2 => ?_, fun z2 => ⟨fun z3 => ?_, fun z3 => ?_⟩⟩⟩
  · have := hk σ hC nb_Ch.rf; rw [if_pos z1] at this; exact this
  · have := hk σ hC nb_Ch.rf; rw [if_neg z1, if_pos z2] at this; exact this
  · have := hk σ hC nb_Ch.rf; rw [if_neg z1, if_neg z2, if_pos z3] at this; exact this
  · rw [if_neg z1, if_neg z2, if_neg z3] at hk
    obtain ⟨c, -, hc, rfl⟩ := nb_in 0 16 (by decide) (by decide) z1
    obtain ⟨m, hm1, hm, rfl⟩ := nb_in 1 12 (by decide) (by decide) z2
    rw [nI_clamp (show c < 2 ^ 31 by omega), nI_clamp (show m < 2 ^ 31 by omega)] at hk
    refine nb_fillL (L := 13) rfl (by decide) (fun s1 c1 v1 => ⟨vp_in_nI (n := 0) (by decide) (by decide), ?_⟩)
    have e0 : (0 : Int32).toNatClampNeg = 0 := by decide
    rw [e0]
    have c2 : nb_Ch [] [36] σ (nw_sL s1 36 0 1) := c1.sL _ _ (by decide)
    have v2 : ∀ x, x ≤ 12 → nw_gL (nw_sL s1 36 0 1) 36 x = lN (nb_wy c 0 x) := by
      intro x hx
      rw [nb_gLsL, if_pos rfl]
      show _ = lN (if x = 0 then 1 else 0)
      by_cases e : x = 0
      · rw [if_pos e, if_pos e]; rfl
      · rw [if_neg e, if_neg e, v1 x (by omega)]; rfl
    generalize nw_sL s1 36 0 1 = s2 at c2 v2 ⊢
    have hC2 : nb_C S s2 := hC.ch c2 (by decide) (by decide)
    refine nb_wavesX hO hC2 (fun s3 hs3 hw3 c3 => ?_)
    have v3 : ∀ x, x ≤ 12 → nw_gL s3 36 x = lN (nb_wy c 0 x) := fun x hx => ((c3.2 36 (by decide)).2 x).trans (v2 x hx)
    have hct := nb_ct_le (nb_VS S) 240
    have eJ : (if nw_gS s3 19 6 < nI m then nw_gS s3 19 6 else nI m) = nI (nb_hJ S m) := by
      unfold nb_hJ
      rw [hw3.2.2.2]
      by_cases q : nb_ct (nb_VS S) 240 < m
      · rw [if_pos q, if_pos (nI_lt q (by omega))]
      · rw [if_neg q, if_neg (nI_nlt (by omega) (by omega))]
    have hJ : nb_hJ S m ≤ 12 := by unfold nb_hJ; split <;> omega
    rw [eJ]
    generalize nb_hJ S m = J at hk hJ ⊢
    refine pk_loop (fun n j u => f4_hoarse_69 K n u (nI c) (nI m) d (lN (nb_ab c m j)) (lN (16 ^ j)) (nI J) (nI j)) (fun j u => nb_Ch [] [36] s3 u ∧ ∀ x, x ≤ 12 → nw_gL u 36 x = lN (nb_wy c j x)) J 0 s3 (Nat.zero_le _) ⟨nb_Ch.rf, v3⟩ ?_ ?_
    · rintro n u ⟨cu, -⟩
      show b4_hoarse_69 K _ u (nI c) (nI m) d (lN (nb_ab c m J)) (lN (16 ^ J)) (nI J) (nI J)
      unfold b4_hoarse_69 f4_hoarse_136
      refine ⟨fun _ => ?_, fun w => absurd (nI_le (Nat.le_refl _) (by omega)) w⟩
      have hab := nb_ab_le (n := m) hc hJ
      have hab2 : nb_ab c m J < 2 ^ 62 := Nat.lt_of_le_of_lt hab (by decide)
      have hk := hk u (hs3.ch cu (by decide) (by decide)) (((c2.up (by decide) (by decide +kernel)).tr (c3.up (by decide +kernel) (by decide +kernel))).tr (cu.up (by decide) (by decide +kernel)))
      unfold nb_hoA at hk
      rw [nb_p16] at hk ⊢
      have hp : 2 ^ (4 * J) ≤ 2 ^ 48 := Nat.pow_le_pow_right (by decide) (by omega)
      refine nb_sharedTwos hab2 (by omega) (fun i hi hg => ?_)
      rw [hg] at hk
      rw [nb_lshr hab2 (by omega), nb_lshr (by omega) (by omega)]
      exact hk
    · rintro n j u hj ⟨cu, vu⟩ ih
      show b4_hoarse_69 K _ u (nI c) (nI m) d (lN (nb_ab c m j)) (lN (16 ^ j)) (nI J) (nI j)
      unfold b4_hoarse_69
      refine ⟨fun w => absurd w (nI_ge hj (by omega)), fun _ => nb_stepWays hc vu (fun v cv vv => ?_)⟩
      rw [nI_clamp (show m < 2 ^ 31 by omega), vv m hm, nI_1 j, show (16 : Int64) = lN 16 from rfl, lN_mul, lN_mul, lN_add, ← nb_abS, ← Nat.pow_succ]
      exact ⟨vp_in_nI (by omega) (by decide), ih v ⟨cu.tr cv, vv⟩⟩
theorem nb_hoarseE {c n ct : Nat} (hn : n ≤ 12) : nb_sm c n (if ct < 12 then ct else 12) = nb_ab c n (if ct < n then ct else n) * 16 ^ (12 - (if ct < n then ct else n)) := by
  by_cases h : ct < n
  · rw [if_pos h, if_pos (by omega)]
    exact nb_sm_ab (by omega)
  · rw [if_neg h, ← nb_sm_ab hn]
    exact nb_sm_end (by split <;> omega)
theorem nb_divK {x y k : Nat} (hk : 0 < k) : x * k / Nat.gcd (x * k) (y * k) = x / Nat.gcd x y ∧ y * k / Nat.gcd (x * k) (y * k) = y / Nat.gcd x y := by
  rw [Nat.gcd_mul_right]
  exact ⟨Nat.mul_div_mul_right _ _ hk, Nat.mul_div_mul_right _ _ hk⟩
theorem nb_hoarse5 {K : Int64 → nw_ST → Prop} {S : nb_S} {σ : nw_ST} {a b d : Int32} (hO : nb_OK S) (hM : nb_MP S σ) (hk : ∀ s, nb_MP S s → nb_Ch nb_mS nb_mA σ s → K (nb_aHoarse S a b d) s) : f5_hoarse K σ a b d := by
  unfold f5_hoarse f5_hoarse_39 f5_hoarse_44 f5_hoarseOf
  rw [show v5_no (-2) = -9223372036854775806 by decide]
  unfold nb_aHoarse at hk
  refine ⟨fun z1 => ?_, fun z1 => ⟨fun z2 => ?_, fun z2 => ⟨fun z3 => ?_, fun z3 => ?_⟩⟩⟩
  · have := hk σ hM nb_Ch.rf; rw [if_pos z1] at this; exact this
  · have := hk σ hM nb_Ch.rf; rw [if_neg z1, if_pos z2] at this; exact this
  · have := hk σ hM nb_Ch.rf; rw [if_neg z1, if_neg z2, if_pos z3] at this; exact this
  · rw [if_neg z1, if_neg z2, if_neg z3] at hk
    obtain ⟨c, -, hc, rfl⟩ := nb_in 0 16 (by decide) (by decide) z1
    obtain ⟨m, hm1, hm, rfl⟩ := nb_in 1 12 (by decide) (by decide) z2
    rw [nI_clamp (show c < 2 ^ 31 by omega), nI_clamp (show m < 2 ^ 31 by omega)] at hk
    refine nb_laysTold hO hM (fun s hs hcc hT => ?_)
    have hct := nb_ct_le (nb_VS S) 240
    have h25 : ∀ u, nb_Ch [] [57] s u → nw_gS u 37 25 = nI (nb_ct (nb_VS S) 240) := fun u cu => (cu.1 37 25 (by decide)).trans hT.2.2.1.2.1
    have hE := nb_hoarseE (c := c) (ct := nb_ct (nb_VS S) 240) hm
    have hW : (if nb_ct (nb_VS S) 240 < 12 then nb_ct (nb_VS S) 240 else 12) ≤ 12 := by split <;> omega
    have hW2 : nb_ct (nb_VS S) 240 ≤ (if nb_ct (nb_VS S) 240 < 12 then nb_ct (nb_VS S) 240 else 12) ∨ (if nb_ct (nb_VS S) 240 < 12 then nb_ct (nb_VS S) 240 else 12) = 12 := by split <;> omega
    have hW3 : ∀ w, w < (if nb_ct (nb_VS S) 240 < 12 then nb_ct (nb_VS S) 240 else 12) → w < nb_ct (nb_VS S) 240 := by intro w; split <;> omega
    have hJ : nb_hJ S m ≤ 12 := by unfold nb_hJ; split <;> omega
    have eJ : nb_hJ S m = if nb_ct (nb_VS S) 240 < m then nb_ct (nb_VS S) 240 else m := rfl
    rw [← eJ] at hE
    clear eJ
    generalize nb_hJ S m = J at hk hE hJ
    generalize (if nb_ct (nb_VS S) 240 < 12 then nb_ct (nb_VS S) 240 else 12) = W at hE hW hW2 hW3
    refine pk_loop (fun n x u => f5_hoarseOf_15 (fun r s => K r s) n u (nI c) (nI m) d 0 281474976710656 (nI x)) (fun x u => nb_Ch [] [57] s u ∧ ∀ r, r < x → nw_gL u 57 r = lN (nb_wy c 0 r)) 15 0 s (by decide) ⟨nb_Ch.rf, fun r hr => absurd hr (Nat.not_lt_zero r)⟩ ?_ ?_
    · rintro n u ⟨cu, vu⟩
      show b5_hoarseOf_15 _ _ u (nI c) (nI m) d 0 281474976710656 (nI 15)
      unfold b5_hoarseOf_15
      refine ⟨fun _ => ?_, fun w => absurd (by decide) w⟩
      refine pk_loop (fun n w v => f5_hoarseOf_48 (fun r s => K r s) n v (nI c) (nI m) d (lN (nb_sm c m w)) (lN (16 ^ (12 - w))) (nI w)) (fun w v => nb_Ch [] [57] s v ∧ ∀ x, x ≤ 14 → nw_gL v 57 x = lN (nb_wy c w x)) W 0 u (Nat.zero_le _) ⟨cu, fun x hx => vu x (by omega)⟩ ?_ ?_
      · clear cu vu u n
        rintro n u ⟨cu, -⟩
        show b5_hoarseOf_48 _ _ u (nI c) (nI m) d (lN (nb_sm c m W)) (lN (16 ^ (12 - W))) (nI W)
        have fin : f5_hoarseOf_161 (fun r s => K r s) u d (lN (nb_sm c m W)) := by
          unfold f5_hoarseOf_161
          rw [show (281474976710656 : Int64) = lN (16 ^ 12) by decide]
          have hle := nb_sm_le (n := m) hc hW
          refine nb_lowest (Nat.lt_of_le_of_lt hle (by decide)) (by decide) (by decide) ?_
          have hk := hk u (hs.ch cu (by decide) (by decide)) (hcc.tr (cu.up (by decide) (by decide +kernel)))
          unfold nb_hoA at hk
          have e12 : 16 ^ 12 = 16 ^ J * 16 ^ (12 - J) := by rw [← Nat.pow_add]; congr 1; omega
          obtain ⟨k1, k2⟩ := nb_divK (x := nb_ab c m J) (y := 16 ^ J) (k := 16 ^ (12 - J)) (Nat.pow_pos (by decide))
          rw [← hE, ← e12] at k1 k2
          rw [k1, k2]
          exact hk
        unfold b5_hoarseOf_48
        rw [h25 u cu]
        refine ⟨fun _ => fin, fun q => ⟨fun _ => fin, fun r => ?_⟩⟩
        rcases hW2 with w | w
        · exact absurd (nI_le w (by omega)) q
        · exact absurd (show (12 : Int32) ≤ nI W from nI_le (a := 12) (by omega) (by omega)) r
      · clear cu vu u n
        rintro n w u hw ⟨cu, vu⟩ ih
        show b5_hoarseOf_48 _ _ u (nI c) (nI m) d (lN (nb_sm c m w)) (lN (16 ^ (12 - w))) (nI w)
        unfold b5_hoarseOf_48
        have hwc := hW3 w hw
        rw [h25 u cu]
        refine ⟨fun q => absurd q (nI_ge hwc (by omega)), fun _ => ⟨fun q => absurd q (nI_ge (b := 12) (by omega) (by decide)), fun _ => ?_⟩⟩
        have hpl : 16 ^ (12 - w) ≤ 16 ^ 12 := Nat.pow_le_pow_right (by decide) (by omega)
        have hpl2 : 16 ^ (12 - w) < 2 ^ 63 := Nat.lt_of_le_of_lt hpl (by decide)
        have e16 : lN (16 ^ (12 - w)) / 16 = lN (16 ^ (11 - w)) := by
          rw [show (16 : Int64) = lN 16 from rfl, pk_lDiv hpl2 (by decide) (by decide), show 12 - w = (11 - w) + 1 by omega, Nat.pow_succ, Nat.mul_div_cancel _ (by decide)]
        rw [e16, show (14 : Int32) = nI 15 + (-1) by decide]
        refine ⟨16, pk_loopD (fun n e v => f5_hoarseOf_76 (fun r s => K r s) _ n v (nI c) (nI m) d (lN (nb_sm c m w)) (lN (16 ^ (11 - w))) (nI w) (nI e + (-1))) (fun e v => nb_Ch [] [57] s v ∧ e ≤ 15 ∧ ∀ x, x ≤ 14 → nw_gL v 57 x = if x < e then lN (nb_wy c w x) else lN (nb_wy c (w + 1) x)) ?_ ?_ 15 u ⟨cu, Nat.le_refl _, fun x hx => by rw [if_pos (by omega)]; exact vu x hx⟩⟩
        · clear cu vu u
          rintro n u ⟨cu, -, vu⟩
          show b5_hoarseOf_76 _ _ _ u (nI c) (nI m) d _ _ (nI w) (nI 0 + (-1))
          unfold b5_hoarseOf_76
          refine ⟨fun _ => ⟨vp_in_nI (by omega) (by decide), ?_⟩, fun q => absurd (by decide) q⟩
          have vu : ∀ x, x ≤ 14 → nw_gL u 57 x = lN (nb_wy c (w + 1) x) := fun x hx => by have := vu x hx; rw [if_neg (Nat.not_lt_zero x)] at this; exact this
          rw [nI_clamp (show m < 2 ^ 31 by omega), vu m (by omega), lN_mul, lN_add, ← nb_smS, nI_1 w]
          have := ih u ⟨cu, vu⟩
          rw [show 12 - (w + 1) = 11 - w by omega] at this
          exact this
        · clear cu vu u
          rintro n i u ⟨cu, hi, vu⟩ ih2
          show b5_hoarseOf_76 _ _ _ u (nI c) (nI m) d _ _ (nI w) (nI (i + 1) + (-1))
          rw [pk_m1]
          unfold b5_hoarseOf_76 f5_hoarseOf_111 f5_hoarseOf_133
          have g1 : (if nI i ≤ 0 then (0 : Int64) else (Int32.toInt64 ((16 : Int32) - nI c)) * nw_gL u 57 (nI i - 1).toNatClampNeg) = (Int32.toInt64 ((16 : Int32) - nI c)) * lN (if i < 1 then 0 else nb_wy c w (i - 1)) := by
            by_cases q : i < 1
            · rw [if_pos q, if_pos ((nb_le0 (by omega)).mpr (by omega)), show lN 0 = 0 from rfl, Int64.mul_zero]
            · rw [if_neg q, if_neg (fun z => q (by have := (nb_le0 (by omega)).mp z; omega)), show nI i - 1 = nI (i - 1) from pk_sub (b := 1) (by omega), nI_clamp (show i - 1 < 2 ^ 31 by omega), vu _ (by omega), if_pos (by omega)]
          have g2 : (if nI i ≤ 1 then (0 : Int64) else (Int32.toInt64 (nI c)) * nw_gL u 57 (nI i - 2).toNatClampNeg) = (Int32.toInt64 (nI c)) * lN (if i < 2 then 0 else nb_wy c w (i - 2)) := by
            by_cases q : i < 2
            · rw [if_pos q, if_pos (show nI i ≤ 1 from nI_le (b := 1) (by omega) (by decide)), show lN 0 = 0 from rfl, Int64.mul_zero]
            · rw [if_neg q, if_neg (show ¬ nI i ≤ 1 from nI_ge (a := 1) (by omega) (by omega)), show nI i - 2 = nI (i - 2) from pk_sub (b := 2) (by omega), nI_clamp (show i - 2 < 2 ^ 31 by omega), vu _ (by omega), if_pos (by omega)]
          have o1 : (nI i ≤ 0 → True) ∧ (¬ nI i ≤ 0 → vp_in (nI i - 1) 15) := by
            refine ⟨fun _ => trivial, fun q => ?_⟩
            have : ¬ i = 0 := fun z => q ((nb_le0 (by omega)).mpr z)
            rw [show nI i - 1 = nI (i - 1) from pk_sub (b := 1) (by omega)]; exact vp_in_nI (by omega) (by decide)
          have o2 : (nI i ≤ 1 → True) ∧ (¬ nI i ≤ 1 → vp_in (nI i - 2) 15) := by
            refine ⟨fun _ => trivial, fun q => ?_⟩
            have : ¬ i ≤ 1 := fun z => q (show nI i ≤ 1 from nI_le (b := 1) z (by decide))
            rw [show nI i - 2 = nI (i - 2) from pk_sub (b := 2) (by omega)]; exact vp_in_nI (by omega) (by decide)
          rw [g1, g2, nb_c16 hc, ← nb_wyS, nI_clamp (show i < 2 ^ 31 by omega)]
          refine ⟨fun q => absurd q (nI_pos (by omega)), fun _ => ⟨o1, o2, vp_in_nI (by omega) (by decide), ih2 _ ⟨cu.sL _ _ (by decide), by omega, fun x hx => ?_⟩⟩⟩
          rw [nb_gLsL, if_pos rfl]
          by_cases e : x = i
          · rw [if_pos e, if_neg (by omega), e]
          · rw [if_neg e, vu x hx]
            by_cases q : x < i
            · rw [if_pos (by omega), if_pos q]
            · rw [if_neg (by omega), if_neg q]
    · rintro n x u hx ⟨cu, vu⟩ ih
      show b5_hoarseOf_15 _ _ u (nI c) (nI m) d 0 281474976710656 (nI x)
      unfold b5_hoarseOf_15 f5_hoarseOf_38
      rw [nI_clamp (show x < 2 ^ 31 by omega), nI_1 x]
      refine ⟨fun w => absurd w (nI_ge (b := 15) hx (by decide)), fun _ => ⟨vp_in_nI (by omega) (by decide), ih _ ⟨cu.sL _ _ (by decide), fun r hr => ?_⟩⟩⟩
      rw [nb_gLsL, if_pos rfl]
      by_cases e : r = x
      · rw [if_pos e, e]
        show _ = lN (if x = 0 then 1 else 0)
        by_cases q : x = 0
        · rw [if_pos q, if_pos (by rw [q]; rfl)]; rfl
        · rw [if_neg q, if_neg (nI_ne0 (by omega) (by omega))]; rfl
      · rw [if_neg e]; exact vu r (by omega)
theorem nb_step28 : nl_S28 nb_Inv := by
  intro σ ⟨S, hO, hC, hM⟩ a b d
  refine nb_hoarse4 hO hC (fun s1 h1 c1 => ?_)
  show f5_hoarse _ s1 a b d
  exact nb_hoarse5 hO (hM.other c1) (fun s2 h2 c2 => ⟨rfl, S, hO, h1.other c2, h2⟩)
