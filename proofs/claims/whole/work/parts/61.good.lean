/-! ===== good, storm, write ===== -/
def nb_fi (S : nb_S) (i x : Nat) : Bool := decide (∀ r, r < i → S.2.1 6 r ≠ S.2.1 6 x)
theorem nb_fi_iff {S : nb_S} {i x : Nat} : nb_fi S i x = true ↔ ∀ r, r < i → S.2.1 6 r ≠ S.2.1 6 x := by unfold nb_fi; exact decide_eq_true_iff
def nb_first (S : nb_S) (x : Nat) : Bool := nb_fi S x x
def nb_aGood (S : nb_S) (a : Int32) : Int32 := if v4_isBelow a (nI (S.1 5)) = 0 then -2 else if nb_first S a.toNatClampNeg = true ∧ nb_wh (nb_VS S) (S.2.1 6 a.toNatClampNeg) < 240 then 1 else 0
theorem nb_tiN {V : nb_V} {n : Nat} : nb_ti V n = -1 ↔ ¬ nb_wh V n < 240 := by
  unfold nb_ti
  by_cases h : nb_wh V n < 240
  · rw [if_pos h]; exact ⟨fun z => absurd z (nb_neg1 (by omega)), fun z => absurd h z⟩
  · rw [if_neg h]; exact ⟨fun _ => h, fun _ => rfl⟩
theorem nb_fws {K : Int32 → nw_ST → Prop} {S : nb_S} {σ : nw_ST} {x : Nat} (hO : nb_OK S) (hC : nb_CP S σ) (hx : x < S.1 5) (hk : ∀ j, j ≤ x → S.2.1 6 j = S.2.1 6 x → (∀ i, i < j → S.2.1 6 i ≠ S.2.1 6 x) → K (nI j) σ) : f0_firstWithSecond K σ 13 (nI (S.2.1 6 x)) := by
  unfold f0_firstWithSecond
  have hp := hC.2.2.2.2.2.2.1
  have hb := hO.2.2.2.2.1
  refine pk_loop (fun m i u => f0_firstWithSecond_2 K m u 13 (nI (S.2.1 6 x)) (nI i)) (fun i u => u = σ ∧ i ≤ x ∧ ∀ r, r < i → S.2.1 6 r ≠ S.2.1 6 x) (x + 1) 0 σ (Nat.zero_le _) ⟨rfl, Nat.zero_le _, fun r hr => absurd hr (Nat.not_lt_zero r)⟩ ?_ ?_
  · rintro m u ⟨-, h, -⟩
    omega
  · rintro m i u hi ⟨rfl, hix, hn⟩ ih
    show b0_firstWithSecond_2 K _ u 13 (nI (S.2.1 6 x)) (nI i)
    unfold b0_firstWithSecond_2
    have h6 := hb.2 i (by omega)
    have h6x := hb.2 x (by omega)
    rw [nI_clamp (show i < 2 ^ 31 by omega), hp.1, show nw_rf 13 1 = 15 from rfl, show nw_len 15 = 12 from rfl, (hp.2 i (by omega)).2, nI_1 i]
    refine ⟨fun w => absurd w (nI_ge (by omega) (by omega)), fun _ => ⟨vp_in_nI (by omega) (by decide), fun z => ?_, fun z => ?_⟩⟩
    · exact hk i hix ((nI_eq (by omega) (by omega)).mp z) hn
    · have z : S.2.1 6 i ≠ S.2.1 6 x := fun q => z (by rw [q])
      refine ih u ⟨rfl, ?_, fun r hr => ?_⟩
      · rcases Nat.lt_or_ge i x with h | h
        · omega
        · exact absurd (by rw [show i = x by omega]) z
      · by_cases q : r = i
        · rw [q]; exact z
        · exact hn r (by omega)
theorem nb_goodC {K : Int32 → nw_ST → Prop} {S : nb_S} {σ : nw_ST} {a : Int32} (hO : nb_OK S) (hC : nb_C S σ) (hk : ∀ s, nb_C S s → nb_Ch nb_cS nb_cA σ s → K (nb_aGood S a) s) : f4_good K σ a := by
  unfold f4_good f4_good_44 f4_good_67
  have hp := hC.1.2.2.2.2.2.2.1
  have hb := hO.2.2.2.2.1
  have h0 := hk σ hC nb_Ch.rf
  unfold nb_aGood at h0 hk
  rw [hp.1]
  refine ⟨fun z => ?_, fun z => ?_⟩
  · rw [if_pos z] at h0; exact h0
  · rw [if_neg z] at h0 hk
    obtain ⟨x, hx, rfl⟩ := nb_belowE (by omega) z
    rw [nI_clamp (show x < 2 ^ 31 by omega)] at h0 hk ⊢
    have hpx : nw_gA σ 15 x = nI (S.2.1 6 x) := (hp.2 x hx).2
    have h6 := hb.2 x hx
    rw [hpx]
    refine ⟨vp_in_nI (by omega) (by decide), nb_fws hO hC.1 hx (fun j hjx hj hn => ?_)⟩
    by_cases e : j = x
    · subst e
      have hf : nb_first S j = true := nb_fi_iff.mpr hn
      rw [if_pos rfl]
      refine ⟨fun q => absurd q (by decide), fun _ => nb_waves hO hC (fun s hs hw hc => ?_)⟩
      have := hk s hs hc
      rw [nI_clamp (show S.2.1 6 j < 2 ^ 31 by omega), hw.2.2.1 _ h6.2.2]
      refine ⟨vp_in_nI (by omega) (by decide), ?_⟩
      by_cases q : nb_wh (nb_VS S) (S.2.1 6 j) < 240
      · rw [if_pos ⟨hf, q⟩] at this
        rw [if_neg (fun y => nb_tiN.mp y q)]; exact this
      · rw [if_neg (fun y => q y.2)] at this
        rw [if_pos (nb_tiN.mpr q)]; exact this
    · have hf : ¬ nb_first S x = true := fun y => nb_fi_iff.mp y j (by omega) hj
      rw [if_neg (fun y => hf y.1)] at h0
      rw [if_neg (fun y => e ((nI_eq (by omega) (by omega)).mp y))]
      exact ⟨fun _ => h0, fun q => absurd rfl q⟩
theorem nb_goodR {K : Int32 → nw_ST → Prop} {S : nb_S} {σ : nw_ST} {a : Int32} (hO : nb_OK S) (hM : nb_MP S σ) (hk : ∀ s, nb_MP S s → nb_Ch nb_mS nb_mA σ s → K (nb_aGood S a) s) : f5_good K σ a := by
  unfold f5_good f5_good_24 f5_goodOf f5_goodOf_23
  have hb := hO.2.2.2.2.1
  have h0 := hk σ hM nb_Ch.rf
  unfold nb_aGood at h0 hk
  rw [hM.2.2.2.2.1.1, nb_belowS (by omega)]
  refine ⟨fun z => ?_, fun z => ?_⟩
  · rw [if_pos z] at h0; exact h0
  · rw [if_neg z] at hk
    obtain ⟨x, hx, rfl⟩ := nb_belowE (by omega) z
    refine nb_laysTold hO hM (fun s hs hc hT => ?_)
    have hk := hk s hs hc
    rw [nI_clamp (show x < 2 ^ 31 by omega)] at hk ⊢
    have h6 := hb.2 x hx
    have n6 : ∀ i, i < S.1 5 → nw_gA s 50 i = nI (S.2.1 6 i) := fun i hi => (hs.2.2.2.2.1.2 i hi).2
    rw [n6 x hx]
    refine ⟨vp_in_nI (by omega) (by decide), nb_timeOf (nb_VSB hO) (fun t ht => (hT.2.2.1.1 t ht).2.2) h6.2.1 (by omega) ?_⟩
    have e0 : (if nb_ti (nb_VS S) (S.2.1 6 x) = -1 then (0 : Int32) else 1) = if nb_fi S 0 x = true ∧ nb_wh (nb_VS S) (S.2.1 6 x) < 240 then 1 else 0 := by
      by_cases q : nb_wh (nb_VS S) (S.2.1 6 x) < 240
      · rw [if_neg (fun y => nb_tiN.mp y q), if_pos ⟨nb_fi_iff.mpr (fun i hi => absurd hi (Nat.not_lt_zero i)), q⟩]
      · rw [if_pos (nb_tiN.mpr q), if_neg (fun y => q y.2)]
    rw [e0]
    refine pk_loop (fun m i u => f5_goodOf_26 (fun r s => K r s) m u (nI x) (if nb_fi S i x = true ∧ nb_wh (nb_VS S) (S.2.1 6 x) < 240 then 1 else 0) (nI i)) (fun i u => u = s) x 0 s (Nat.zero_le _) rfl ?_ ?_
    · rintro m u rfl
      show b5_goodOf_26 _ _ u (nI x) _ (nI x)
      unfold b5_goodOf_26 f5_goodOf_71
      refine ⟨fun _ => ?_, fun w => absurd (nI_le (Nat.le_refl _) (by omega)) w⟩
      rw [nb_ite01]
      exact hk
    · rintro m i u hi rfl ih
      show b5_goodOf_26 _ _ u (nI x) _ (nI i)
      unfold b5_goodOf_26 f5_goodOf_55
      have h6i := hb.2 i (by omega)
      rw [nI_clamp (show i < 2 ^ 31 by omega), nI_clamp (show x < 2 ^ 31 by omega), n6 x hx, n6 i (by omega), nI_1 i]
      refine ⟨fun w => absurd w (nI_ge hi (by omega)), fun _ => ⟨⟨fun _ => trivial, fun _ => ⟨vp_in_nI (by omega) (by decide), vp_in_nI (by omega) (by decide)⟩⟩, ?_⟩⟩
      have := ih u rfl
      have e : (if nb_fi S (i + 1) x = true ∧ nb_wh (nb_VS S) (S.2.1 6 x) < 240 then (1 : Int32) else 0) = (if (if nb_fi S i x = true ∧ nb_wh (nb_VS S) (S.2.1 6 x) < 240 then (1 : Int32) else 0) = 0 then 0 else if nI (S.2.1 6 i) = nI (S.2.1 6 x) then 0 else 1) := by
        by_cases q : nb_fi S i x = true ∧ nb_wh (nb_VS S) (S.2.1 6 x) < 240
        · rw [if_pos q]
          by_cases y : S.2.1 6 i = S.2.1 6 x
          · rw [if_neg (fun w => nb_fi_iff.mp w.1 i (Nat.lt_succ_self i) y), if_neg (by decide), if_pos (by rw [y])]
          · rw [if_neg (show ¬ (1 : Int32) = 0 by decide), if_neg (fun w => y ((nI_eq (by omega) (by omega)).mp w)), if_pos]
            refine ⟨nb_fi_iff.mpr (fun r hr => ?_), q.2⟩
            by_cases w : r = i
            · rw [w]; exact y
            · exact nb_fi_iff.mp q.1 r (by omega)
        · rw [if_neg q, if_pos rfl, if_neg (fun w => q ⟨nb_fi_iff.mpr (fun r hr => nb_fi_iff.mp w.1 r (by omega)), w.2⟩)]
      rw [e] at this
      exact this
theorem nb_step18 : nl_S18 nb_Inv := by
  intro σ ⟨S, hO, hC, hM⟩ a
  refine nb_goodC hO hC (fun s1 h1 c1 => ?_)
  show f5_good _ s1 a
  exact nb_goodR hO (hM.other c1) (fun s2 h2 c2 => ⟨rfl, S, hO, h1.other c2, h2⟩)
/-! storm -/
theorem nb_rnd (x : Int32) : ∃ t : Nat, t < 240 ∧ nw_rem (nw_ushr x 16) 240 = nI t := by
  have h := pk_ushr x 16 16 (by decide)
  have hx : x.toBitVec.toNat < 2 ^ 32 := x.toBitVec.isLt
  have e : nw_ushr x 16 = nI (x.toBitVec.toNat / 2 ^ 16) := by
    apply Int32.toBitVec_inj.mp
    apply BitVec.eq_of_toNat_eq
    rw [pk_tn (by omega)]
    exact h
  refine ⟨x.toBitVec.toNat / 2 ^ 16 % 240, Nat.mod_lt _ (by decide), ?_⟩
  rw [e, show (240 : Int32) = nI 240 from rfl]
  exact nb_remN (by omega) (by decide) (by decide)
def nb_nx (x : Int32) : Int32 := (1103515245 : Int32) * x + 12345
def nb_pk (x : Int32) : Nat := (nw_rem (nw_ushr x 16) 240).toNatClampNeg
theorem nb_pkT (x : Int32) : nb_pk x < 240 ∧ nw_rem (nw_ushr x 16) 240 = nI (nb_pk x) := by
  obtain ⟨t, ht, e⟩ := nb_rnd x
  unfold nb_pk
  rw [e, nI_clamp (by omega)]
  exact ⟨ht, rfl⟩
def nb_stm (S : nb_S) (a : Int32) : Nat → Int32 × Int32 × Int32
  | 0 => (0, 0, a)
  | i + 1 => if nb_at (nb_VS S) (nb_pk (nb_nx (nb_stm S a i).2.2)) = 0 then ((nb_stm S a i).1, (nb_stm S a i).2.1, nb_nx (nb_stm S a i).2.2) else ((nb_stm S a i).1 + nI (nb_br S (nb_at (nb_VS S) (nb_pk (nb_nx (nb_stm S a i).2.2)))), (nb_stm S a i).2.1 + 1, nb_nx (nb_stm S a i).2.2)
def nb_aStorm (S : nb_S) (a b c : Int32) : Int32 := if v5_in b 1 99 = 0 then -2 else if v5_in c 0 1 = 0 then -2 else if c = 0 then (nb_stm S a b.toNatClampNeg).1 else (nb_stm S a b.toNatClampNeg).2.1
theorem nb_storm4 {K : Int32 → nw_ST → Prop} {S : nb_S} {σ : nw_ST} {a b c : Int32} (hO : nb_OK S) (hC : nb_C S σ) (hk : ∀ s, nb_C S s → nb_Ch nb_cS nb_cA σ s → K (nb_aStorm S a b c) s) : f4_storm K σ a b c := by
  unfold f4_storm f4_storm_18
  have hb2 : v4_isBelow c 2 = 0 ↔ v5_in c 0 1 = 0 := nb_below (a := c) 1 (by decide)
  rw [nb_isFrom, hb2]
  have h0 := hk σ hC nb_Ch.rf
  unfold nb_aStorm at h0 hk
  refine ⟨fun z => ?_, fun z => ⟨fun z2 => ?_, fun z2 => ?_⟩⟩
  · rw [if_pos z] at h0; exact h0
  · rw [if_neg z, if_pos z2] at h0; exact h0
  · refine nb_waves hO hC (fun s hs hw hc => ?_)
    have hk := hk s hs hc
    rw [if_neg z, if_neg z2] at hk
    obtain ⟨n, -, hn, rfl⟩ := nb_in 1 99 (by decide) (by decide) z
    rw [nI_clamp (show n < 2 ^ 31 by omega)] at hk
    have hB := nb_VSB hO
    refine pk_loop (fun m i u => f4_storm_39 K m u (nI n) c (nb_stm S a i).1 (nb_stm S a i).2.1 (nb_stm S a i).2.2 (nI i)) (fun i u => u = s) n 0 s (Nat.zero_le _) rfl ?_ ?_
    · rintro m u rfl
      show b4_storm_39 K _ u (nI n) c _ _ _ (nI n)
      unfold b4_storm_39 f4_storm_108
      exact ⟨fun _ => hk, fun w => absurd (nI_le (Nat.le_refl _) (by omega)) w⟩
    · rintro m i u hi rfl ih
      show b4_storm_39 K _ u (nI n) c _ _ _ (nI i)
      unfold b4_storm_39 f4_storm_91
      have := ih u rfl
      obtain ⟨hp, ep⟩ := nb_pkT (nb_nx (nb_stm S a i).2.2)
      obtain ⟨on, vn⟩ := nb_num4 hB hw hp
      have hle := nb_at_le hB (nb_pk (nb_nx (nb_stm S a i).2.2))
      rw [show (1103515245 : Int32) * (nb_stm S a i).2.2 + 12345 = nb_nx (nb_stm S a i).2.2 from rfl, ep, vn, nI_1 i]
      unfold nb_stm at this
      refine ⟨fun w => absurd w (nI_ge hi (by omega)), fun _ => ⟨on, fun w => ?_, fun w => ?_⟩⟩
      · rw [if_pos ((nb_le0 (by omega)).mp w)] at this; exact this
      · rw [if_neg (fun q => w ((nb_le0 (by omega)).mpr q))] at this
        exact nb_valueOf hO hs.1 (by omega) this
theorem nb_storm5 {K : Int32 → nw_ST → Prop} {S : nb_S} {σ : nw_ST} {a b c : Int32} (hO : nb_OK S) (hM : nb_MP S σ) (hk : ∀ s, nb_MP S s → nb_Ch nb_mS nb_mA σ s → K (nb_aStorm S a b c) s) : f5_storm K σ a b c := by
  unfold f5_storm f5_storm_29 f5_storm_31 f5_stormOf
  have h0 := hk σ hM nb_Ch.rf
  unfold nb_aStorm at h0 hk
  refine ⟨fun z => ?_, fun z => ⟨fun z2 => ?_, fun z2 => ?_⟩⟩
  · rw [if_pos z] at h0; exact h0
  · rw [if_neg z, if_pos z2] at h0; exact h0
  · refine nb_laysTold hO hM (fun s hs hc hT => ?_)
    have hk := hk s hs hc
    rw [if_neg z, if_neg z2] at hk
    obtain ⟨n, -, hn, rfl⟩ := nb_in 1 99 (by decide) (by decide) z
    rw [nI_clamp (show n < 2 ^ 31 by omega)] at hk
    have hB := nb_VSB hO
    refine pk_loop (fun m i u => f5_stormOf_16 (fun r s => K r s) m u (nI n) c (nb_stm S a i).2.2 (nb_stm S a i).1 (nb_stm S a i).2.1 (nI i)) (fun i u => u = s) n 0 s (Nat.zero_le _) rfl ?_ ?_
    · rintro m u rfl
      show b5_stormOf_16 _ _ u (nI n) c _ _ _ (nI n)
      unfold b5_stormOf_16 f5_stormOf_102
      exact ⟨fun _ => hk, fun w => absurd (nI_le (Nat.le_refl _) (by omega)) w⟩
    · rintro m i u hi rfl ih
      show b5_stormOf_16 _ _ u (nI n) c _ _ _ (nI i)
      unfold b5_stormOf_16 f5_stormOf_67 f5_stormOf_82
      have := ih u rfl
      obtain ⟨hp, ep⟩ := nb_pkT (nb_nx (nb_stm S a i).2.2)
      have hle := nb_at_le hB (nb_pk (nb_nx (nb_stm S a i).2.2))
      rw [show (1103515245 : Int32) * (nb_stm S a i).2.2 + 12345 = nb_nx (nb_stm S a i).2.2 from rfl, ep, nI_clamp (show nb_pk (nb_nx (nb_stm S a i).2.2) < 2 ^ 31 by omega), (hT.2.2.1.1 _ hp).2.2, nI_1 i]
      unfold nb_stm at this
      refine ⟨fun w => absurd w (nI_ge hi (by omega)), fun _ => ⟨vp_in_nI hp (by decide), fun w => ?_, fun w => ?_⟩⟩
      · rw [if_pos ((nb_le0 (by omega)).mp w)] at this
        rw [if_pos w, Int32.add_zero, Int32.add_zero]; exact this
      · rw [if_neg (fun q => w ((nb_le0 (by omega)).mpr q))] at this
        refine nb_bringsNow hO hT.1.2 (by omega) ?_
        rw [if_neg w]; exact this
theorem nb_step29 : nl_S29 nb_Inv := by
  intro σ ⟨S, hO, hC, hM⟩ a b c
  refine nb_storm4 hO hC (fun s1 h1 c1 => ?_)
  show f5_storm _ s1 a b c
  exact nb_storm5 hO (hM.other c1) (fun s2 h2 c2 => ⟨rfl, S, hO, h1.other c2, h2⟩)
