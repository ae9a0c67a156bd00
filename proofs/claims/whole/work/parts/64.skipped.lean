/-! ===== what is heard; skipped ===== -/
def nb_hd (V : nb_V) (S : nb_S) (n : Nat) : Bool := decide (∀ i, i < n → nb_at V (S.2.1 7 i) = S.2.1 8 i)
theorem nb_hd_iff {V : nb_V} {S : nb_S} {n : Nat} : nb_hd V S n = true ↔ ∀ i, i < n → nb_at V (S.2.1 7 i) = S.2.1 8 i := by unfold nb_hd; exact decide_eq_true_iff
theorem nb_hdN {V : nb_V} {S : nb_S} {n : Nat} : nb_hd V S (n + 1) = true ↔ nb_hd V S n = true ∧ nb_at V (S.2.1 7 n) = S.2.1 8 n := by
  rw [nb_hd_iff, nb_hd_iff]
  refine ⟨fun h => ⟨fun i hi => h i (by omega), h n (by omega)⟩, fun h i hi => ?_⟩
  by_cases e : i = n
  · rw [e]; exact h.2
  · exact h.1 i (by omega)
theorem nb_isHeard {K : Int32 → nw_ST → Prop} {V : nb_V} {S : nb_S} {σ : nw_ST} (hO : nb_OK S) (hM : nb_MP S σ) (hB : nb_VB V) (hL : nb_LV V σ) (hk : ∀ s, nb_Ch nb_lS nb_lA σ s → K (if nb_hd V S (S.1 6) then 1 else 0) s) : f5_isHeard K σ := by
  unfold f5_isHeard
  refine nb_lays hB hL (fun s hc hw => ?_)
  have hk := hk s hc
  have hm := (hM.ch hc (by decide +kernel) (by decide +kernel)).2.2.2.2.2.1
  have hb := hO.2.2.2.2.2.1
  have i0 : (if nb_hd V S 0 then (1 : Int32) else 0) = 1 := by rw [if_pos]; exact nb_hd_iff.mpr (fun i hi => absurd hi (Nat.not_lt_zero i))
  have key : ∃ n, f5_isHeard_8 K n s (if nb_hd V S 0 then 1 else 0) (nI 0) := by
    refine pk_loop (fun m i u => f5_isHeard_8 K m u (if nb_hd V S i then 1 else 0) (nI i)) (fun i u => u = s) (S.1 6) 0 s (Nat.zero_le _) rfl ?_ ?_
    · rintro m u rfl
      show b5_isHeard_8 K _ u _ (nI (S.1 6))
      unfold b5_isHeard_8
      rw [hm.1]
      refine ⟨fun _ => ⟨?_, hk⟩, fun w => absurd (nI_le (Nat.le_refl _) (by omega)) w⟩
      split
      · exact Or.inr rfl
      · exact Or.inl rfl
    · rintro m i u hi rfl ih
      show b5_isHeard_8 K _ u _ (nI i)
      unfold b5_isHeard_8 f5_isHeard_45
      have hbi := hb.2 i hi
      have hle := nb_at_le hB (S.2.1 7 i)
      rw [hm.1, nI_clamp (show i < 2 ^ 31 by omega), (hm.2 i hi).1, (hm.2 i hi).2, nI_clamp (show S.2.1 7 i < 2 ^ 31 by omega), (hw.1 _ hbi.1).2.2, nI_1 i]
      refine ⟨fun w => absurd w (nI_ge hi (by omega)), fun _ => ⟨⟨fun _ => trivial, fun _ => ⟨vp_in_nI (by omega) (by decide), vp_in_nI hbi.1 (by decide), vp_in_nI (by omega) (by decide)⟩⟩, ?_⟩⟩
      have := ih u rfl
      have e : (if nb_hd V S (i + 1) then (1 : Int32) else 0) = (if (if nb_hd V S i then (1 : Int32) else 0) = 0 then 0 else if nI (nb_at V (S.2.1 7 i)) = nI (S.2.1 8 i) then 1 else 0) := by
        by_cases q : nb_hd V S i = true
        · rw [if_pos q, if_neg (show ¬ (1 : Int32) = 0 by decide)]
          by_cases y : nb_at V (S.2.1 7 i) = S.2.1 8 i
          · rw [if_pos (nb_hdN.mpr ⟨q, y⟩), if_pos (by rw [y])]
          · rw [if_neg (fun w => y (nb_hdN.mp w).2), if_neg (fun w => y ((nI_eq (by omega) (by omega)).mp w))]
        · rw [if_neg q, if_pos rfl, if_neg (fun w => q (nb_hdN.mp w).1)]
      rw [e] at this
      exact this
  rw [i0] at key
  exact key
/-- one slip more -/
def nb_VX (V : nb_V) (k m : Nat) : nb_V := (V.1, V.2.1, V.2.2.1, V.2.2.2.1, V.2.2.2.2.1, V.2.2.2.2.2.1, V.2.2.2.2.2.2.1, nb_nl V + 1, fun i => if i = nb_nl V then k else nb_lk V i, fun i => if i = nb_nl V then m else nb_lm V i)
theorem nb_nuX (V : nb_V) (k m c : Nat) : nb_nu (nb_VX V k m) c = nb_nu V c + (if k ≤ c then m else 0) := by
  show c + (nb_sum _ (nb_nl V) + (if (if nb_nl V = nb_nl V then k else nb_lk V (nb_nl V)) ≤ c then (if nb_nl V = nb_nl V then m else nb_lm V (nb_nl V)) else 0)) = _
  rw [if_pos rfl, if_pos rfl]
  have : nb_sum (fun i => if nb_lk (nb_VX V k m) i ≤ c then nb_lm (nb_VX V k m) i else 0) (nb_nl V) = nb_sum (fun i => if nb_lk V i ≤ c then nb_lm V i else 0) (nb_nl V) := by
    apply nb_sum_congr
    intro i hi
    show (if (if i = nb_nl V then k else nb_lk V i) ≤ c then (if i = nb_nl V then m else nb_lm V i) else 0) = _
    rw [if_neg (show ¬ i = nb_nl V by omega), if_neg (show ¬ i = nb_nl V by omega)]
  rw [this]
  unfold nb_nu
  omega
theorem nb_atX {V : nb_V} (hB : nb_VB V) {k m : Nat} (hk : 1 ≤ k) (t : Nat) : nb_at (nb_VX V k m) t = nb_nu V (nb_tu V t) + (if nb_tu V t < k then 0 else m) := by
  have e1 : nb_ca (nb_VX V k m) t = nb_ca V t := rfl
  have e2 : nb_ct (nb_VX V k m) (t + 1) = nb_ct V (t + 1) := rfl
  unfold nb_at nb_tu
  rw [e1, e2]
  cases nb_ca V t
  · show 0 = nb_nu V 0 + (if 0 < k then 0 else m)
    rw [nb_nu0 hB, if_pos (by omega)]
  · show nb_nu (nb_VX V k m) (nb_ct V (t + 1)) = nb_nu V (nb_ct V (t + 1)) + (if nb_ct V (t + 1) < k then 0 else m)
    rw [nb_nuX]
    by_cases h : k ≤ nb_ct V (t + 1)
    · rw [if_pos h, if_neg (by omega)]
    · rw [if_neg h, if_pos (by omega)]
theorem nb_fitsSlip {K : Int32 → nw_ST → Prop} {S : nb_S} {σ : nw_ST} {k m : Nat} (hO : nb_OK S) (hC : nb_CP S σ) (hw : nb_WV (nb_VS S) σ) (hk1 : 1 ≤ k) (hk2 : k ≤ 1000) (hm : m ≤ 1000) (hk : K (if nb_hd (nb_VX (nb_VS S) k m) S (S.1 6) then 1 else 0) σ) : f4_fitsSlip K σ (nI k) (nI m) := by
  unfold f4_fitsSlip
  have hp := hC.2.2.2.2.2.2.2.1
  have hb := hO.2.2.2.2.2.1
  have hB := nb_VSB hO
  refine pk_loop (fun n i u => f4_fitsSlip_3 K n u (nI k) (nI m) (nI i)) (fun i u => u = σ ∧ nb_hd (nb_VX (nb_VS S) k m) S i = true) (S.1 6) 0 σ (Nat.zero_le _) ⟨rfl, nb_hd_iff.mpr (fun i hi => absurd hi (Nat.not_lt_zero i))⟩ ?_ ?_
  · rintro n u ⟨rfl, hh⟩
    show b4_fitsSlip_3 K _ u (nI k) (nI m) (nI (S.1 6))
    unfold b4_fitsSlip_3
    rw [hp.1]
    rw [if_pos hh] at hk
    exact ⟨fun _ => hk, fun w => absurd (nI_le (Nat.le_refl _) (by omega)) w⟩
  · rintro n i u hi ⟨rfl, hh⟩ ih
    show b4_fitsSlip_3 K _ u (nI k) (nI m) (nI i)
    unfold b4_fitsSlip_3 f4_fitsSlip_50
    have hbi := hb.2 i hi
    have p1 : nw_gA u 17 i = nI (S.2.1 7 i) := (hp.2 i hi).1
    have p2 : nw_gA u 18 i = nI (S.2.1 8 i) := (hp.2 i hi).2
    have htu := nb_tu_le (nb_VS S) (S.2.1 7 i)
    have hnu := nb_nu_le hB (nb_tu (nb_VS S) (S.2.1 7 i))
    rw [hp.1, nI_clamp (show i < 2 ^ 31 by omega), p1, p2, nI_clamp (show S.2.1 7 i < 2 ^ 31 by omega), (hw.1 _ hbi.1).2.2.2, nI_clamp (show nb_tu (nb_VS S) (S.2.1 7 i) < 2 ^ 31 by omega), hw.2.1 _ (by omega), nI_1 i]
    have ea := nb_atX hB (m := m) hk1 (S.2.1 7 i)
    have ev : nI (nb_nu (nb_VS S) (nb_tu (nb_VS S) (S.2.1 7 i))) + (if nI (nb_tu (nb_VS S) (S.2.1 7 i)) < nI k then 0 else nI m) = nI (nb_at (nb_VX (nb_VS S) k m) (S.2.1 7 i)) := by
      rw [ea]
      by_cases q : nb_tu (nb_VS S) (S.2.1 7 i) < k
      · rw [if_pos q, if_pos (nI_lt q (by omega)), show (0 : Int32) = nI 0 from rfl, nI_add]
      · rw [if_neg q, if_neg (nI_nlt (by omega) (by omega)), nI_add]
    have hle : nb_at (nb_VX (nb_VS S) k m) (S.2.1 7 i) < 2 ^ 31 := by rw [ea]; split <;> omega
    rw [ev]
    refine ⟨fun w => absurd w (nI_ge hi (by omega)), fun _ => ⟨vp_in_nI (by omega) (by decide), vp_in_nI hbi.1 (by decide), vp_in_nI (by omega) (by decide), vp_in_nI (by omega) (by decide), fun z => ih u ⟨rfl, nb_hdN.mpr ⟨hh, (nI_eq hle (by omega)).mp z⟩⟩, fun z => ?_⟩⟩
    have : ¬ nb_hd (nb_VX (nb_VS S) k m) S (S.1 6) = true := fun q => z (by rw [nb_hd_iff.mp q i hi])
    rw [if_neg this] at hk
    exact hk
def nb_msk (S : nb_S) (m : Nat) : Nat → Int32
  | 0 => 0
  | i + 1 => nb_msk S m i ||| (if nb_hd (nb_VX (nb_VS S) (i + 1) m) S (S.1 6) then nw_shl 1 (nI (i + 1) - 1) else 0)
theorem nb_mskS (S : nb_S) (m i : Nat) : nb_msk S m (i + 1) = nb_msk S m i ||| (if nb_hd (nb_VX (nb_VS S) (i + 1) m) S (S.1 6) then nw_shl 1 (nI (i + 1) - 1) else 0) := rfl
def nb_aSkipped (S : nb_S) (a : Int32) : Int32 := if v5_in a 1 11 = 0 then -2 else nb_msk S a.toNatClampNeg 31
theorem nb_skipped4 {K : Int32 → nw_ST → Prop} {S : nb_S} {σ : nw_ST} {a : Int32} (hO : nb_OK S) (hC : nb_C S σ) (hk : ∀ s, nb_C S s → nb_Ch nb_cS nb_cA σ s → K (nb_aSkipped S a) s) : f4_skipped K σ a := by
  unfold f4_skipped
  rw [nb_isFrom]
  have h0 := hk σ hC nb_Ch.rf
  unfold nb_aSkipped at h0 hk
  refine ⟨fun z => ?_, fun z => ?_⟩
  · rw [if_pos z] at h0; exact h0
  · refine nb_waves hO hC (fun s hs hw hc => ?_)
    have hk := hk s hs hc
    rw [if_neg z] at hk
    obtain ⟨m, hm1, hm2, rfl⟩ := nb_in 1 11 (by decide) (by decide) z
    rw [nI_clamp (show m < 2 ^ 31 by omega)] at hk
    generalize hT : nb_msk S m 31 = T at hk
    refine pk_loop (fun n i u => f4_skipped_23 K n u (nI m) (nb_msk S m i) (nI (i + 1))) (fun i u => u = s) 31 0 s (by decide) rfl ?_ ?_
    · rintro n u rfl
      show b4_skipped_23 K _ u (nI m) (nb_msk S m 31) (nI 32)
      rw [hT]
      unfold b4_skipped_23
      exact ⟨fun _ => hk, fun w => absurd (by decide) w⟩
    · rintro n i u hi rfl ih
      show b4_skipped_23 K _ u (nI m) (nb_msk S m i) (nI (i + 1))
      unfold b4_skipped_23 f4_skipped_50
      refine ⟨fun w => absurd ((nI_ltI (a := 31) (by decide) (by omega)).mp w) (by omega), fun _ => nb_fitsSlip hO hs.1 hw (by omega) (by omega) (by omega) ?_⟩
      have := ih u rfl
      rw [nb_mskS] at this
      rw [nI_1 (i + 1)]
      by_cases q : nb_hd (nb_VX (nb_VS S) (i + 1) m) S (S.1 6) = true
      · rw [if_pos q] at this ⊢; exact this
      · rw [if_neg q, Int32.or_zero] at this; rw [if_neg q, if_pos rfl]; exact this
theorem nb_VXB {V : nb_V} (hB : nb_VB V) (h12 : nb_nl V ≤ 12) {k m : Nat} (h1 : 1 ≤ k) (h2 : k ≤ 1000) (h3 : m ≤ 1000) : nb_VB (nb_VX V k m) := by
  refine ⟨hB.1, hB.2.1, hB.2.2.1, hB.2.2.2.1, ?_, fun i hi => ?_⟩
  · show nb_nl V + 1 ≤ 13; omega
  · have hi : i < nb_nl V + 1 := hi
    show 1 ≤ (if i = nb_nl V then k else nb_lk V i) ∧ (if i = nb_nl V then k else nb_lk V i) ≤ 1000 ∧ (if i = nb_nl V then m else nb_lm V i) ≤ 1000
    by_cases e : i = nb_nl V
    · rw [if_pos e, if_pos e]; exact ⟨h1, h2, h3⟩
    · rw [if_neg e, if_neg e]; exact hB.2.2.2.2.2 i (by omega)
