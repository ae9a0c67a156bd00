/-! ===== bounds of entries; the reference lays as told ===== -/
theorem nb_enW {t : Nat} {f : Nat → Nat} {n i : Nat} (h : i < nb_en t f n) : 6 * i + 4 < n ∧ ∀ j, j < n → nb_good t f j = true := by
  unfold nb_en at h
  by_cases hw : nb_well t f n = true
  · rw [if_pos hw] at h
    have := of_decide_eq_true hw
    rcases this with h0 | ⟨h1, h2⟩
    · subst h0; omega
    · refine ⟨by omega, fun j hj => ?_⟩
      have := nb_fst_no (fun j => !nb_good t f j) n j (by show j < nb_bad t f n; rw [h1]; exact hj)
      cases hg : nb_good t f j
      · rw [hg] at this; cases this
      · rfl
  · rw [if_neg hw] at h; exact absurd h (Nat.not_lt_zero i)
theorem nb_ptB0 {f : Nat → Nat} {n i : Nat} (h : i < nb_en 0 f n) : (1 ≤ nb_pt 0 f i 0 ∧ nb_pt 0 f i 0 ≤ 9) ∧ (2 ≤ nb_pt 0 f i 1 ∧ nb_pt 0 f i 1 ≤ 99) ∧ nb_pt 0 f i 2 ≤ 99 := by
  obtain ⟨h6, hg⟩ := nb_enW h
  have d : ∀ p, p < 5 → 48 ≤ f (6 * i + p) ∧ f (6 * i + p) ≤ 57 := fun p hp => nb_goodD (hg _ (by omega)) (by omega)
  have g0 := hg (6 * i + 0) (by omega)
  have g2 := hg (6 * i + 2) (by omega)
  rw [nb_gd00 (d 0 (by decide)).1 (d 0 (by decide)).2] at g0
  rw [nb_gd02 (d 2 (by decide)).1 (d 2 (by decide)).2] at g2
  simp only [Bool.not_eq_true', decide_eq_false_iff_not] at g0 g2
  have d0 := d 0 (by decide)
  have d1 := d 1 (by decide)
  have d2 := d 2 (by decide)
  have d3 := d 3 (by decide)
  have d4 := d 4 (by decide)
  have e0 : nb_pt 0 f i 0 = f (6 * i + 0) - 48 := rfl
  have e1 : nb_pt 0 f i 1 = 10 * (f (6 * i + 1) - 48) + (f (6 * i + 2) - 48) := rfl
  have e2 : nb_pt 0 f i 2 = 10 * (f (6 * i + 3) - 48) + (f (6 * i + 4) - 48) := rfl
  have e3 : nb_d f (6 * i + 1) = f (6 * i + 1) - 48 := rfl
  rw [e0, e1, e2]
  refine ⟨⟨?_, ?_⟩, ⟨?_, ?_⟩, ?_⟩ <;> omega
theorem nb_ptB1 {f : Nat → Nat} {n i : Nat} (h : i < nb_en 1 f n) : (1 ≤ nb_pt 1 f i 0 ∧ nb_pt 1 f i 0 ≤ 99) ∧ nb_pt 1 f i 1 ≤ 99 ∧ nb_pt 1 f i 2 ≤ 9 := by
  obtain ⟨h6, hg⟩ := nb_enW h
  have d : ∀ p, p < 5 → 48 ≤ f (6 * i + p) ∧ f (6 * i + p) ≤ 57 := fun p hp => nb_goodD (hg _ (by omega)) (by omega)
  have g1 := hg (6 * i + 1) (by omega)
  rw [nb_gd11 (d 1 (by decide)).1 (d 1 (by decide)).2] at g1
  simp only [Bool.not_eq_true', decide_eq_false_iff_not] at g1
  have d0 := d 0 (by decide)
  have d1 := d 1 (by decide)
  have d2 := d 2 (by decide)
  have d3 := d 3 (by decide)
  have d4 := d 4 (by decide)
  have e0 : nb_pt 1 f i 0 = 10 * (f (6 * i + 0) - 48) + (f (6 * i + 1) - 48) := rfl
  have e1 : nb_pt 1 f i 1 = 10 * (f (6 * i + 2) - 48) + (f (6 * i + 3) - 48) := rfl
  have e2 : nb_pt 1 f i 2 = f (6 * i + 4) - 48 := rfl
  have e3 : nb_d f (6 * i + 0) = f (6 * i + 0) - 48 := rfl
  rw [e0, e1, e2]
  refine ⟨⟨?_, ?_⟩, ?_, ?_⟩ <;> omega
theorem nb_VSB {S : nb_S} (hO : nb_OK S) : nb_VB (nb_VS S) := by
  refine ⟨by have := nb_en0 S hO; show nb_en 0 _ _ ≤ 7; omega, fun i hi => ?_, by have := hO.2.1; show S.1 2 ≤ 1000; omega, ⟨by have := hO.2.2.2.1.1; show S.1 4 ≤ 9; omega, fun i hi => ?_⟩, by have := hO.2.2.1.1; show S.1 3 ≤ 13; omega, fun i hi => ?_⟩
  · have := nb_ptB0 (show i < nb_en 0 (S.2.1 0) (S.1 0) from hi)
    show nb_pt 0 (S.2.1 0) i 0 ≤ 9 ∧ 1 ≤ nb_pt 0 (S.2.1 0) i 1 ∧ nb_pt 0 (S.2.1 0) i 1 ≤ 1000 ∧ nb_pt 0 (S.2.1 0) i 2 ≤ 1000
    omega
  · have := hO.2.2.2.1.2 i hi
    show S.2.1 4 i ≤ 1000
    omega
  · have := hO.2.2.1.2 i hi
    show 1 ≤ S.2.1 2 i ∧ S.2.1 2 i ≤ 1000 ∧ S.2.1 3 i ≤ 1000
    omega
/-- behind laysTold -/
def nb_TD (S : nb_S) (s : nw_ST) : Prop := nb_RD S s ∧ nb_LV (nb_VS S) s ∧ nb_LW (nb_VS S) s ∧ nw_gS s 37 24 = nI (S.1 5)
theorem nb_RD.ch {S : nb_S} {σ s : nw_ST} {LS : List (Nat × Nat)} {L : List Nat} (h : nb_RD S σ) (hc : nb_Ch LS L σ s) (h1 : ∀ x ∈ nb_rS, x ∉ LS) (h2 : ∀ x ∈ nb_rA, x ∉ L) : nb_RD S s :=
  ⟨h.1.ch hc (h1 _ (by decide)) (by intro w hw; rcases (show w = 0 ∨ w = 1 ∨ w = 2 by omega) with rfl | rfl | rfl <;> exact h2 _ (by decide)), h.2.ch hc (h1 _ (by decide)) (by intro w hw; rcases (show w = 0 ∨ w = 1 ∨ w = 2 by omega) with rfl | rfl | rfl <;> exact h2 _ (by decide))⟩
theorem nb_asTold {K : nw_ST → Prop} {S : nb_S} {σ : nw_ST} (hM : nb_MP S σ) (hR : nb_RD S σ) (hk : ∀ s, nb_MP S s → nb_Ch [(37, 22), (37, 23), (37, 24)] [] σ s → nb_RD S s → nb_LV (nb_VS S) s → nw_gS s 37 24 = nI (S.1 5) → K s) : f5_asTold K σ := by
  unfold f5_asTold
  have hc : nb_Ch [(37, 22), (37, 23), (37, 24)] [] σ (nw_sS (nw_sS (nw_sS σ 37 22 (nw_gS σ 37 11)) 37 23 (nw_gS (nw_sS σ 37 22 (nw_gS σ 37 11)) 37 14)) 37 24 (nw_gS (nw_sS (nw_sS σ 37 22 (nw_gS σ 37 11)) 37 23 (nw_gS (nw_sS σ 37 22 (nw_gS σ 37 11)) 37 14)) 37 16)) := ((nb_Ch.rf.sS _ (by decide)).sS _ (by decide)).sS _ (by decide)
  have hM2 := hM.ch hc (by decide +kernel) (by decide +kernel)
  have hR2 := hR.ch hc (by decide +kernel) (by decide +kernel)
  obtain ⟨-, b, ⟨c1, c2⟩, ⟨d1, d2⟩, ⟨e1, e2⟩, -⟩ := hM
  refine hk _ hM2 hc hR2 ⟨⟨hR2.1.1, fun i hi => ⟨hR2.1.2 i hi 0 (by decide), hR2.1.2 i hi 1 (by decide), hR2.1.2 i hi 2 (by decide)⟩⟩, ?_, ⟨?_, d2⟩, ?_, c2⟩ ?_
  · simp only [nb_gSsS]; exact b
  · simp [nb_gSsS]; exact d1
  · simp [nb_gSsS]; exact c1
  · simp [nb_gSsS]; exact e1
theorem nb_laysTold {K : nw_ST → Prop} {S : nb_S} {σ : nw_ST} (hO : nb_OK S) (hM : nb_MP S σ) (hk : ∀ s, nb_MP S s → nb_Ch nb_mS nb_mA σ s → nb_TD S s → K s) : f5_laysTold K σ := by
  unfold f5_laysTold
  refine nb_reads hO hM (fun s1 m1 c1 r1 => ?_)
  refine nb_asTold m1 r1 (fun s2 m2 c2 r2 l2 t2 => ?_)
  refine nb_lays (nb_VSB hO) l2 (fun s3 c3 w3 => ?_)
  refine hk s3 (m2.ch c3 (by decide +kernel) (by decide +kernel)) ?_ ⟨r2.ch c3 (by decide +kernel) (by decide +kernel), l2.ch c3 (by decide +kernel) (by decide +kernel), w3, (c3.1 37 24 (by decide)).trans t2⟩
  exact ((nb_rCh c1).tr (c2.up (by decide +kernel) (by decide +kernel))).tr (c3.up (by decide +kernel) (by decide +kernel))
