/-! ===== copy ===== -/
theorem nb_cmp {i n z : Int32} : (0 < lg_cmp (i.toInt64 + n.toInt64) z.toInt64) ↔ z.toInt < i.toInt + n.toInt := by
  have hi := Int32.le_toInt i
  have hi2 := Int32.toInt_lt i
  have hn := Int32.le_toInt n
  have hn2 := Int32.toInt_lt n
  have e : (i.toInt64 + n.toInt64).toInt = i.toInt + n.toInt := by
    rw [Int64.toInt_add, Int32.toInt_toInt64, Int32.toInt_toInt64]
    exact Int.bmod_eq_of_le (by omega) (by omega)
  have key : z.toInt64 < i.toInt64 + n.toInt64 ↔ z.toInt < i.toInt + n.toInt := by
    rw [Int64.lt_iff_toInt_lt, e, Int32.toInt_toInt64]
  rw [← key]
  unfold lg_cmp
  by_cases h : z.toInt64 < i.toInt64 + n.toInt64
  · rw [if_pos h]; simp only [h, iff_true]; decide
  · rw [if_neg h]; simp only [h, iff_false]; split <;> decide
theorem nb_cmp2 {i n z : Int32} : (lg_cmp (i.toInt64 + n.toInt64) z.toInt64 ≤ 0) ↔ ¬ z.toInt < i.toInt + n.toInt := by
  rw [← nb_cmp, Int32.not_lt]
/-- a range of a sheet -/
def nb_R (i n : Int32) (z : Nat) : Prop := 0 ≤ i.toInt ∧ 0 ≤ n.toInt ∧ i.toInt + n.toInt ≤ z
theorem nb_hasR {σ : nw_ST} {q z : Nat} (hz : z ≤ 48) (hs : nw_gS σ q 2 = nI z) (i n : Int32) : v1_hasRange σ q i n = 0 ↔ ¬ nb_R i n z := by
  unfold v1_hasRange nb_R
  rw [hs]
  have t0 : (0 : Int32).toInt = 0 := rfl
  have tz : (nI z).toInt = z := nI_toInt (by omega)
  by_cases h1 : i < 0
  · rw [if_pos h1]; rw [nb_lt_iff, t0] at h1; simp only [true_iff]; omega
  rw [if_neg h1]; rw [nb_lt_iff, t0] at h1
  by_cases h2 : n < 0
  · rw [if_pos h2]; rw [nb_lt_iff, t0] at h2; simp only [true_iff]; omega
  rw [if_neg h2]; rw [nb_lt_iff, t0] at h2
  by_cases h3 : nI z < i
  · rw [if_pos h3]; rw [nb_lt_iff, tz] at h3; simp only [true_iff]; omega
  rw [if_neg h3]; rw [nb_lt_iff, tz] at h3
  have e : (nI z - i).toInt = z - i.toInt := by
    rw [Int32.toInt_sub, tz]
    exact Int.bmod_eq_of_le (by omega) (by omega)
  by_cases h4 : nI z - i < n
  · rw [if_pos h4]; rw [nb_lt_iff, e] at h4; simp only [true_iff]; omega
  rw [if_neg h4]; rw [nb_lt_iff, e] at h4
  have : ¬ (1 : Int32) = 0 := by decide
  simp only [this, false_iff]; omega
theorem nb_Rn {i n : Int32} {z : Nat} (h : nb_R i n z) (hz : z ≤ 48) : ∃ a b : Nat, i = nI a ∧ n = nI b ∧ a + b ≤ z := by
  obtain ⟨h1, h2, h3⟩ := h
  refine ⟨i.toInt.toNat, n.toInt.toNat, ?_, ?_, by omega⟩
  · apply Int32.toInt_inj.mp; rw [nI_toInt (by omega)]; omega
  · apply Int32.toInt_inj.mp; rw [nI_toInt (by omega)]; omega
def nb_cpS (S : nb_S) (j i t x n : Nat) : nb_S := nb_setI S t (fun y => if x ≤ y ∧ y < x + n then S.2.2 j (i + (y - x)) else S.2.2 t y)
theorem nb_cpSC {S : nb_S} {j i t x n : Nat} : nb_SC [8 + t, 12 + t, 16 + t] [] [t] S (nb_cpS S j i t x n) := nb_SC.rf.sI _ (by simp)
theorem nb_cpE {S : nb_S} {j i t x n y : Nat} : (nb_cpS S j i t x n).2.2 t y = if x ≤ y ∧ y < x + n then S.2.2 j (i + (y - x)) else S.2.2 t y := by
  show (if t = t then _ else S.2.2 t) y = _
  rw [if_pos rfl]
theorem nb_copy5 {S : nb_S} {σ : nw_ST} {K : Int32 → nw_ST → Prop} {j i t x n : Nat} (hM : nb_MP S σ) (hj : j < 4) (ht : t < 4) (h1 : i + n ≤ 48) (h2 : x + n ≤ 48) (hk : ∀ s, nb_MP (nb_cpS S j i t x n) s → nb_Ch nb_mS nb_mA σ s → K 1 s) : ∃ m, f5_copy_120 K m σ (nI j) (nI i) (nI t) (nI x) (nI n) (nI 0) := by
  have hmj := hM.sh hj
  have hmt := hM.sh ht
  refine pk_loop (fun m k u => f5_copy_120 K m u (nI j) (nI i) (nI t) (nI x) (nI n) (nI k)) (fun k u => nb_Ch [] [62] σ u ∧ ∀ y, y < k → nw_gA u 62 y = S.2.2 j (i + y)) n 0 σ (Nat.zero_le _) ⟨nb_Ch.rf, fun y hy => absurd hy (Nat.not_lt_zero y)⟩ ?_ ?_
  · intro m u hu
    show b5_copy_120 K _ u (nI j) (nI i) (nI t) (nI x) (nI n) (nI n)
    unfold b5_copy_120
    refine ⟨fun _ => ?_, fun w => absurd (nI_le (Nat.le_refl _) (by omega)) w⟩
    refine pk_loop (fun m k w => f5_copy_157 K m w (nI t) (nI x) (nI n) (nI k)) (fun k w => nb_Ch [] [61, 62] σ w ∧ (∀ y, y < n → nw_gA w 62 y = S.2.2 j (i + y)) ∧ ∀ y, nw_gA w 61 y = if 48 * t + x ≤ y ∧ y < 48 * t + x + k then S.2.2 j (i + (y - (48 * t + x))) else nw_gA σ 61 y) n 0 u (Nat.zero_le _) ⟨hu.1.up (by simp) (by simp), hu.2, fun y => by rw [if_neg (by omega)]; exact (hu.1.2 61 (by decide)).1 y⟩ ?_ ?_
    · intro m w hw
      show b5_copy_157 K _ w (nI t) (nI x) (nI n) (nI n)
      unfold b5_copy_157
      refine ⟨fun _ => hk w ?_ (hw.1.up (by decide +kernel) (by decide +kernel)), fun w => absurd (nI_le (Nat.le_refl _) (by omega)) w⟩
      have e58 := (hw.1.2 58 (by decide)).1
      have e59 := (hw.1.2 59 (by decide)).1
      have e60 := (hw.1.2 60 (by decide)).1
      refine hM.shU ht (hw.1.up (by simp) (by simp)) nb_cpSC (fun k hk hkt => ⟨e58 k, e59 k, e60 k, fun y hy => ?_⟩) ⟨(e58 t).trans hmt.1, (e59 t).trans hmt.2.1, (e60 t).trans hmt.2.2.1, fun y hy => ?_⟩
      · rw [hw.2.2, if_neg]
        rcases Nat.lt_or_gt_of_ne hkt with h | h
        · have : 48 * k + 48 ≤ 48 * t := by omega
          omega
        · have : 48 * t + 48 ≤ 48 * k := by omega
          omega
      · rw [hw.2.2, nb_cpE]
        by_cases e : x ≤ y ∧ y < x + n
        · rw [if_pos (by omega), if_pos e, show i + (48 * t + y - (48 * t + x)) = i + (y - x) by omega]
        · rw [if_neg (by omega), if_neg e]; exact hmt.2.2.2 y hy
    · intro m k w hkn hw ih
      show b5_copy_157 K _ w (nI t) (nI x) (nI n) (nI k)
      unfold b5_copy_157
      have ex : (((48 : Int32) * nI t) + nI x) + nI k = nI (48 * t + x + k) := by rw [show (48 : Int32) = nI 48 from rfl, pk_mul, nI_add, nI_add]
      rw [ex, nI_clamp (show 48 * t + x + k < 2 ^ 31 by omega), nI_clamp (show k < 2 ^ 31 by omega), nI_1]
      refine ⟨fun z => absurd z (nI_ge hkn (by omega)), fun _ => ⟨vp_in_nI (by omega) (by decide), vp_in_nI (by omega) (by decide), ih _ ⟨hw.1.sA _ _ (by simp), fun y hy => ?_, fun y => ?_⟩⟩⟩
      · rw [nb_gAsA, if_neg (by decide)]; exact hw.2.1 y hy
      · rw [nb_gAsA, if_pos rfl]
        by_cases e : y = 48 * t + x + k
        · rw [if_pos e, if_pos (by omega), hw.2.1 k hkn, show y - (48 * t + x) = k by omega]
        · rw [if_neg e, hw.2.2]
          by_cases e2 : 48 * t + x ≤ y ∧ y < 48 * t + x + k
          · rw [if_pos e2, if_pos (by omega)]
          · rw [if_neg e2, if_neg (by omega)]
  · intro m k u hkn hu ih
    show b5_copy_120 K _ u (nI j) (nI i) (nI t) (nI x) (nI n) (nI k)
    unfold b5_copy_120
    have ex : (((48 : Int32) * nI j) + nI i) + nI k = nI (48 * j + (i + k)) := by rw [show (48 : Int32) = nI 48 from rfl, pk_mul, nI_add, nI_add, Nat.add_assoc]
    rw [ex, nI_clamp (show 48 * j + (i + k) < 2 ^ 31 by omega), nI_clamp (show k < 2 ^ 31 by omega), nI_1]
    refine ⟨fun z => absurd z (nI_ge hkn (by omega)), fun _ => ⟨vp_in_nI (by omega) (by decide), vp_in_nI (by omega) (by decide), ih _ ⟨hu.1.sA _ _ (by simp), fun y hy => ?_⟩⟩⟩
    rw [nb_gAsA, if_pos rfl]
    by_cases e : y = k
    · rw [if_pos e, (hu.1.2 61 (by decide)).1, hmj.2.2.2 _ (by omega), e]
    · rw [if_neg e]; exact hu.2 y (by omega)
theorem nb_step34 : nl_S34 nb_Inv := by
  intro σ hI a1 a2 a3 a4 a5
  obtain ⟨S, hO, hC, hM⟩ := hI
  have hInv : nb_Inv σ := ⟨S, hO, hC, hM⟩
  unfold f4_copy f4_copy_16 f4_copy_51 f4_copy_99 f4_finding
  by_cases z1 : v5_in a1 0 3 = 0
  · refine ⟨fun _ => ?_, fun w => absurd ((nb_below 3 (by decide)).mpr z1) w⟩
    unfold f5_copy f5_copy_14; rw [nb_isSheet]; exact ⟨fun _ => ⟨rfl, hInv⟩, fun w => absurd z1 w⟩
  refine ⟨fun w => absurd ((nb_below 3 (by decide)).mp w) z1, fun _ => ?_⟩
  by_cases z2 : v5_in a3 0 3 = 0
  · refine ⟨fun _ => ?_, fun w => absurd ((nb_below 3 (by decide)).mpr z2) w⟩
    unfold f5_copy f5_copy_14; rw [nb_isSheet, nb_isSheet]; exact ⟨fun w => absurd w z1, fun _ => ⟨fun _ => ⟨rfl, hInv⟩, fun w => absurd z2 w⟩⟩
  refine ⟨fun w => absurd ((nb_below 3 (by decide)).mp w) z2, fun _ => ?_⟩
  obtain ⟨j, -, hj, rfl⟩ := nb_in 0 3 (by decide) (by decide) z1
  obtain ⟨t, -, ht, rfl⟩ := nb_in 0 3 (by decide) (by decide) z2
  have hj4 : j < 4 := by omega
  have ht4 : t < 4 := by omega
  have hsj := hC.1.sh hj4
  have hst := hC.1.sh ht4
  have bj := hO.2.2.2.2.2.2.2 j hj4
  have bt := hO.2.2.2.2.2.2.2 t ht4
  have qj := nb_q28 hj4
  have qt := nb_q28 ht4
  rw [nI_clamp (show j < 2 ^ 31 by omega), nI_clamp (show t < 2 ^ 31 by omega), hsj.1, hst.1, hsj.2.1, hst.2.1, qj.1, qt.1, qj.2, qt.2, nb_hasR bj.2.2 hsj.2.2.1, nb_hasR bt.2.2 hst.2.2.1]
  have lj := nb_lost hO hj4
  have lt := nb_lost hO ht4
  have t0 : (0 : Int32).toInt = 0 := rfl
  have find : ∀ (v : Nat), v ≤ 5 → ((S.1 (8 + j) = 1 ∨ S.1 (8 + t) = 1) ∧ v = 1 ∨ (S.1 (8 + j) = 0 ∧ S.1 (8 + t) = 0 ∧ ¬ S.1 (12 + j) = S.1 (12 + t) ∧ v = 4) ∨ (S.1 (8 + j) = 0 ∧ S.1 (8 + t) = 0 ∧ S.1 (12 + j) = S.1 (12 + t) ∧ ¬ (nb_R a2 a5 (S.1 (16 + j)) ∧ nb_R a4 a5 (S.1 (16 + t))) ∧ v = 2)) → f5_copy (fun (r2 : Int32) (s2 : nw_ST) => (-10 : Int32) - nI v = r2 ∧ nb_Inv s2) (nw_sS σ 0 11 (nI v)) (nI j) a2 (nI t) a4 a5 := by
    intro v hv hc
    have hM2 := nb_fdCo hM (nI v)
    have mj := hM2.sh hj4
    have mt := hM2.sh ht4
    have hfin : ∀ u, u = v → (-10 : Int32) - nI v = -10 - nI u ∧ nb_Inv (nw_sS (nw_sS σ 0 11 (nI v)) 37 37 (nI u)) := fun u e => by subst e; exact ⟨rfl, nb_fdI hO hC hM u hv⟩
    unfold f5_copy f5_copy_14 f5_copy_35 f5_copy_111 f5_meets
    rw [nb_isSheet, nb_isSheet, nI_clamp (show j < 2 ^ 31 by omega), nI_clamp (show t < 2 ^ 31 by omega), mj.1, mt.1, mj.2.1, mt.2.1, mj.2.2.1, mt.2.2.1, nb_cmp, nb_cmp2, nI_toInt (show S.1 (16 + j) < 2 ^ 31 by omega), nI_toInt (show S.1 (16 + t) < 2 ^ 31 by omega), nb_eq0 (show 1 - S.1 (8 + j) < 2 ^ 31 by omega), nb_eq0 (show 1 - S.1 (8 + t) < 2 ^ 31 by omega), nI_eq (show S.1 (12 + j) < 2 ^ 31 by omega) (show S.1 (12 + t) < 2 ^ 31 by omega), nb_lt_iff, nb_lt_iff, nb_lt_iff, t0]
    unfold nb_R at hc
    refine ⟨fun w => absurd w z1, fun _ => ⟨fun w => absurd w z2, fun _ => ⟨nb_in4 hj4, fun w => hfin 1 (by omega), fun w => ⟨nb_in4 ht4, fun w2 => hfin 1 (by omega), fun w2 => ⟨nb_in4 hj4, nb_in4 ht4, fun w3 => ⟨fun w4 => hfin 2 (by omega), fun w4 => ⟨fun w5 => hfin 2 (by omega), fun w5 => ⟨fun w6 => hfin 2 (by omega), fun w6 => ⟨nb_in4 hj4, fun w7 => hfin 2 (by omega), fun w7 => ⟨nb_in4 ht4, fun w8 => ?_, fun w8 => hfin 2 (by omega)⟩⟩⟩⟩⟩, fun w3 => hfin 4 (by omega)⟩⟩⟩⟩⟩
    exfalso; omega
  refine ⟨nb_in4 hj4, nb_in4 ht4, fun w1 => ⟨fun w2 => ⟨fun w3 => ⟨fun w4 => ?_, fun w4 => ⟨fun w5 => ?_, fun w5 => ?_⟩⟩, fun w3 => ?_⟩, fun w2 => ?_⟩, fun w1 => ?_⟩
  · exact find 2 (by decide) (Or.inr (Or.inr ⟨(nb_eq0 (by omega)).mp w1, (nb_eq0 (by omega)).mp w2, (nI_eq (by omega) (by omega)).mp w3, fun h => w4 h.1, rfl⟩))
  · exact find 2 (by decide) (Or.inr (Or.inr ⟨(nb_eq0 (by omega)).mp w1, (nb_eq0 (by omega)).mp w2, (nI_eq (by omega) (by omega)).mp w3, fun h => w5 h.2, rfl⟩))
  · have r1 := Classical.not_not.mp w4
    have r2 := Classical.not_not.mp w5
    have r1' := r1
    have r2' := r2
    obtain ⟨i, n, rfl, rfl, hin⟩ := nb_Rn r1 bj.2.2
    obtain ⟨x, n2, rfl, en, hxn⟩ := nb_Rn r2 bt.2.2
    have en := (nI_eq (by omega) (by omega)).mp en
    subst en
    rw [nI_clamp (show i < 2 ^ 31 by omega), nI_clamp (show x < 2 ^ 31 by omega), nI_clamp (show n < 2 ^ 31 by omega)]
    refine ⟨nI_pos (by omega), nI_pos (by omega), nI_pos (by omega), by omega, by omega, ?_⟩
    have hch : nb_Ch [(27 + 2 * t, 1), (27 + 2 * t, 2), (27 + 2 * t, 3)] [28 + 2 * t] σ (nw_sC σ (28 + 2 * j) (28 + 2 * t) i x n) := nb_Ch.rf.sC _ _ _ _ (by simp)
    have hC2 : nb_C (nb_cpS S j i t x n) (nw_sC σ (28 + 2 * j) (28 + 2 * t) i x n) := by
      refine hC.shU ht4 hch nb_cpSC ⟨hst.1, hst.2.1, hst.2.2.1, fun y hy => ?_⟩
      rw [nb_gAsC, if_pos rfl, nb_cpE]
      by_cases e : x ≤ y ∧ y < x + n
      · rw [if_pos e, if_pos e]; exact hsj.2.2.2 _ (by omega)
      · rw [if_neg e, if_neg e]; exact hst.2.2.2 _ hy
    have hM2 : nb_MP S (nw_sC σ (28 + 2 * j) (28 + 2 * t) i x n) := hM.other (nb_Ch.rf.sC _ _ _ _ (nb_cA28 ht4))
    generalize nw_sC σ (28 + 2 * j) (28 + 2 * t) i x n = s at *
    show f5_copy _ s (nI j) (nI i) (nI t) (nI x) (nI n)
    have mj := hM2.sh hj4
    have mt := hM2.sh ht4
    have w1 := (nb_eq0 (by omega)).mp w1
    have w2 := (nb_eq0 (by omega)).mp w2
    unfold f5_copy f5_copy_14 f5_copy_35 f5_copy_111 f5_meets
    rw [nb_isSheet, nb_isSheet, nI_clamp (show j < 2 ^ 31 by omega), nI_clamp (show t < 2 ^ 31 by omega), mj.1, mt.1, mj.2.1, mt.2.1, mj.2.2.1, mt.2.2.1, nb_cmp, nb_cmp2, nI_toInt (show S.1 (16 + j) < 2 ^ 31 by omega), nI_toInt (show S.1 (16 + t) < 2 ^ 31 by omega), nb_eq0 (show 1 - S.1 (8 + j) < 2 ^ 31 by omega), nb_eq0 (show 1 - S.1 (8 + t) < 2 ^ 31 by omega), nI_toInt (show i < 2 ^ 31 by omega), nI_toInt (show x < 2 ^ 31 by omega), nI_toInt (show n < 2 ^ 31 by omega)]
    refine ⟨fun w => absurd w z1, fun _ => ⟨fun w => absurd w z2, fun _ => ⟨nb_in4 hj4, fun w => absurd w (by omega), fun w => ⟨nb_in4 ht4, fun w2 => absurd w2 (by omega), fun w2 => ⟨nb_in4 hj4, nb_in4 ht4, fun _ => ⟨fun w4 => absurd w4 (nI_pos (by omega)), fun w4 => ⟨fun w5 => absurd w5 (nI_pos (by omega)), fun w5 => ⟨fun w6 => absurd w6 (nI_pos (by omega)), fun w6 => ⟨nb_in4 hj4, fun w7 => absurd w7 (by omega), fun w7 => ⟨nb_in4 ht4, fun w8 => ?_, fun w8 => absurd (by omega) w8⟩⟩⟩⟩⟩, fun w => absurd w3 w⟩⟩⟩⟩⟩
    exact nb_copy5 hM2 hj4 ht4 (by omega) (by omega) (fun u hu hchu => ⟨rfl, nb_cpS S j i t x n, hO, hC2.other hchu, hu⟩)
  · exact find 4 (by decide) (Or.inr (Or.inl ⟨(nb_eq0 (by omega)).mp w1, (nb_eq0 (by omega)).mp w2, fun h => w3 (by rw [h]), rfl⟩))
  · exact find 1 (by decide) (Or.inl ⟨Or.inr (by rcases lt with h | h; exact absurd (by rw [h]; rfl) w2; exact h), rfl⟩)
  · exact find 1 (by decide) (Or.inl ⟨Or.inl (by rcases lj with h | h; exact absurd (by rw [h]; rfl) w1; exact h), rfl⟩)
