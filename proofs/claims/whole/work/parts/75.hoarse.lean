/-! ===== hoarse: numbers ===== -/
/-- ways by which w waves end by number x, in sixteenths to the w -/
def nb_wy (c : Nat) : Nat → Nat → Nat
  | 0, x => if x = 0 then 1 else 0
  | w + 1, x => (16 - c) * (if x < 1 then 0 else nb_wy c w (x - 1)) + c * (if x < 2 then 0 else nb_wy c w (x - 2))
theorem nb_wyS (c w x : Nat) : nb_wy c (w + 1) x = (16 - c) * (if x < 1 then 0 else nb_wy c w (x - 1)) + c * (if x < 2 then 0 else nb_wy c w (x - 2)) := rfl
theorem nb_wy_le {c : Nat} (hc : c ≤ 16) (w x : Nat) : nb_wy c w x ≤ 16 ^ w := by
  induction w generalizing x with
  | zero => show (if x = 0 then 1 else 0) ≤ 1; split <;> omega
  | succ w ih =>
    rw [nb_wyS]
    have a : (if x < 1 then 0 else nb_wy c w (x - 1)) ≤ 16 ^ w := by
      by_cases h : x < 1
      · rw [if_pos h]; exact Nat.zero_le _
      · rw [if_neg h]; exact ih _
    have b : (if x < 2 then 0 else nb_wy c w (x - 2)) ≤ 16 ^ w := by
      by_cases h : x < 2
      · rw [if_pos h]; exact Nat.zero_le _
      · rw [if_neg h]; exact ih _
    have a2 := Nat.mul_le_mul_left (16 - c) a
    have b2 := Nat.mul_le_mul_left c b
    have e : (16 - c) * 16 ^ w + c * 16 ^ w = 16 ^ (w + 1) := by
      rw [← Nat.add_mul, show 16 - c + c = 16 by omega, Nat.pow_succ, Nat.mul_comm]
    omega
theorem nb_wy0 {c w x : Nat} (h : x < w) : nb_wy c w x = 0 := by
  induction w generalizing x with
  | zero => omega
  | succ w ih =>
    rw [nb_wyS]
    have a : (if x < 1 then 0 else nb_wy c w (x - 1)) = 0 := by
      by_cases q : x < 1
      · rw [if_pos q]
      · rw [if_neg q]; exact ih (by omega)
    have b : (if x < 2 then 0 else nb_wy c w (x - 2)) = 0 := by
      by_cases q : x < 2
      · rw [if_pos q]
      · rw [if_neg q]; exact ih (by omega)
    rw [a, b, Nat.mul_zero, Nat.mul_zero]
def nb_ab (c n : Nat) : Nat → Nat
  | 0 => 0
  | j + 1 => nb_ab c n j * 16 + nb_wy c (j + 1) n
theorem nb_abS (c n j : Nat) : nb_ab c n (j + 1) = nb_ab c n j * 16 + nb_wy c (j + 1) n := rfl
def nb_sm (c n w : Nat) : Nat := nb_sum (fun v => nb_wy c (v + 1) n * 16 ^ (11 - v)) w
theorem nb_smS (c n w : Nat) : nb_sm c n (w + 1) = nb_sm c n w + nb_wy c (w + 1) n * 16 ^ (11 - w) := rfl
theorem nb_sm_ab {c n w : Nat} (h : w ≤ 12) : nb_sm c n w = nb_ab c n w * 16 ^ (12 - w) := by
  induction w with
  | zero => show 0 = 0 * _; rw [Nat.zero_mul]
  | succ w ih =>
    rw [nb_smS, nb_abS, ih (by omega), show 12 - w = (11 - w) + 1 by omega, show 12 - (w + 1) = 11 - w by omega, Nat.pow_succ, Nat.add_mul]
    congr 1
    rw [Nat.mul_comm (16 ^ (11 - w)) 16, Nat.mul_assoc]
theorem nb_sm_le {c n w : Nat} (hc : c ≤ 16) (h : w ≤ 12) : nb_sm c n w ≤ 12 * 16 ^ 12 := by
  have := nb_sum_le (f := fun v => nb_wy c (v + 1) n * 16 ^ (11 - v)) (n := w) (B := 16 ^ 12) (fun v hv => by
    have a := Nat.mul_le_mul_right (16 ^ (11 - v)) (nb_wy_le hc (v + 1) n)
    rw [← Nat.pow_add, show v + 1 + (11 - v) = 12 by omega] at a
    exact a)
  have b := Nat.mul_le_mul_right (16 ^ 12) h
  exact Nat.le_trans this b
/-- behind so many waves as the number says it is called or passed -/
theorem nb_sm_end {c n W : Nat} (h : n ≤ W) : nb_sm c n W = nb_sm c n n := by
  induction W with
  | zero => rw [show n = 0 by omega]
  | succ W ih =>
    by_cases e : n = W + 1
    · rw [e]
    · rw [nb_smS, ih (by omega), nb_wy0 (show n < W + 1 by omega), Nat.zero_mul, Nat.add_zero]
theorem nb_ab_le {c n w : Nat} (hc : c ≤ 16) (h : w ≤ 12) : nb_ab c n w ≤ 12 * 16 ^ 12 := by
  have a := nb_sm_le (n := n) hc h
  rw [nb_sm_ab h] at a
  have b : 1 ≤ 16 ^ (12 - w) := Nat.pow_pos (by decide)
  have d := Nat.mul_le_mul_left (nb_ab c n w) b
  rw [Nat.mul_one] at d
  omega
theorem nb_odd {a : Nat} (h : a % 2 = 1) (m : Nat) : Nat.Coprime a (2 ^ m) := by
  apply Nat.Coprime.pow_right
  show Nat.gcd a 2 = 1
  rw [Nat.gcd_comm, Nat.gcd_rec, h]
  decide
/-- where the shared twos end, they are all that is shared -/
theorem nb_twos {a i m : Nat} (h1 : 2 ^ i ∣ a) (h2 : 2 ^ i ∣ 2 ^ m) (h3 : ¬ (a / 2 ^ i % 2 = 0 ∧ 2 ^ m / 2 ^ i % 2 = 0)) : Nat.gcd a (2 ^ m) = 2 ^ i := by
  have hp : 0 < 2 ^ i := Nat.pow_pos (by decide)
  obtain ⟨x, ex⟩ := h1
  obtain ⟨y, ey⟩ := h2
  have e1 : a / 2 ^ i = x := by rw [ex, Nat.mul_div_cancel_left _ hp]
  have e2 : 2 ^ m / 2 ^ i = y := by rw [ey, Nat.mul_div_cancel_left _ hp]
  rw [e1, e2] at h3
  have hy : y ∣ 2 ^ m := ⟨2 ^ i, by rw [Nat.mul_comm]; exact ey⟩
  have hc : Nat.gcd x y = 1 := by
    by_cases q : x % 2 = 0
    · have : y % 2 = 1 := by
        rcases Nat.mod_two_eq_zero_or_one y with w | w
        · exact absurd ⟨q, w⟩ h3
        · exact w
      have := (nb_odd this m).eq_one_of_dvd hy
      rw [this, Nat.gcd_one_right]
    · have : x % 2 = 1 := by omega
      exact (nb_odd this m).coprime_dvd_right hy
  rw [ex, ey, Nat.gcd_mul_left, hc, Nat.mul_one]
theorem nb_dvd2 {a i : Nat} (h1 : 2 ^ i ∣ a) (h2 : a / 2 ^ i % 2 = 0) : 2 ^ (i + 1) ∣ a := by
  have hp : 0 < 2 ^ i := Nat.pow_pos (by decide)
  obtain ⟨x, ex⟩ := h1
  rw [ex, Nat.mul_div_cancel_left _ hp] at h2
  refine ⟨x / 2, ?_⟩
  rw [Nat.pow_succ, Nat.mul_assoc, show 2 * (x / 2) = x by omega]
  exact ex
theorem nb_orbit {a b i : Nat} : (a ||| b) / 2 ^ i % 2 = 0 ↔ a / 2 ^ i % 2 = 0 ∧ b / 2 ^ i % 2 = 0 := by
  have h := Nat.testBit_or a b i
  rw [Nat.testBit_eq_decide_div_mod_eq, Nat.testBit_eq_decide_div_mod_eq, Nat.testBit_eq_decide_div_mod_eq] at h
  have x := Nat.mod_two_eq_zero_or_one (a / 2 ^ i)
  have y := Nat.mod_two_eq_zero_or_one (b / 2 ^ i)
  have z := Nat.mod_two_eq_zero_or_one ((a ||| b) / 2 ^ i)
  rcases x with x | x <;> rcases y with y | y <;> rcases z with z | z <;> simp [x, y, z] at h ⊢
/-! longs -/
theorem nb_lk64 : ∀ k, k < 64 → ((((nI k).toInt64 &&& 63) : Int64).toBitVec.smod 64).toNat = k := by decide +kernel
theorem nb_lshr {a k : Nat} (h : a < 2 ^ 62) (hk : k < 64) : nw_lshr (lN a) (nI k) = lN (a / 2 ^ k) := by
  unfold nw_lshr
  have hd : a / 2 ^ k ≤ a := Nat.div_le_self _ _
  apply Int64.toInt_inj.mp
  have e : (lN a >>> ((nI k).toInt64 &&& 63)).toInt = (lN a).toInt >>> k := by
    have := nb_lk64 k hk
    generalize (nI k).toInt64 &&& 63 = D at this ⊢
    rw [← this]
    exact BitVec.toInt_sshiftRight ..
  rw [e, Int.shiftRight_eq_div_pow, pk_lT (by omega), pk_lT (by omega)]
  rfl
theorem nb_linj {a b : Int64} (h : a.toBitVec = b.toBitVec) : a = b := Int64.toBitVec_inj.mp h
theorem nb_lor {a b : Nat} (ha : a < 2 ^ 64) (hb : b < 2 ^ 64) : lN a ||| lN b = lN (a ||| b) := by
  apply nb_linj
  rw [Int64.toBitVec_or]
  show BitVec.ofNat 64 a ||| BitVec.ofNat 64 b = BitVec.ofNat 64 (a ||| b)
  apply BitVec.eq_of_toNat_eq
  rw [BitVec.toNat_or, BitVec.toNat_ofNat, BitVec.toNat_ofNat, BitVec.toNat_ofNat, Nat.mod_eq_of_lt ha, Nat.mod_eq_of_lt hb, Nat.mod_eq_of_lt (Nat.or_lt_two_pow ha hb)]
theorem nb_land1 {n : Nat} (hn : n < 2 ^ 64) : lN n &&& 1 = lN (n % 2) := by
  apply nb_linj
  rw [Int64.toBitVec_and]
  show BitVec.ofNat 64 n &&& BitVec.ofNat 64 1 = BitVec.ofNat 64 (n % 2)
  apply BitVec.eq_of_toNat_eq
  rw [BitVec.toNat_and, BitVec.toNat_ofNat, BitVec.toNat_ofNat, BitVec.toNat_ofNat, Nat.mod_eq_of_lt hn, Nat.mod_eq_of_lt (show 1 < 2 ^ 64 by decide), Nat.mod_eq_of_lt (show n % 2 < 2 ^ 64 by omega), Nat.and_one_is_mod]
theorem nb_lcmp0 {x y : Int64} : lg_cmp x y = 0 ↔ x = y := lg_cmp_eq x y
theorem nb_sharedTwos {K : Int32 → nw_ST → Prop} {σ : nw_ST} {a m : Nat} (ha : a < 2 ^ 62) (hm : m ≤ 48) (hk : ∀ i, i < 63 → Nat.gcd a (2 ^ m) = 2 ^ i → K (nI i) σ) : f4_sharedTwos K σ (lN a) (lN (2 ^ m)) := by
  unfold f4_sharedTwos
  have hm2 : 2 ^ m ≤ 2 ^ 48 := Nat.pow_le_pow_right (by decide) hm
  have hor : a ||| 2 ^ m < 2 ^ 62 := Nat.or_lt_two_pow ha (by omega)
  refine pk_loop (fun n i u => f4_sharedTwos_3 K n u (lN a) (lN (2 ^ m)) (nI i)) (fun i u => u = σ ∧ 2 ^ i ∣ a ∧ 2 ^ i ∣ 2 ^ m) 63 0 σ (by decide) ⟨rfl, by rw [Nat.pow_zero]; exact Nat.one_dvd _, by rw [Nat.pow_zero]; exact Nat.one_dvd _⟩ ?_ ?_
  · rintro n u ⟨rfl, h1, h2⟩
    have := Nat.le_of_dvd (Nat.pow_pos (by decide)) h2
    omega
  · rintro n i u hi ⟨rfl, h1, h2⟩ ih
    show b4_sharedTwos_3 K _ u (lN a) (lN (2 ^ m)) (nI i)
    unfold b4_sharedTwos_3 f4_sharedTwos_29
    have hd : (a ||| 2 ^ m) / 2 ^ i ≤ (a ||| 2 ^ m) := Nat.div_le_self _ _
    rw [nb_lor (by omega) (by omega), nb_lshr hor (by omega), nb_land1 (by omega), nb_lcmp0, nI_1 i]
    have e0 : lN ((a ||| 2 ^ m) / 2 ^ i % 2) = 0 ↔ (a ||| 2 ^ m) / 2 ^ i % 2 = 0 := pk_lEQ (b := 0) (by omega) (by decide)
    rw [e0, nb_orbit]
    refine ⟨fun w => absurd w (nI_ge (b := 63) hi (by decide)), fun _ => ⟨fun z => ?_, fun z => ?_⟩⟩
    · exact ih u ⟨rfl, nb_dvd2 h1 z.1, nb_dvd2 h2 z.2⟩
    · exact hk i hi (nb_twos h1 h2 z)
theorem nb_lowest {K : Int64 → nw_ST → Prop} {σ : nw_ST} {a b : Nat} {d : Int32} (ha : a < 2 ^ 63) (hb : b < 2 ^ 63) (h0 : 0 < b) (hk : K (if d = 0 then lN (a / Nat.gcd a b) else lN (b / Nat.gcd a b)) σ) : f5_lowest K σ (lN a) (lN b) d := by
  unfold f5_lowest
  have hg1 : 0 < Nat.gcd a b := Nat.gcd_pos_of_pos_right a h0
  have hg2 : Nat.gcd a b ≤ b := Nat.gcd_le_right a h0
  refine lp3 (fun n s x y => f5_lowest_6 K n s (lN a) (lN b) d x y) (fun s x y => s = σ ∧ ∃ u v : Nat, x = lN u ∧ y = lN v ∧ u < 2 ^ 63 ∧ v < 2 ^ 63 ∧ Nat.gcd u v = Nat.gcd a b) (fun _ _ y => y.toInt.toNat) ?_ σ (lN a) (lN b) ⟨rfl, a, b, rfl, rfl, ha, hb, rfl⟩
  rintro n s x y ⟨rfl, u, v, rfl, rfl, hu, hv, hg⟩ ih
  show b5_lowest_6 K _ s (lN a) (lN b) d (lN u) (lN v)
  unfold b5_lowest_6 f5_lowest_47
  have e0 : lN v = 0 ↔ v = 0 := pk_lEQ (b := 0) hv (by decide)
  rw [nb_lcmp0]
  refine ⟨fun z => ?_, fun z => ⟨z, ?_⟩⟩
  · have z := e0.mp z
    rw [z, Nat.gcd_zero_right] at hg
    subst hg
    have hn : ¬ lN (Nat.gcd a b) = 0 := by
      intro w
      have := (pk_lEQ (a := Nat.gcd a b) (b := 0) (by omega) (by decide)).mp w
      omega
    rw [pk_lDiv ha hg1 (by omega), pk_lDiv hb hg1 (by omega)]
    exact ⟨⟨fun _ => hn, fun _ => hn⟩, hk⟩
  · have hv0 : 0 < v := by
      rcases Nat.eq_zero_or_pos v with h | h
      · exact absurd (e0.mpr h) z
      · exact h
    have hlt := Nat.mod_lt u hv0
    have er : nw_lrem (lN u) (lN v) = lN (u % v) := by unfold nw_lrem; exact pk_lRem hu hv0 hv
    rw [er]
    refine ih s (lN v) (lN (u % v)) ⟨rfl, v, u % v, rfl, rfl, hv, by omega, nb_gcd_step.trans hg⟩ ?_
    show (lN (u % v)).toInt.toNat < (lN v).toInt.toNat
    rw [pk_lT hv, pk_lT (show u % v < 2 ^ 63 by omega)]
    omega
