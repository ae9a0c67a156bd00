/-! ===== agree: the two sides ===== -/
def nb_st (f g c : Nat) : Nat := if c ≤ (if f ≤ g then g else f) then (if f ≤ g then g else f) else c
def nb_agS (S : nb_S) (a b c : Nat) (d : Int32) : Int32 := nb_agr (nb_pe (nb_VS S) a) (nb_pe (nb_VS S) b) (nb_fr (nb_VS S) a) (nb_fr (nb_VS S) b) (nb_st (nb_fr (nb_VS S) a) (nb_fr (nb_VS S) b) c) d
def nb_aAgree (S : nb_S) (a b c d : Int32) : Int32 := if v4_isBelow a (nI (nb_ns (nb_VS S))) = 0 then -2 else if v4_isBelow b (nI (nb_ns (nb_VS S))) = 0 then -2 else if a = b then -2 else if v5_in c 0 239 = 0 then -2 else if v5_in d 0 1 = 0 then -2 else nb_agS S a.toNatClampNeg b.toNatClampNeg c.toNatClampNeg d
theorem nb_VSp {S : nb_S} {i : Nat} (hi : i < nb_ns (nb_VS S)) : 2 ≤ nb_pe (nb_VS S) i ∧ nb_pe (nb_VS S) i ≤ 99 ∧ nb_fr (nb_VS S) i ≤ 99 := by
  have := nb_ptB0 (show i < nb_en 0 (S.2.1 0) (S.1 0) from hi)
  exact ⟨this.2.1.1, this.2.1.2, this.2.2⟩
theorem nb_agree4 {K : Int32 → nw_ST → Prop} {S : nb_S} {σ : nw_ST} {a b c d : Int32} (hO : nb_OK S) (hC : nb_C S σ) (hk : K (nb_aAgree S a b c d) σ) : f4_agree K σ a b c d := by
  unfold f4_agree f4_agree_33 f4_agree_52
  have hen := nb_en0 S hO
  have h16 : nw_gS σ 1 6 = nI (nb_ns (nb_VS S)) := hC.1.2.2.1.2.2.2.1
  have hns : nb_ns (nb_VS S) ≤ 6 := hen
  have hb2 : v4_isBelow d 2 = 0 ↔ v5_in d 0 1 = 0 := nb_below (a := d) 1 (by decide)
  rw [h16, nb_isTime4, hb2]
  unfold nb_aAgree at hk
  refine ⟨fun z1 => ?_, fun z1 => ⟨fun z2 => ?_, fun z2 => ⟨fun z3 => ?_, fun z3 => ⟨fun z4 => ?_, fun z4 => ⟨fun z5 => ?_, fun z5 => ?_⟩⟩⟩⟩⟩
  · rw [if_pos z1] at hk; exact hk
  · rw [if_neg z1, if_pos z2] at hk; exact hk
  · rw [if_neg z1, if_neg z2, if_pos z3] at hk; exact hk
  · rw [if_neg z1, if_neg z2, if_neg z3, if_pos z4] at hk; exact hk
  · rw [if_neg z1, if_neg z2, if_neg z3, if_neg z4, if_pos z5] at hk; exact hk
  · rw [if_neg z1, if_neg z2, if_neg z3, if_neg z4, if_neg z5] at hk
    obtain ⟨x, hx, rfl⟩ := nb_belowE (by omega) z1
    obtain ⟨y, hy, rfl⟩ := nb_belowE (by omega) z2
    obtain ⟨t, -, ht, rfl⟩ := nb_in 0 239 (by decide) (by decide) z4
    rw [nI_clamp (show x < 2 ^ 31 by omega), nI_clamp (show y < 2 ^ 31 by omega), nI_clamp (show t < 2 ^ 31 by omega)] at hk
    have px1 := nb_sp4 hO hC.1 hx (show 1 < 3 by decide)
    have px2 := nb_sp4 hO hC.1 hx (show 2 < 3 by decide)
    have py1 := nb_sp4 hO hC.1 hy (show 1 < 3 by decide)
    have py2 := nb_sp4 hO hC.1 hy (show 2 < 3 by decide)
    rw [show nI 1 = (1 : Int32) from rfl] at px1 py1
    rw [show nI 2 = (2 : Int32) from rfl] at px2 py2
    have bx := nb_VSp hx
    have bY := nb_VSp hy
    have ex1 : v2_part σ 1 (nI x) 1 = nI (nb_pe (nb_VS S) x) := px1.2
    have ex2 : v2_part σ 1 (nI x) 2 = nI (nb_fr (nb_VS S) x) := px2.2
    have ey1 : v2_part σ 1 (nI y) 1 = nI (nb_pe (nb_VS S) y) := py1.2
    have ey2 : v2_part σ 1 (nI y) 2 = nI (nb_fr (nb_VS S) y) := py2.2
    unfold nb_agS at hk
    generalize nb_pe (nb_VS S) x = p at *
    generalize nb_pe (nb_VS S) y = q at *
    generalize nb_fr (nb_VS S) x = f at *
    generalize nb_fr (nb_VS S) y = g at *
    unfold o4_firstCrest v4_firstCrest
    rw [ex1, ex2, ey1, ey2]
    have em : (if nI t < nI g then nI g else nI t) = nI (if t < g then g else t) := by
      by_cases h : t < g
      · rw [if_pos h, if_pos (nI_lt h (by omega))]
      · rw [if_neg h, if_neg (nI_nlt (by omega) (by omega))]
    have hm1 : g ≤ (if t < g then g else t) := by split <;> omega
    have hm2 : (if t < g then g else t) ≤ 300 := by split <;> omega
    have hst : nb_st f g t = if (if t < g then g else t) ≤ f then f else (if t < g then g else t) := by
      unfold nb_st
      by_cases h1 : f ≤ g <;> by_cases h2 : t < g <;> simp only [h1, h2, if_true, if_false] <;> (repeat' split) <;> omega
    rw [em]
    generalize (if t < g then g else t) = m at *
    have hp := nb_t0P (f := f) (m := m) (show 1 ≤ p by omega)
    have et : (if nI m ≤ nI f then nI f else if 0 < nI p then nI f + (nI m - nI f + nI p - 1) / nI p * nI p else nI f) = nI (nb_t0 p f m) := by
      unfold nb_t0
      by_cases h : m ≤ f
      · rw [if_pos h, if_pos (nI_le h (by omega))]
      · rw [if_neg h, if_neg (nI_ge (by omega) (by omega)), if_pos (show (0 : Int32) < nI p from nI_lt (a := 0) (by omega) (by omega)), pk_sub (by omega), nI_add, show nI (m - f + p) - 1 = nI (m - f + p - 1) from pk_sub (b := 1) (by omega), pk_div (by omega) (by omega) (by omega), pk_mul, nI_add]
    rw [et]
    refine ⟨px1.1, py1.1, py2.1, ⟨px1.1, px2.1, fun _ => trivial, fun _ => ⟨fun _ => nI_ne0 (by omega) (by omega), fun _ => trivial⟩⟩, ?_⟩
    have hb0 := hp.2.2.2.1
    refine pk_loop (fun n i u => f4_agree_100 K n u (nI y) d (nI p) (nI q) (nI (nb_t0 p f m + i * p)) (nI i)) (fun i u => u = σ ∧ ∀ j, j < i → nb_crest q g (nb_t0 p f m + j * p) = false) q 0 σ (Nat.zero_le _) ⟨rfl, fun j hj => absurd hj (Nat.not_lt_zero j)⟩ ?_ ?_ |> (fun h => by simp only [Nat.zero_mul, Nat.add_zero] at h; exact h)
    · rintro n u ⟨rfl, hno⟩
      show b4_agree_100 K _ u (nI y) d (nI p) (nI q) _ (nI q)
      unfold b4_agree_100
      rw [nb_agr_none (by omega) (by omega) hst hno] at hk
      exact ⟨fun _ => hk, fun w => absurd (nI_le (Nat.le_refl _) (by omega)) w⟩
    · rintro n i u hi ⟨rfl, hno⟩ ih
      show b4_agree_100 K _ u (nI y) d (nI p) (nI q) (nI (nb_t0 p f m + i * p)) (nI i)
      have hip : i * p ≤ 99 * 99 := Nat.mul_le_mul (by omega) (by omega)
      unfold b4_agree_100 f4_agree_143
      obtain ⟨oc, vc⟩ := nb_cr4 (p := q) (f := g) (t := nb_t0 p f m + i * p) (by omega) (by omega) (by omega) (by omega)
      rw [ey2, vc, nI_add, nI_1 i]
      refine ⟨fun w => absurd w (nI_ge hi (by omega)), fun _ => ⟨py2.1, oc, fun z => ?_, fun z => ?_⟩⟩
      · have z : nb_crest q g (nb_t0 p f m + i * p) = false := by
          cases h : nb_crest q g (nb_t0 p f m + i * p)
          · rfl
          · rw [h] at z; exact absurd z (by decide)
        have := ih u ⟨rfl, fun j hj => by
          by_cases e : j = i
          · rw [e]; exact z
          · exact hno j (by omega)⟩
        rw [Nat.add_mul, Nat.one_mul, ← Nat.add_assoc] at this
        exact this
      · have z : nb_crest q g (nb_t0 p f m + i * p) = true := by
          cases h : nb_crest q g (nb_t0 p f m + i * p)
          · rw [h] at z; exact absurd rfl z
          · rfl
        rw [nb_agr_hit (by omega) (by omega) hm1 hst hno z] at hk
        refine ⟨fun w => ?_, fun w => ?_⟩
        · rw [if_pos w] at hk; exact hk
        · rw [if_neg w] at hk
          exact nb_lcm4 (by omega) (by omega) (by omega) (by omega) hk
theorem nb_crR {S : nb_S} {s : nw_ST} {i t : Nat} (hO : nb_OK S) (h : nb_RT0 s (S.2.1 0) (S.1 0)) (hi : i < nb_ns (nb_VS S)) (ht : t < 2 ^ 31) : o5_isCrest s (nI i) (nI t) ∧ v5_isCrest s (nI i) (nI t) = if nb_crest (nb_pe (nb_VS S) i) (nb_fr (nb_VS S) i) t then 1 else 0 := by
  have hen := nb_en0 S hO
  have hns : nb_ns (nb_VS S) ≤ 6 := hen
  have hb := nb_VSp hi
  have h1 : nw_gA s 41 i = nI (nb_pe (nb_VS S) i) := h.2 i hi 1 (by decide)
  have h2 : nw_gA s 42 i = nI (nb_fr (nb_VS S) i) := h.2 i hi 2 (by decide)
  unfold o5_isCrest v5_isCrest nb_crest
  rw [nI_clamp (show i < 2 ^ 31 by omega), h1, h2]
  refine ⟨⟨vp_in_nI (by omega) (by decide), fun _ => trivial, fun _ => ⟨vp_in_nI (by omega) (by decide), vp_in_nI (by omega) (by decide), nI_ne0 (by omega) (by omega)⟩⟩, ?_⟩
  by_cases hf : nb_fr (nb_VS S) i ≤ t
  · rw [if_neg (nI_nlt hf (by omega)), pk_sub hf, nb_remN (by omega) (by omega) (by omega)]
    by_cases hm : (t - nb_fr (nb_VS S) i) % nb_pe (nb_VS S) i = 0
    · rw [hm, if_pos (by decide), if_pos (by simp [hf, hm])]
    · have hlt : (t - nb_fr (nb_VS S) i) % nb_pe (nb_VS S) i < nb_pe (nb_VS S) i := Nat.mod_lt _ (by omega)
      rw [if_neg (nI_ne0 (by omega) (by omega)), if_neg (by simp [hm])]
  · rw [if_pos (nI_lt (by omega) (by omega)), if_neg (by simp [hf])]
theorem nb_agreeOf {K : Int32 → nw_ST → Prop} {S : nb_S} {s : nw_ST} {x y t : Nat} {d : Int32} (hO : nb_OK S) (hR : nb_RT0 s (S.2.1 0) (S.1 0)) (hx : x < nb_ns (nb_VS S)) (hy : y < nb_ns (nb_VS S)) (ht : t ≤ 239) (hk : K (nb_agS S x y t d) s) : f5_agreeOf K s (nI x) (nI y) (nI t) d := by
  have hen := nb_en0 S hO
  have hns : nb_ns (nb_VS S) ≤ 6 := hen
  have bx := nb_VSp hx
  have bY := nb_VSp hy
  have x1 : nw_gA s 41 x = nI (nb_pe (nb_VS S) x) := hR.2 x hx 1 (by decide)
  have x2 : nw_gA s 42 x = nI (nb_fr (nb_VS S) x) := hR.2 x hx 2 (by decide)
  have y1 : nw_gA s 41 y = nI (nb_pe (nb_VS S) y) := hR.2 y hy 1 (by decide)
  have y2 : nw_gA s 42 y = nI (nb_fr (nb_VS S) y) := hR.2 y hy 2 (by decide)
  have cx := fun t ht => nb_crR (t := t) hO hR hx ht
  have cy := fun t ht => nb_crR (t := t) hO hR hy ht
  unfold f5_agreeOf
  rw [nI_clamp (show x < 2 ^ 31 by omega), nI_clamp (show y < 2 ^ 31 by omega), x1, y1]
  unfold nb_agS at hk
  generalize nb_pe (nb_VS S) x = p at *
  generalize nb_pe (nb_VS S) y = q at *
  generalize nb_fr (nb_VS S) x = f at *
  generalize nb_fr (nb_VS S) y = g at *
  have vx : vp_in (nI x) 7 := vp_in_nI (by omega) (by decide)
  have vy : vp_in (nI y) 7 := vp_in_nI (by omega) (by decide)
  refine ⟨vx, vy, vx, vy, nb_lowestBy (by omega) (by omega) ?_⟩
  have hg1 : 0 < Nat.gcd p q := Nat.gcd_pos_of_pos_left q (by omega)
  have hg2 : Nat.gcd p q ≤ p := Nat.gcd_le_left q (by omega)
  obtain ⟨eL, -, -, hLe, -⟩ := nb_lcmP (show 1 ≤ p by omega) (show 1 ≤ q by omega)
  have hpq : p * q ≤ 99 * 99 := Nat.mul_le_mul (by omega) (by omega)
  have el : Int64.toInt32 ((Int32.toInt64 (nI p)) * (Int32.toInt64 (nI q)) / (Int32.toInt64 (nI (Nat.gcd p q)))) = nI (nb_lcm p q) := by
    rw [nI_l (show p < 2 ^ 31 by omega), nI_l (show q < 2 ^ 31 by omega), nI_l (show Nat.gcd p q < 2 ^ 31 by omega), lN_mul, pk_lDiv (by omega) hg1 (by omega), lN_i, eL]
  have hgn : ¬ Int32.toInt64 (nI (Nat.gcd p q)) = 0 := by
    rw [nI_l (show Nat.gcd p q < 2 ^ 31 by omega)]
    intro w
    have := (pk_lEQ (a := Nat.gcd p q) (b := 0) (by omega) (by decide)).mp w
    omega
  rw [el, x2, y2]
  have em : (if nI f ≤ nI g then nI g else nI f) = nI (if f ≤ g then g else f) := by
    by_cases h : f ≤ g
    · rw [if_pos h, if_pos (nI_le h (by omega))]
    · rw [if_neg h, if_neg (nI_ge (by omega) (by omega))]
  rw [em]
  refine ⟨hgn, vx, vy, ⟨fun _ => vy, fun _ => vx⟩, ?_⟩
  unfold f5_agreeOf_65 f5_agreeOf_79
  have hmx : (if f ≤ g then g else f) ≤ 99 := by split <;> omega
  have es : (if nI t ≤ nI (if f ≤ g then g else f) then nI (if f ≤ g then g else f) else nI t) = nI (nb_st f g t) := by
    unfold nb_st
    by_cases h : t ≤ (if f ≤ g then g else f)
    · rw [if_pos h, if_pos (nI_le h (by omega))]
    · rw [if_neg h, if_neg (nI_ge (by omega) (by omega))]
  rw [es]
  have hst : nb_st f g t ≤ 300 := by
    unfold nb_st
    generalize (if f ≤ g then g else f) = w at hmx ⊢
    split <;> omega
  generalize nb_st f g t = st at *
  unfold nb_agr at hk
  refine pk_loop (fun n k u => f5_agreeOf_85 K n u (nI x) (nI y) d (nI (nb_lcm p q)) (nI st) (nI (st + k))) (fun k u => u = s ∧ ∀ r, r < k → nb_com p q f g st r = false) (nb_lcm p q) 0 s (Nat.zero_le _) ⟨rfl, fun r hr => absurd hr (Nat.not_lt_zero r)⟩ ?_ ?_
  · rintro n u ⟨rfl, hno⟩
    show b5_agreeOf_85 K _ u (nI x) (nI y) d _ (nI st) (nI (st + nb_lcm p q))
    unfold b5_agreeOf_85
    rw [nb_fst_none hno, if_neg (Nat.lt_irrefl _)] at hk
    rw [nI_add]
    exact ⟨fun _ => hk, fun w => absurd (nI_le (Nat.le_refl _) (by omega)) w⟩
  · rintro n k u hk9 ⟨rfl, hno⟩ ih
    show b5_agreeOf_85 K _ u (nI x) (nI y) d _ (nI st) (nI (st + k))
    unfold b5_agreeOf_85 f5_agreeOf_127 f5_agreeOf_128
    obtain ⟨o1, v1⟩ := cx (st + k) (by omega)
    obtain ⟨o2, v2⟩ := cy (st + k) (by omega)
    rw [v1, v2, nI_add, nI_1 (st + k)]
    have go : nb_com p q f g st k = false → f5_agreeOf_85 K n u (nI x) (nI y) d (nI (nb_lcm p q)) (nI st) (nI (st + k + 1)) := fun z => ih u ⟨rfl, fun r hr => by
      by_cases e : r = k
      · rw [e]; exact z
      · exact hno r (by omega)⟩
    refine ⟨fun w => absurd w (nI_ge (by omega) (by omega)), fun _ => ⟨o1, fun z => go ?_, fun z => ⟨o2, fun w => go ?_, fun w => ?_⟩⟩⟩
    · unfold nb_com
      cases h : nb_crest p f (st + k)
      · rfl
      · rw [h] at z; exact absurd z (by decide)
    · unfold nb_com
      cases h : nb_crest q g (st + k)
      · rw [Bool.and_false]
      · rw [h] at w; exact absurd w (by decide)
    · have h : nb_com p q f g st k = true := by
        unfold nb_com
        cases h1 : nb_crest p f (st + k)
        · rw [h1] at z; exact absurd rfl z
        · cases h2 : nb_crest q g (st + k)
          · rw [h2] at w; exact absurd rfl w
          · rfl
      rw [nb_fst_eq hk9 hno h, if_pos hk9] at hk
      exact hk
theorem nb_agree5 {K : Int32 → nw_ST → Prop} {S : nb_S} {σ : nw_ST} {a b c d : Int32} (hO : nb_OK S) (hM : nb_MP S σ) (hk : ∀ s, nb_MP S s → nb_Ch nb_mS nb_mA σ s → nb_RD S s → K (nb_aAgree S a b c d) s) : f5_agree K σ a b c d := by
  unfold f5_agree f5_agree_50 f5_agree_52 f5_isSwell
  have hen := nb_en0 S hO
  have hns : nb_ns (nb_VS S) ≤ 6 := hen
  refine nb_reads hO hM (fun s1 m1 c1 r1 => ?_)
  have h2 : nw_gS s1 37 2 = nI (nb_ns (nb_VS S)) := r1.1.1
  rw [h2, nb_belowS (by omega)]
  unfold nb_aAgree at hk
  refine ⟨fun z1 => ?_, fun z1 => ?_⟩
  · have := hk s1 m1 (nb_rCh c1) r1; rw [if_pos z1] at this; exact this
  · refine nb_reads hO m1 (fun s2 m2 c2 r2 => ?_)
    have h2 : nw_gS s2 37 2 = nI (nb_ns (nb_VS S)) := r2.1.1
    have hk := hk s2 m2 ((nb_rCh c1).tr (nb_rCh c2)) r2
    rw [if_neg z1] at hk
    rw [h2, nb_belowS (by omega), nb_isTime5]
    refine ⟨fun z2 => ?_, fun z2 => ⟨fun z3 => ?_, fun z3 => ⟨fun z4 => ?_, fun z4 => ⟨fun z5 => ?_, fun z5 => ?_⟩⟩⟩⟩
    · rw [if_pos z2] at hk; exact hk
    · rw [if_neg z2, if_pos z3] at hk; exact hk
    · rw [if_neg z2, if_neg z3, if_pos z4] at hk; exact hk
    · rw [if_neg z2, if_neg z3, if_neg z4, if_pos z5] at hk; exact hk
    · rw [if_neg z2, if_neg z3, if_neg z4, if_neg z5] at hk
      obtain ⟨x, hx, rfl⟩ := nb_belowE (by omega) z1
      obtain ⟨y, hy, rfl⟩ := nb_belowE (by omega) z2
      obtain ⟨t, -, ht, rfl⟩ := nb_in 0 239 (by decide) (by decide) z4
      rw [nI_clamp (show x < 2 ^ 31 by omega), nI_clamp (show y < 2 ^ 31 by omega), nI_clamp (show t < 2 ^ 31 by omega)] at hk
      exact nb_agreeOf hO r2.1 hx hy ht hk
theorem nb_step19 : nl_S19 nb_Inv := by
  intro σ ⟨S, hO, hC, hM⟩ a b c d
  refine nb_agree4 hO hC ?_
  show f5_agree _ σ a b c d
  exact nb_agree5 hO hM (fun s2 h2 c2 _ => ⟨rfl, S, hO, hC.other c2, h2⟩)
