/-! ===== agree: numbers ===== -/
theorem nb_cre {p f t : Nat} : nb_crest p f t = true ↔ f ≤ t ∧ p ∣ t - f := by
  unfold nb_crest
  rw [decide_eq_true_iff, Nat.dvd_iff_mod_eq_zero]
def nb_lcm (p q : Nat) : Nat := p / Nat.gcd p q * q
theorem nb_lcmP {p q : Nat} (hp : 1 ≤ p) (hq : 1 ≤ q) : nb_lcm p q = p * q / Nat.gcd p q ∧ p ∣ nb_lcm p q ∧ q ∣ nb_lcm p q ∧ nb_lcm p q ≤ p * q ∧ 1 ≤ nb_lcm p q := by
  obtain ⟨p', ep⟩ := Nat.gcd_dvd_left p q
  obtain ⟨q', eq⟩ := Nat.gcd_dvd_right p q
  have hg : 0 < Nat.gcd p q := Nat.gcd_pos_of_pos_left q hp
  have e1 : p / Nat.gcd p q = p' := by
    have : (Nat.gcd p q * p') / Nat.gcd p q = p' := Nat.mul_div_cancel_left p' hg
    rw [← ep] at this; exact this
  have hp' : 1 ≤ p' := by
    rcases Nat.eq_zero_or_pos p' with h | h
    · rw [h, Nat.mul_zero] at ep; omega
    · exact h
  unfold nb_lcm
  rw [e1]
  refine ⟨?_, ?_, Nat.dvd_mul_left q p', ?_, Nat.mul_pos hp' hq⟩
  · have : p * q = Nat.gcd p q * (p' * q) := by
      have : p * q = (Nat.gcd p q * p') * q := by rw [← ep]
      rw [this, Nat.mul_assoc]
    rw [this, Nat.mul_div_cancel_left _ hg]
  · refine ⟨q', ?_⟩
    have h1 : p' * q = p' * (Nat.gcd p q * q') := by rw [← eq]
    have h2 : p * q' = (Nat.gcd p q * p') * q' := by rw [← ep]
    rw [h1, h2, Nat.mul_comm (Nat.gcd p q) p', Nat.mul_assoc]
  · exact Nat.mul_le_mul_right q (by rw [ep]; exact Nat.le_mul_of_pos_left p' hg)
/-- the first crest of a not ahead of m -/
def nb_t0 (p f m : Nat) : Nat := if m ≤ f then f else f + (m - f + p - 1) / p * p
theorem nb_t0P {p f m : Nat} (hp : 1 ≤ p) : f ≤ nb_t0 p f m ∧ m ≤ nb_t0 p f m ∧ p ∣ nb_t0 p f m - f ∧ nb_t0 p f m ≤ f + m + p ∧ ∀ t, f ≤ t → m ≤ t → p ∣ t - f → ∃ j, t = nb_t0 p f m + j * p := by
  unfold nb_t0
  by_cases h : m ≤ f
  · rw [if_pos h]
    refine ⟨Nat.le_refl _, h, by rw [Nat.sub_self]; exact Nat.dvd_zero p, by omega, fun t h1 h2 ⟨k, ek⟩ => ⟨k, ?_⟩⟩
    rw [Nat.mul_comm]; omega
  · rw [if_neg h]
    have hd := Nat.div_add_mod (m - f + p - 1) p
    have hm := Nat.mod_lt (m - f + p - 1) (show p > 0 by omega)
    generalize (m - f + p - 1) / p = c at hd ⊢
    generalize (m - f + p - 1) % p = r at hd hm
    have hcm : c * p = p * c := Nat.mul_comm c p
    refine ⟨by omega, by omega, ?_, by omega, fun t h1 h2 ⟨k, ek⟩ => ?_⟩
    · rw [Nat.add_sub_cancel_left]; exact Nat.dvd_mul_left p c
    · have hck : c ≤ k := by
        rcases Nat.lt_or_ge k c with hlt | hge
        · have := Nat.mul_le_mul_left p (show k + 1 ≤ c by omega)
          rw [Nat.mul_add, Nat.mul_one] at this
          omega
        · exact hge
      obtain ⟨d, rfl⟩ := Nat.le.dest hck
      refine ⟨d, ?_⟩
      rw [Nat.mul_add] at ek
      have : d * p = p * d := Nat.mul_comm d p
      omega
def nb_com (p q f g st k : Nat) : Bool := nb_crest p f (st + k) && nb_crest q g (st + k)
def nb_agr (p q f g st : Nat) (d : Int32) : Int32 := if nb_fst (nb_com p q f g st) (nb_lcm p q) < nb_lcm p q then (if d = 0 then nI (st + nb_fst (nb_com p q f g st) (nb_lcm p q)) else nI (nb_lcm p q)) else -1
/-- the class's search finds the same -/
theorem nb_agr_hit {p q f g m st i : Nat} {d : Int32} (hp : 1 ≤ p) (hq : 1 ≤ q) (hm : g ≤ m) (hst : st = if m ≤ f then f else m) (hno : ∀ j, j < i → nb_crest q g (nb_t0 p f m + j * p) = false) (hy : nb_crest q g (nb_t0 p f m + i * p) = true) : nb_agr p q f g st d = if d = 0 then nI (nb_t0 p f m + i * p) else nI (nb_lcm p q) := by
  obtain ⟨-, hpL, hqL, -, hL1⟩ := nb_lcmP hp hq
  obtain ⟨a1, a2, a3, -, a5⟩ := nb_t0P (f := f) (m := m) hp
  have hs1 : f ≤ st ∧ m ≤ st := by rw [hst]; split <;> omega
  have hs2 : st ≤ nb_t0 p f m := by rw [hst]; split <;> omega
  obtain ⟨hy1, hy2⟩ := nb_cre.mp hy
  have hpi : p ∣ nb_t0 p f m + i * p - f := by
    have : nb_t0 p f m + i * p - f = (nb_t0 p f m - f) + i * p := by omega
    rw [this]; exact Nat.dvd_add a3 (Nat.dvd_mul_left p i)
  have late : ∀ t, st ≤ t → nb_crest p f t = true → nb_crest q g t = true → nb_t0 p f m + i * p ≤ t := by
    intro t ht c1 c2
    obtain ⟨d1, d2⟩ := nb_cre.mp c1
    obtain ⟨j, ej⟩ := a5 t d1 (by omega) d2
    rcases Nat.lt_or_ge j i with h | h
    · have := hno j h
      rw [← ej, c2] at this; cases this
    · have := Nat.mul_le_mul_right p h
      omega
  have hlt : nb_t0 p f m + i * p - st < nb_lcm p q := by
    rcases Nat.lt_or_ge (nb_t0 p f m + i * p) (st + nb_lcm p q) with h | h
    · omega
    · have c1 : nb_crest p f (nb_t0 p f m + i * p - nb_lcm p q) = true := by
        refine nb_cre.mpr ⟨by omega, ?_⟩
        have := Nat.dvd_sub hpi hpL
        rw [show nb_t0 p f m + i * p - nb_lcm p q - f = nb_t0 p f m + i * p - f - nb_lcm p q by omega]; exact this
      have c2 : nb_crest q g (nb_t0 p f m + i * p - nb_lcm p q) = true := by
        refine nb_cre.mpr ⟨by omega, ?_⟩
        have := Nat.dvd_sub hy2 hqL
        rw [show nb_t0 p f m + i * p - nb_lcm p q - g = nb_t0 p f m + i * p - g - nb_lcm p q by omega]; exact this
      have := late _ (by omega) c1 c2
      omega
  have hc1 : nb_crest p f (nb_t0 p f m + i * p) = true := nb_cre.mpr ⟨by omega, hpi⟩
  have hfst : nb_fst (nb_com p q f g st) (nb_lcm p q) = nb_t0 p f m + i * p - st := by
    refine nb_fst_eq hlt (fun r hr => ?_) ?_
    · cases h : nb_com p q f g st r
      · rfl
      · unfold nb_com at h
        rw [Bool.and_eq_true] at h
        have := late (st + r) (by omega) h.1 h.2
        omega
    · unfold nb_com
      rw [show st + (nb_t0 p f m + i * p - st) = nb_t0 p f m + i * p by omega, hc1, hy]; rfl
  unfold nb_agr
  rw [hfst, if_pos hlt, show st + (nb_t0 p f m + i * p - st) = nb_t0 p f m + i * p by omega]
theorem nb_agr_none {p q f g m st : Nat} {d : Int32} (hp : 1 ≤ p) (hq : 1 ≤ q) (hst : st = if m ≤ f then f else m) (hno : ∀ j, j < q → nb_crest q g (nb_t0 p f m + j * p) = false) : nb_agr p q f g st d = -1 := by
  obtain ⟨-, hpL, hqL, hle, hL1⟩ := nb_lcmP hp hq
  obtain ⟨a1, a2, a3, -, a5⟩ := nb_t0P (f := f) (m := m) hp
  have hs1 : f ≤ st ∧ m ≤ st := by rw [hst]; split <;> omega
  have hs2 : st ≤ nb_t0 p f m := by rw [hst]; split <;> omega
  have hfst : nb_fst (nb_com p q f g st) (nb_lcm p q) = nb_lcm p q := by
    refine nb_fst_none (fun r hr => ?_)
    cases h : nb_com p q f g st r
    · rfl
    · unfold nb_com at h
      rw [Bool.and_eq_true] at h
      obtain ⟨d1, d2⟩ := nb_cre.mp h.1
      obtain ⟨j, ej⟩ := a5 (st + r) d1 (by omega) d2
      rcases Nat.lt_or_ge j q with hj | hj
      · have := hno j hj
        rw [← ej, h.2] at this; cases this
      · have := Nat.mul_le_mul_right p hj
        have : q * p = p * q := Nat.mul_comm q p
        omega
  unfold nb_agr
  rw [hfst, if_neg (Nat.lt_irrefl _)]
theorem nb_gcd_step {x y : Nat} : Nat.gcd y (x % y) = Nat.gcd x y := by
  rw [Nat.gcd_comm y (x % y), ← Nat.gcd_rec, Nat.gcd_comm]
theorem nb_lowestBy {K : Int32 → nw_ST → Prop} {σ : nw_ST} {p q : Nat} (hp : p < 2 ^ 31) (hq : q < 2 ^ 31) (hk : K (nI (Nat.gcd p q)) σ) : f5_lowestBy K σ (nI p) (nI q) := by
  unfold f5_lowestBy
  refine lp3 (fun n s a b => f5_lowestBy_4 K n s a b) (fun s a b => s = σ ∧ ∃ x y : Nat, a = nI x ∧ b = nI y ∧ x < 2 ^ 31 ∧ y < 2 ^ 31 ∧ Nat.gcd x y = Nat.gcd p q) (fun _ _ b => b.toNatClampNeg) ?_ σ (nI p) (nI q) ⟨rfl, p, q, rfl, rfl, hp, hq, rfl⟩
  rintro n s a b ⟨rfl, x, y, rfl, rfl, hx, hy, hg⟩ ih
  show b5_lowestBy_4 K _ s (nI x) (nI y)
  unfold b5_lowestBy_4
  refine ⟨fun z => ?_, fun z => ⟨z, ?_⟩⟩
  · have z := (nb_eq0 hy).mp z
    rw [z, Nat.gcd_zero_right] at hg
    rw [hg]; exact hk
  · have hy0 : 0 < y := by
      rcases Nat.eq_zero_or_pos y with h | h
      · exact absurd (by rw [h]; rfl) z
      · exact h
    have hlt := Nat.mod_lt x hy0
    rw [nb_remN hx hy0 hy]
    refine ih s (nI y) (nI (x % y)) ⟨rfl, y, x % y, rfl, rfl, hy, by omega, nb_gcd_step.trans hg⟩ ?_
    rw [nI_clamp hy, nI_clamp (show x % y < 2 ^ 31 by omega)]
    exact hlt
theorem nb_lcm4 {K : Int32 → nw_ST → Prop} {σ : nw_ST} {p q : Nat} (h1 : 1 ≤ p) (hp : p ≤ 99) (h2 : 1 ≤ q) (hq : q ≤ 99) (hk : K (nI (nb_lcm p q)) σ) : f4_leastCommonMultiple K σ (nI p) (nI q) := by
  unfold f4_leastCommonMultiple
  have hg1 : 0 < Nat.gcd p q := Nat.gcd_pos_of_pos_left q h1
  have hg2 : Nat.gcd p q ≤ p := Nat.gcd_le_left q h1
  have fin : ∀ x, Nat.gcd x 0 = Nat.gcd p q → f4_leastCommonMultiple_34 K σ (nI p) (nI q) (nI x) := by
    intro x hx
    rw [Nat.gcd_zero_right] at hx
    subst hx
    unfold f4_leastCommonMultiple_34 f4_leastCommonMultiple_47
    rw [if_neg (nI_nle hg1 (by omega)), pk_div (by omega) hg1 (by omega), pk_mul]
    exact ⟨⟨fun _ => trivial, fun _ => nI_ne0 hg1 (by omega)⟩, hk⟩
  refine pk_loop (fun n i (s : nw_ST × Nat × Nat) => f4_leastCommonMultiple_7 K n s.1 (nI p) (nI q) (nI s.2.1) (nI s.2.2) (nI i)) (fun i s => s.1 = σ ∧ Nat.gcd s.2.1 s.2.2 = Nat.gcd p q ∧ s.2.1 ≤ 99 ∧ s.2.2 ≤ 99 ∧ (i = 0 ∨ (s.2.2 < s.2.1 ∧ s.2.1 * s.2.2 * 2 ^ i ≤ 2 ^ 20))) 64 0 (σ, p, q) (by decide) ⟨rfl, rfl, hp, hq, Or.inl rfl⟩ ?_ ?_
  · rintro n ⟨s, x, y⟩ ⟨rfl, hg, hx, hy, hh⟩
    show b4_leastCommonMultiple_7 K _ s (nI p) (nI q) (nI x) (nI y) (nI 64)
    have hy0 : y = 0 := by
      rcases hh with h | ⟨h, h3⟩
      · exact absurd h (by decide)
      · have h : y < x := h
        have h3 : x * y * 2 ^ 64 ≤ 2 ^ 20 := h3
        rcases Nat.eq_zero_or_pos y with h0 | h0
        · exact h0
        · have : 0 < x * y := Nat.mul_pos (by omega) h0
          omega
    subst hy0
    unfold b4_leastCommonMultiple_7
    exact ⟨fun _ => fin x hg, fun w => absurd (by decide) w⟩
  · rintro n i ⟨s, x, y⟩ hi ⟨rfl, hg, hx, hy, hh⟩ ih
    show b4_leastCommonMultiple_7 K _ s (nI p) (nI q) (nI x) (nI y) (nI i)
    have hx : x ≤ 99 := hx
    have hy : y ≤ 99 := hy
    have hg : Nat.gcd x y = Nat.gcd p q := hg
    unfold b4_leastCommonMultiple_7
    refine ⟨fun w => absurd w (nI_ge (b := 64) hi (by decide)), fun _ => ⟨fun z => ?_, fun z => ⟨z, ?_⟩⟩⟩
    · have z := (nb_eq0 (show y < 2 ^ 31 by omega)).mp z
      rw [z] at hg
      exact fin x hg
    · have hy0 : 0 < y := by
        rcases Nat.eq_zero_or_pos y with h | h
        · exact absurd (by rw [h]; rfl) z
        · exact h
      have hlt := Nat.mod_lt x hy0
      rw [nb_remN (by omega) hy0 (by omega), nI_1 i]
      refine ih (s, y, x % y) ⟨rfl, nb_gcd_step.trans hg, hy, show x % y ≤ 99 by omega, Or.inr ⟨hlt, ?_⟩⟩
      show y * (x % y) * 2 ^ (i + 1) ≤ 2 ^ 20
      rcases hh with h | ⟨h, h3⟩
      · subst h
        have := Nat.mul_le_mul hy (show x % y ≤ 99 by omega)
        omega
      · have h : y < x := h
        have h3 : x * y * 2 ^ i ≤ 2 ^ 20 := h3
        have h4 : 2 * (x % y) ≤ x := by
          have h5 := Nat.mod_add_div x y
          have h6 : 1 ≤ x / y := (Nat.one_le_div_iff hy0).mpr (by omega)
          have h7 := Nat.mul_le_mul_left y h6
          omega
        have h8 : y * (x % y) * 2 ^ (i + 1) = y * (2 * (x % y)) * 2 ^ i := by
          rw [Nat.pow_succ, Nat.mul_comm (2 ^ i) 2, ← Nat.mul_assoc, Nat.mul_assoc y (x % y) 2, Nat.mul_comm (x % y) 2]
        rw [h8]
        refine Nat.le_trans (Nat.mul_le_mul_right _ ?_) h3
        rw [Nat.mul_comm x y]
        exact Nat.mul_le_mul_left y h4
