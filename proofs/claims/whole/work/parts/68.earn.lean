/-! ===== earn ===== -/
def nb_un (S : nb_S) (n : Nat) : Bool := decide (¬ nb_fst (fun i => decide (S.2.1 6 i = n)) (S.1 5) < S.1 5)
theorem nb_un_iff {S : nb_S} {n : Nat} : nb_un S n = true ↔ ¬ nb_fst (fun i => decide (S.2.1 6 i = n)) (S.1 5) < S.1 5 := by unfold nb_un; exact decide_eq_true_iff
def nb_em (S : nb_S) : Nat → Nat
  | 0 => 0
  | i + 1 => if nb_un S (i + 1) = true ∧ nb_em S i < nb_wo S (i + 1) then nb_wo S (i + 1) else nb_em S i
def nb_eb (S : nb_S) : Nat → Int32
  | 0 => -1
  | i + 1 => if nb_un S (i + 1) = true ∧ nb_em S i < nb_wo S (i + 1) then nI (i + 1) else nb_eb S i
theorem nb_emS (S : nb_S) (i : Nat) : nb_em S (i + 1) = if nb_un S (i + 1) = true ∧ nb_em S i < nb_wo S (i + 1) then nb_wo S (i + 1) else nb_em S i := rfl
theorem nb_ebS (S : nb_S) (i : Nat) : nb_eb S (i + 1) = if nb_un S (i + 1) = true ∧ nb_em S i < nb_wo S (i + 1) then nI (i + 1) else nb_eb S i := rfl
theorem nb_em_le {S : nb_S} (hO : nb_OK S) (i : Nat) : nb_em S i ≤ 144 := by
  induction i with
  | zero => exact Nat.zero_le _
  | succ i ih =>
    have := nb_wo_le hO (i + 1)
    rw [nb_emS]; split <;> omega
def nb_eA (S : nb_S) (h : Nat) (b : Int32) (eb : Int32) (em : Nat) : Int32 := if eb = -1 then -1 else if b = 0 then eb else nI (nb_claS S h + em)
def nb_aEarn (S : nb_S) (a b : Int32) : Int32 := if v5_in a 0 7 = 0 then -2 else if v5_in b 0 1 = 0 then -2 else nb_eA S a.toNatClampNeg b (nb_eb S 400) (nb_em S 400)
theorem nb_fwsG {K : Int32 → nw_ST → Prop} {S : nb_S} {σ : nw_ST} {n : Nat} (hO : nb_OK S) (hC : nb_CP S σ) (hn : n < 2 ^ 31) (hk : K (if nb_fst (fun i => decide (S.2.1 6 i = n)) (S.1 5) < S.1 5 then nI (nb_fst (fun i => decide (S.2.1 6 i = n)) (S.1 5)) else -1) σ) : f0_firstWithSecond K σ 13 (nI n) := by
  unfold f0_firstWithSecond
  have hp := hC.2.2.2.2.2.2.1
  have hb := hO.2.2.2.2.1
  refine pk_loop (fun m i u => f0_firstWithSecond_2 K m u 13 (nI n) (nI i)) (fun i u => u = σ ∧ ∀ r, r < i → S.2.1 6 r ≠ n) (S.1 5) 0 σ (Nat.zero_le _) ⟨rfl, fun r hr => absurd hr (Nat.not_lt_zero r)⟩ ?_ ?_
  · rintro m u ⟨rfl, hno⟩
    show b0_firstWithSecond_2 K _ u 13 (nI n) (nI (S.1 5))
    unfold b0_firstWithSecond_2
    rw [hp.1]
    refine ⟨fun _ => ?_, fun w => absurd (nI_le (Nat.le_refl _) (by omega)) w⟩
    have e : nb_fst (fun i => decide (S.2.1 6 i = n)) (S.1 5) = S.1 5 := nb_fst_none (fun r hr => decide_eq_false (hno r hr))
    rw [e, if_neg (Nat.lt_irrefl _)] at hk
    exact hk
  · rintro m i u hi ⟨rfl, hno⟩ ih
    show b0_firstWithSecond_2 K _ u 13 (nI n) (nI i)
    unfold b0_firstWithSecond_2
    have h6 := hb.2 i hi
    rw [nI_clamp (show i < 2 ^ 31 by omega), hp.1, show nw_rf 13 1 = 15 from rfl, show nw_len 15 = 12 from rfl, (hp.2 i hi).2, nI_1 i]
    refine ⟨fun w => absurd w (nI_ge hi (by omega)), fun _ => ⟨vp_in_nI (by omega) (by decide), fun z => ?_, fun z => ?_⟩⟩
    · have z := (nI_eq (by omega) hn).mp z
      have e : nb_fst (fun i => decide (S.2.1 6 i = n)) (S.1 5) = i := nb_fst_eq hi (fun r hr => decide_eq_false (hno r hr)) (decide_eq_true z)
      rw [e, if_pos hi] at hk
      exact hk
    · refine ih u ⟨rfl, fun r hr => ?_⟩
      by_cases e : r = i
      · rw [e]; exact fun q => z (by rw [q])
      · exact hno r (by omega)
theorem nb_earn4 {K : Int32 → nw_ST → Prop} {S : nb_S} {σ : nw_ST} {a b : Int32} (hO : nb_OK S) (hC : nb_C S σ) (hk : ∀ s, nb_C S s → nb_Ch nb_cS nb_cA σ s → K (nb_aEarn S a b) s) : f4_earn K σ a b := by
  unfold f4_earn f4_earn_17
  have hb8 : v4_isBelow a 8 = 0 ↔ v5_in a 0 7 = 0 := nb_below (a := a) 7 (by decide)
  have hb2 : v4_isBelow b 2 = 0 ↔ v5_in b 0 1 = 0 := nb_below (a := b) 1 (by decide)
  rw [hb8, hb2]
  unfold nb_aEarn at hk
  refine ⟨fun z => ?_, fun z => ⟨fun z2 => ?_, fun z2 => ?_⟩⟩
  · have := hk σ hC nb_Ch.rf; rw [if_pos z] at this; exact this
  · have := hk σ hC nb_Ch.rf; rw [if_neg z, if_pos z2] at this; exact this
  · refine nb_waves hO hC (fun s hs hw hc => ?_)
    have hk := hk s hs hc
    rw [if_neg z, if_neg z2] at hk
    obtain ⟨h, -, hh, rfl⟩ := nb_in 0 7 (by decide) (by decide) z
    rw [nI_clamp (show h < 2 ^ 31 by omega)] at hk
    have hq := nb_em_le hO 400
    generalize h1 : nb_eb S 400 = eb at hk
    generalize h2 : nb_em S 400 = em at hk hq
    refine pk_loop (fun m i u => f4_earn_34 K m u (nI h) b (nb_eb S i) (nI (nb_em S i)) (nI (i + 1))) (fun i u => u = s) 400 0 s (by decide) rfl ?_ ?_
    · rintro m u rfl
      show b4_earn_34 K _ u (nI h) b (nb_eb S 400) (nI (nb_em S 400)) (nI 401)
      rw [h1, h2]
      unfold b4_earn_34 f4_earn_111
      unfold nb_eA at hk
      refine ⟨fun _ => ⟨fun y => ?_, fun y => ⟨fun x => ?_, fun x => ?_⟩⟩, fun w => absurd (by decide) w⟩
      · rw [if_pos y] at hk; exact hk
      · rw [if_neg y, if_pos x] at hk; exact hk
      · rw [if_neg y, if_neg x] at hk
        refine nb_claimsBy hO hs.1 hw (by omega) ?_
        rw [nI_add]; exact hk
    · rintro m i u hi rfl ih
      show b4_earn_34 K _ u (nI h) b (nb_eb S i) (nI (nb_em S i)) (nI (i + 1))
      have := ih u rfl
      have hem := nb_em_le hO i
      have hwo := nb_wo_le hO (i + 1)
      simp only [nb_emS, nb_ebS] at this
      generalize nb_eb S i = x4 at this ⊢
      unfold b4_earn_34 f4_earn_79
      rw [nI_1 (i + 1)]
      refine ⟨fun w => absurd ((nI_ltI (a := 400) (by decide) (by omega)).mp w) (by omega), fun _ => nb_fwsG hO hs.1 (by omega) ?_⟩
      by_cases q : nb_fst (fun j => decide (S.2.1 6 j = i + 1)) (S.1 5) < S.1 5
      · have hb5 := hO.2.2.2.2.1.1
        rw [if_pos q]
        have hu : ¬ nb_un S (i + 1) = true := fun y => nb_un_iff.mp y q
        rw [if_neg (fun y => hu y.1), if_neg (fun y => hu y.1)] at this
        exact ⟨fun y => absurd y (nb_neg1 (by omega)), fun _ => this⟩
      · rw [if_neg q]
        have hu : nb_un S (i + 1) = true := nb_un_iff.mpr q
        refine ⟨fun _ => nb_worthOf hO hs.1 hw (by omega) (by omega) ?_, fun y => absurd rfl y⟩
        by_cases y : nb_em S i < nb_wo S (i + 1)
        · rw [if_pos ⟨hu, y⟩, if_pos ⟨hu, y⟩] at this
          rw [if_neg (nI_ge y (by omega)), if_neg (nI_ge y (by omega))]
          exact this
        · rw [if_neg (fun w => y w.2), if_neg (fun w => y w.2)] at this
          rw [if_pos (nI_le (by omega) (by omega)), if_pos (nI_le (by omega) (by omega))]
          exact this
/-- one ticket more -/
theorem nb_cla_more {S : nb_S} {h n : Nat} : nb_cla S (fun i => if i = S.1 5 then h else S.2.1 5 i) (fun i => if i = S.1 5 then n else S.2.1 6 i) (S.1 5 + 1) h = nb_claS S h + (if nb_un S n = true then nb_wo S n else 0) := by
  generalize hho : (fun i => if i = S.1 5 then h else S.2.1 5 i) = ho
  generalize hnu : (fun i => if i = S.1 5 then n else S.2.1 6 i) = nu
  have e0 : ho (S.1 5) = h := by rw [← hho]; exact if_pos rfl
  have e1 : nu (S.1 5) = n := by rw [← hnu]; exact if_pos rfl
  have d0 : ∀ i, i < S.1 5 → ho i = S.2.1 5 i := fun i hi => by rw [← hho]; exact if_neg (by omega)
  have d1 : ∀ i, i < S.1 5 → nu i = S.2.1 6 i := fun i hi => by rw [← hnu]; exact if_neg (by omega)
  show nb_sum _ (S.1 5) + (if nb_f1 nu (S.1 5) = true ∧ ho (S.1 5) = h then nb_wo S (nu (S.1 5)) else 0) = _
  have a : nb_sum (fun i => if nb_f1 nu i = true ∧ ho i = h then nb_wo S (nu i) else 0) (S.1 5) = nb_claS S h := by
    unfold nb_claS nb_cla
    apply nb_sum_congr
    intro i hi
    have f : nb_f1 nu i = nb_f1 (S.2.1 6) i := by
      rw [Bool.eq_iff_iff, nb_f1_iff, nb_f1_iff]
      constructor
      · intro q r hr; have := q r hr; rw [d1 i hi, d1 r (by omega)] at this; exact this
      · intro q r hr; rw [d1 i hi, d1 r (by omega)]; exact q r hr
    rw [f, d0 i hi, d1 i hi]
  rw [a, e0, e1]
  have f : nb_f1 nu (S.1 5) = nb_un S n := by
    rw [Bool.eq_iff_iff, nb_f1_iff, nb_un_iff]
    constructor
    · intro q y
      have w := of_decide_eq_true (nb_fst_yes (fun i => decide (S.2.1 6 i = n)) (S.1 5) y)
      have := q _ y
      rw [e1, d1 _ y] at this
      exact this w
    · intro q r hr
      have hle := nb_fst_le (fun i => decide (S.2.1 6 i = n)) (S.1 5)
      have := of_decide_eq_false (nb_fst_no (fun i => decide (S.2.1 6 i = n)) (S.1 5) r (by omega))
      rw [e1, d1 r hr]; exact this
  rw [f]
  by_cases q : nb_un S n = true
  · rw [if_pos ⟨q, rfl⟩, if_pos q]
  · rw [if_neg (fun y => q y.1), if_neg q]
theorem nb_earn5 {K : Int32 → nw_ST → Prop} {S : nb_S} {σ : nw_ST} {a b : Int32} (hO : nb_OK S) (hM : nb_MP S σ) (hk : ∀ s, nb_MP S s → nb_Ch nb_mS nb_mA σ s → K (nb_aEarn S a b) s) : f5_earn K σ a b := by
  unfold f5_earn f5_earn_28 f5_earn_30 f5_earnOf
  unfold nb_aEarn at hk
  refine ⟨fun z => ?_, fun z => ⟨fun z2 => ?_, fun z2 => ?_⟩⟩
  · have := hk σ hM nb_Ch.rf; rw [if_pos z] at this; exact this
  · have := hk σ hM nb_Ch.rf; rw [if_neg z, if_pos z2] at this; exact this
  · obtain ⟨h, -, hh, rfl⟩ := nb_in 0 7 (by decide) (by decide) z
    rw [if_neg z, if_neg z2, nI_clamp (show h < 2 ^ 31 by omega)] at hk
    refine nb_claimsOf hO hM hh (fun s hs hc hT => ?_)
    have hb := hO.2.2.2.2.1
    have g16 : nw_gS s 37 16 = nI (S.1 5) := hs.2.2.2.2.1.1
    have hcl := nb_cla_le hO (S.2.1 5) (S.2.1 6) (S.1 5) h
    have hcl : nb_claS S h ≤ S.1 5 * 144 := hcl
    rw [nb_gSsA, g16, nI_clamp (show S.1 5 < 2 ^ 31 by omega), nI_1]
    refine ⟨vp_in_nI (by omega) (by decide), ?_⟩
    have hI : ∀ u, nb_Ch [(37, 24)] [49, 50] s u → (∀ i, i < S.1 5 → nw_gA u 49 i = nw_gA s 49 i ∧ nw_gA u 50 i = nw_gA s 50 i) → nb_MP S u :=
      fun u hu h49 => hs.pre hu (by decide) (by decide) (fun i _ => ⟨(hu.2 46 (by decide)).1 i, (hu.2 47 (by decide)).1 i⟩) (fun i _ => (hu.2 48 (by decide)).1 i) h49
    have i1 : nb_Ch [(37, 24)] [49, 50] s (nw_sS (nw_sA s 49 (S.1 5) (nI h)) 37 24 (nI (S.1 5 + 1))) := (nb_Ch.rf.sA _ _ (by decide)).sS _ (by decide)
    have i2 : ∀ i, i < S.1 5 → nw_gA (nw_sS (nw_sA s 49 (S.1 5) (nI h)) 37 24 (nI (S.1 5 + 1))) 49 i = nw_gA s 49 i ∧ nw_gA (nw_sS (nw_sA s 49 (S.1 5) (nI h)) 37 24 (nI (S.1 5 + 1))) 50 i = nw_gA s 50 i := by
      intro i hi
      rw [nb_gAsS, nb_gAsS, nb_gAsA, nb_gAsA, if_pos rfl, if_neg (by omega), if_neg (by decide)]
      exact ⟨rfl, rfl⟩
    have i3 : nw_gS (nw_sS (nw_sA s 49 (S.1 5) (nI h)) 37 24 (nI (S.1 5 + 1))) 37 24 = nI (S.1 5 + 1) := by rw [nb_gSsS, if_pos rfl, if_pos rfl]
    have i4 : nw_gA (nw_sS (nw_sA s 49 (S.1 5) (nI h)) 37 24 (nI (S.1 5 + 1))) 49 (S.1 5) = nI h := by rw [nb_gAsS, nb_gAsA, if_pos rfl, if_pos rfl]
    generalize nw_sS (nw_sA s 49 (S.1 5) (nI h)) 37 24 (nI (S.1 5 + 1)) = s4 at i1 i2 i3 i4 ⊢
    generalize h1 : nb_eb S 400 = eb at hk
    generalize h2 : nb_em S 400 = em at hk
    refine pk_loop (fun m i u => f5_earnOf_36 (fun r s => K r s) m u (nI h) b (nb_eb S i) (nI (nb_claS S h + nb_em S i)) (nI (i + 1))) (fun i u => nb_Ch [(37, 24)] [49, 50] s u ∧ (∀ i, i < S.1 5 → nw_gA u 49 i = nw_gA s 49 i ∧ nw_gA u 50 i = nw_gA s 50 i) ∧ nw_gS u 37 24 = nI (S.1 5 + 1) ∧ nw_gA u 49 (S.1 5) = nI h) 400 0 s4 (by decide) ⟨i1, i2, i3, i4⟩ ?_ ?_
    · rintro m u ⟨cu, h49, -, -⟩
      show b5_earnOf_36 _ _ u (nI h) b (nb_eb S 400) (nI (nb_claS S h + nb_em S 400)) (nI 401)
      rw [h1, h2]
      unfold b5_earnOf_36 f5_earnOf_113
      have hk := hk u (hI u cu h49) (hc.tr (cu.up (by decide +kernel) (by decide +kernel)))
      unfold nb_eA at hk
      refine ⟨fun _ => ?_, fun w => absurd (by decide) w⟩
      by_cases y : eb = -1
      · rw [if_pos y] at hk ⊢; rw [y]; exact hk
      · rw [if_neg y] at hk ⊢; exact hk
    · rintro m i u hi ⟨cu, h49, h24, hn49⟩ ih
      show b5_earnOf_36 _ _ u (nI h) b (nb_eb S i) (nI (nb_claS S h + nb_em S i)) (nI (i + 1))
      have hem := nb_em_le hO i
      have hwo := nb_wo_le hO (i + 1)
      have mu := hI u cu h49
      have cv : nb_Ch [(37, 24)] [49, 50] s (nw_sA u 50 (S.1 5) (nI (i + 1))) := cu.sA _ _ (by decide)
      have h49v : ∀ r, r < S.1 5 → nw_gA (nw_sA u 50 (S.1 5) (nI (i + 1))) 49 r = nw_gA s 49 r ∧ nw_gA (nw_sA u 50 (S.1 5) (nI (i + 1))) 50 r = nw_gA s 50 r := by
        intro r hr
        rw [nb_gAsA, nb_gAsA, if_neg (by decide), if_pos rfl, if_neg (by omega)]
        exact h49 r hr
      have n49v : nw_gA (nw_sA u 50 (S.1 5) (nI (i + 1))) 49 (S.1 5) = nI h := by rw [nb_gAsA, if_neg (by decide)]; exact hn49
      have n50v : nw_gA (nw_sA u 50 (S.1 5) (nI (i + 1))) 50 (S.1 5) = nI (i + 1) := by rw [nb_gAsA, if_pos rfl, if_pos rfl]
      have h24v : nw_gS (nw_sA u 50 (S.1 5) (nI (i + 1))) 37 24 = nI (S.1 5 + 1) := h24
      have this := ih _ ⟨cv, h49v, h24v, n49v⟩
      simp only [nb_emS, nb_ebS] at this
      unfold b5_earnOf_36 f5_earnOf_75 f5_earnOf_90
      rw [mu.2.2.2.2.1.1, nI_clamp (show S.1 5 < 2 ^ 31 by omega), nI_1 (i + 1)]
      generalize nw_sA u 50 (S.1 5) (nI (i + 1)) = v at cv h49v n49v n50v h24v this ⊢
      refine ⟨fun w => absurd w (nI_ge (b := 401) (by omega) (by decide)), fun _ => ⟨vp_in_nI (by omega) (by decide), ?_⟩⟩
      refine nb_claimsNow (ho := fun j => if j = S.1 5 then h else S.2.1 5 j) (nu := fun j => if j = S.1 5 then i + 1 else S.2.1 6 j) (N := S.1 5 + 1) hO (fun t ht => ⟨((cv.2 52 (by decide)).1 t).trans (hT.2.2.1.1 t ht).2.1, ((cv.2 53 (by decide)).1 t).trans (hT.2.2.1.1 t ht).2.2⟩) (hT.1.2.ch cv (by decide) (by intro w hw; rcases (show w = 0 ∨ w = 1 ∨ w = 2 by omega) with rfl | rfl | rfl <;> decide)) (by omega) h24v (fun j hj => ?_) (fun j hj => ?_) (by omega) ?_
      · show _ = nI (if j = S.1 5 then h else S.2.1 5 j) ∧ _ = nI (if j = S.1 5 then i + 1 else S.2.1 6 j)
        by_cases e : j = S.1 5
        · rw [if_pos e, if_pos e, e]; exact ⟨n49v, n50v⟩
        · rw [if_neg e, if_neg e]
          have q := h49v j (by omega)
          have w := hs.2.2.2.2.1.2 j (by omega)
          exact ⟨q.1.trans w.1, q.2.trans w.2⟩
      · show (if j = S.1 5 then h else S.2.1 5 j) < 2 ^ 31 ∧ (if j = S.1 5 then i + 1 else S.2.1 6 j) < 2 ^ 31
        by_cases e : j = S.1 5
        · rw [if_pos e, if_pos e]; omega
        · rw [if_neg e, if_neg e]
          have := hb.2 j (by omega)
          omega
      · rw [nb_cla_more]
        by_cases hu : nb_un S (i + 1) = true
        · rw [if_pos hu]
          by_cases y : nb_em S i < nb_wo S (i + 1)
          · rw [if_pos ⟨hu, y⟩, if_pos ⟨hu, y⟩] at this
            rw [if_neg (nI_ge (show nb_claS S h + nb_em S i < nb_claS S h + nb_wo S (i + 1) by omega) (by omega)), if_neg (nI_ge (show nb_claS S h + nb_em S i < nb_claS S h + nb_wo S (i + 1) by omega) (by omega))]
            exact this
          · rw [if_neg (fun w => y w.2), if_neg (fun w => y w.2)] at this
            rw [if_pos (nI_le (show nb_claS S h + nb_wo S (i + 1) ≤ nb_claS S h + nb_em S i by omega) (by omega)), if_pos (nI_le (show nb_claS S h + nb_wo S (i + 1) ≤ nb_claS S h + nb_em S i by omega) (by omega))]
            exact this
        · rw [if_neg (fun w => hu w.1), if_neg (fun w => hu w.1)] at this
          rw [if_neg hu, if_pos (nI_le (show nb_claS S h + 0 ≤ nb_claS S h + nb_em S i by omega) (by omega)), if_pos (nI_le (show nb_claS S h + 0 ≤ nb_claS S h + nb_em S i by omega) (by omega))]
          exact this
theorem nb_step22 : nl_S22 nb_Inv := by
  intro σ ⟨S, hO, hC, hM⟩ a b
  refine nb_earn4 hO hC (fun s1 h1 c1 => ?_)
  show f5_earn _ s1 a b
  exact nb_earn5 hO (hM.other c1) (fun s2 h2 c2 => ⟨rfl, S, hO, h1.other c2, h2⟩)
