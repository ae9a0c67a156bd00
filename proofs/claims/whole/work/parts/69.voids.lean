/-! ===== voids ===== -/
theorem nb_fst_congr {p q : Nat → Bool} {n : Nat} (h : ∀ i, i < n → p i = q i) : nb_fst p n = nb_fst q n := by
  induction n with
  | zero => rfl
  | succ n ih =>
    show (if nb_fst p n < n then nb_fst p n else if p n then n else n + 1) = (if nb_fst q n < n then nb_fst q n else if q n then n else n + 1)
    rw [ih (fun i hi => h i (by omega)), h n (by omega)]
/-- one wake more -/
def nb_VW (V : nb_V) (t : Nat) : nb_V := (V.1, V.2.1, V.2.2.1, V.2.2.2.1, V.2.2.2.2.1, nb_nw V + 1, fun i => if i = nb_nw V then t else nb_wa V i, V.2.2.2.2.2.2.2)
theorem nb_wkW (V : nb_V) (t0 t : Nat) : nb_wk (nb_VW V t0) t = (nb_wk V t || decide (t0 = t)) := by
  rw [Bool.eq_iff_iff, Bool.or_eq_true]
  unfold nb_wk
  rw [decide_eq_true_iff, decide_eq_true_iff, decide_eq_true_iff]
  show nb_fst (fun i => decide ((if i = nb_nw V then t0 else nb_wa V i) = t)) (nb_nw V + 1) < nb_nw V + 1 ↔ _
  rw [nb_fst_lt, nb_fst_congr (q := fun i => decide (nb_wa V i = t)) (fun i hi => by show decide ((if i = nb_nw V then t0 else nb_wa V i) = t) = _; rw [if_neg (by omega)]), decide_eq_true_iff, if_pos rfl]
theorem nb_caW (V : nb_V) (t0 t : Nat) : nb_ca (nb_VW V t0) t = (nb_ca V t && !decide (t0 = t)) := by
  show (nb_bk (nb_dp V) (nb_hi V t) && !nb_wk (nb_VW V t0) t) = ((nb_bk (nb_dp V) (nb_hi V t) && !nb_wk V t) && !decide (t0 = t))
  rw [nb_wkW, Bool.not_or, Bool.and_assoc]
theorem nb_ctW (V : nb_V) (t0 T : Nat) : nb_ct (nb_VW V t0) T = nb_ct V T - (if t0 < T ∧ nb_ca V t0 = true then 1 else 0) := by
  induction T with
  | zero => rfl
  | succ T ih =>
    rw [nb_ctS, nb_ctS, ih, nb_caW]
    by_cases e : t0 = T
    · subst e
      rw [if_neg (fun z => absurd z.1 (Nat.lt_irrefl _)), decide_eq_true rfl, Bool.not_true, Bool.and_false]
      by_cases q : nb_ca V t0 = true
      · rw [if_pos (show t0 < t0 + 1 ∧ nb_ca V t0 = true from ⟨Nat.lt_succ_self _, q⟩), if_pos q]; rfl
      · rw [if_neg (show ¬ (t0 < t0 + 1 ∧ nb_ca V t0 = true) from fun z => q z.2), if_neg q]; rfl
    · rw [decide_eq_false e, Bool.not_false, Bool.and_true]
      by_cases q : t0 < T ∧ nb_ca V t0 = true
      · rw [if_pos q, if_pos (show t0 < T + 1 ∧ nb_ca V t0 = true from ⟨by omega, q.2⟩)]
        have a := nb_ct_mono V (show t0 + 1 ≤ T by omega)
        rw [nb_ctS, if_pos q.2] at a
        omega
      · rw [if_neg q, if_neg (show ¬ (t0 < T + 1 ∧ nb_ca V t0 = true) from fun z => q ⟨by omega, z.2⟩)]
        rfl
def nb_x6 (V : nb_V) (t0 t : Nat) : Nat := if nb_tu V t0 = 0 then nb_tu V t else if nb_tu V t = 0 then nb_tu V t else if t < t0 then nb_tu V t else if t = t0 then 0 else nb_tu V t - 1
theorem nb_x6_le (V : nb_V) (t0 t : Nat) : nb_x6 V t0 t ≤ t + 1 := by
  have := nb_tu_le V t
  unfold nb_x6
  split <;> (try split) <;> (try split) <;> (try split) <;> omega
theorem nb_atW {V : nb_V} (hB : nb_VB V) (t0 t : Nat) : nb_at (nb_VW V t0) t = nb_nu V (nb_x6 V t0 t) := by
  have e1 : ∀ k, nb_nu (nb_VW V t0) k = nb_nu V k := fun k => rfl
  unfold nb_at
  rw [e1, nb_caW, nb_ctW]
  unfold nb_x6
  by_cases h0 : nb_ca V t = true
  · have ht : nb_tu V t = nb_ct V (t + 1) := by unfold nb_tu; rw [if_pos h0]
    have hp : 1 ≤ nb_ct V (t + 1) := by rw [nb_ctS, if_pos h0]; omega
    rw [h0, Bool.true_and, ht, if_neg (show ¬ nb_ct V (t + 1) = 0 by omega)]
    by_cases q : nb_ca V t0 = true
    · have h9 : ¬ nb_tu V t0 = 0 := fun z => by have := nb_tu0.mp z; rw [q] at this; cases this
      rw [if_neg h9]
      by_cases e : t0 = t
      · rw [decide_eq_true e, if_neg (show ¬ t < t0 by omega), if_pos e.symm, nb_nu0 hB]; rfl
      · rw [decide_eq_false e]
        show nb_nu V (nb_ct V (t + 1) - _) = _
        by_cases y : t < t0
        · rw [if_pos y, if_neg (fun z => by omega)]; rfl
        · rw [if_neg y, if_neg (show ¬ t = t0 from fun z => e z.symm), if_pos (show t0 < t + 1 ∧ nb_ca V t0 = true from ⟨by omega, q⟩)]
    · have h9 : nb_tu V t0 = 0 := nb_tu0.mpr (by simpa using q)
      have e : ¬ t0 = t := fun z => q (by rw [z]; exact h0)
      rw [if_pos h9, decide_eq_false e, if_neg (show ¬ (t0 < t + 1 ∧ nb_ca V t0 = true) from fun z => q z.2)]; rfl
  · have h0 : nb_ca V t = false := by simpa using h0
    have ht : nb_tu V t = 0 := nb_tu0.mpr h0
    rw [h0, Bool.false_and, ht, if_neg (by decide)]
    have : (if nb_tu V t0 = 0 then 0 else if (0 : Nat) = 0 then 0 else if t < t0 then 0 else if t = t0 then 0 else 0 - 1) = 0 := by
      split
      · rfl
      · rfl
    rw [this, nb_nu0 hB]
theorem nb_fitsWake {K : Int32 → nw_ST → Prop} {S : nb_S} {σ : nw_ST} {t0 : Nat} (hO : nb_OK S) (hC : nb_CP S σ) (hw : nb_WV (nb_VS S) σ) (h0 : t0 < 240) (hk : K (if nb_hd (nb_VW (nb_VS S) t0) S (S.1 6) then 1 else 0) σ) : f4_fitsWake K σ (nI t0) := by
  unfold f4_fitsWake f4_fitsWake_14
  have hp := hC.2.2.2.2.2.2.2.1
  have hb := hO.2.2.2.2.2.1
  have hB := nb_VSB hO
  have htu0 := nb_tu_le (nb_VS S) t0
  rw [nI_clamp (show t0 < 2 ^ 31 by omega), (hw.1 t0 h0).2.2.2]
  refine ⟨vp_in_nI h0 (by decide), ?_⟩
  refine pk_loop (fun n i u => f4_fitsWake_18 K n u (nI t0) (if nI (nb_tu (nb_VS S) t0) ≤ 0 then 0 else 1) (nI i)) (fun i u => u = σ ∧ nb_hd (nb_VW (nb_VS S) t0) S i = true) (S.1 6) 0 σ (Nat.zero_le _) ⟨rfl, nb_hd_iff.mpr (fun i hi => absurd hi (Nat.not_lt_zero i))⟩ ?_ ?_
  · rintro n u ⟨rfl, hh⟩
    show b4_fitsWake_18 K _ u (nI t0) _ (nI (S.1 6))
    unfold b4_fitsWake_18
    rw [hp.1]
    rw [if_pos hh] at hk
    exact ⟨fun _ => hk, fun w => absurd (nI_le (Nat.le_refl _) (by omega)) w⟩
  · rintro n i u hi ⟨rfl, hh⟩ ih
    show b4_fitsWake_18 K _ u (nI t0) _ (nI i)
    unfold b4_fitsWake_18 f4_fitsWake_82
    have hbi := hb.2 i hi
    have p1 : nw_gA u 17 i = nI (S.2.1 7 i) := (hp.2 i hi).1
    have p2 : nw_gA u 18 i = nI (S.2.1 8 i) := (hp.2 i hi).2
    have htu := nb_tu_le (nb_VS S) (S.2.1 7 i)
    have hx6 := nb_x6_le (nb_VS S) t0 (S.2.1 7 i)
    have hnu := nb_nu_le hB (nb_x6 (nb_VS S) t0 (S.2.1 7 i))
    rw [hp.1, nI_clamp (show i < 2 ^ 31 by omega), p1, p2, nI_clamp (show S.2.1 7 i < 2 ^ 31 by omega), (hw.1 _ hbi.1).2.2.2, nI_1 i]
    have ev : (if (if nI (nb_tu (nb_VS S) t0) ≤ 0 then (0 : Int32) else 1) = 0 then nI (nb_tu (nb_VS S) (S.2.1 7 i)) else if nI (nb_tu (nb_VS S) (S.2.1 7 i)) ≤ 0 then nI (nb_tu (nb_VS S) (S.2.1 7 i)) else if nI (S.2.1 7 i) < nI t0 then nI (nb_tu (nb_VS S) (S.2.1 7 i)) else if nI (S.2.1 7 i) = nI t0 then 0 else nI (nb_tu (nb_VS S) (S.2.1 7 i)) - 1) = nI (nb_x6 (nb_VS S) t0 (S.2.1 7 i)) := by
      unfold nb_x6
      by_cases q : nb_tu (nb_VS S) t0 = 0
      · rw [if_pos ((nb_le0 (by omega)).mpr q), if_pos rfl, if_pos q]
      · rw [if_neg (fun z => q ((nb_le0 (by omega)).mp z)), if_neg (by decide), if_neg q]
        by_cases y : nb_tu (nb_VS S) (S.2.1 7 i) = 0
        · rw [if_pos ((nb_le0 (by omega)).mpr y), if_pos y]
        · rw [if_neg (fun z => y ((nb_le0 (by omega)).mp z)), if_neg y]
          by_cases x : S.2.1 7 i < t0
          · rw [if_pos (nI_lt x (by omega)), if_pos x]
          · rw [if_neg (nI_nlt (by omega) (by omega)), if_neg x]
            by_cases w : S.2.1 7 i = t0
            · rw [if_pos (by rw [w]), if_pos w]; rfl
            · rw [if_neg (fun z => w ((nI_eq (by omega) (by omega)).mp z)), if_neg w]
              exact pk_sub (b := 1) (by omega)
    rw [ev, nI_clamp (show nb_x6 (nb_VS S) t0 (S.2.1 7 i) < 2 ^ 31 by omega), hw.2.1 _ (by omega)]
    have ea := nb_atW hB t0 (S.2.1 7 i)
    refine ⟨fun w => absurd w (nI_ge hi (by omega)), fun _ => ⟨vp_in_nI (by omega) (by decide), vp_in_nI hbi.1 (by decide), vp_in_nI (by omega) (by decide), vp_in_nI (by omega) (by decide), fun z => ih u ⟨rfl, nb_hdN.mpr ⟨hh, by rw [ea]; exact (nI_eq (by omega) (by omega)).mp z⟩⟩, fun z => ?_⟩⟩
    have : ¬ nb_hd (nb_VW (nb_VS S) t0) S (S.1 6) = true := fun q => z (by rw [← ea, nb_hd_iff.mp q i hi])
    rw [if_neg this] at hk
    exact hk
/-! the i-th that fits -/
def nb_cnt (F : Nat → Bool) (n : Nat) : Nat := nb_sum (fun i => if F i then 1 else 0) n
theorem nb_cntS (F : Nat → Bool) (n : Nat) : nb_cnt F (n + 1) = nb_cnt F n + (if F n then 1 else 0) := rfl
theorem nb_cnt_le (F : Nat → Bool) (n : Nat) : nb_cnt F n ≤ n := by
  have := nb_sum_le (f := fun i => if F i then 1 else 0) (n := n) (B := 1) (fun i _ => by split <;> omega)
  unfold nb_cnt; omega
theorem nb_cnt_mono (F : Nat → Bool) {a b : Nat} (h : a ≤ b) : nb_cnt F a ≤ nb_cnt F b := by
  induction b with
  | zero => rw [show a = 0 by omega]; exact Nat.le_refl _
  | succ b ih =>
    by_cases e : a = b + 1
    · rw [e]; exact Nat.le_refl _
    · have := ih (by omega)
      rw [nb_cntS]; omega
def nb_fnd (F : Nat → Bool) (v : Nat → Int32) (x : Int32) : Nat → Int32
  | 0 => -1
  | i + 1 => if F i = true ∧ nI (nb_cnt F i) = x then v i else nb_fnd F v x i
theorem nb_fndS (F : Nat → Bool) (v : Nat → Int32) (x : Int32) (i : Nat) : nb_fnd F v x (i + 1) = if F i = true ∧ nI (nb_cnt F i) = x then v i else nb_fnd F v x i := rfl
theorem nb_fnd_hit {F : Nat → Bool} {v : Nat → Int32} {x : Int32} {i E : Nat} (hE : E < 2 ^ 31) (hF : F i = true) (hx : nI (nb_cnt F i) = x) (hi : i < E) : nb_fnd F v x E = v i := by
  induction E with
  | zero => omega
  | succ E ih =>
    rw [nb_fndS]
    by_cases e : i = E
    · subst e; rw [if_pos ⟨hF, hx⟩]
    · rw [if_neg, ih (by omega) (by omega)]
      intro z
      have a := nb_cnt_mono F (show i + 1 ≤ E by omega)
      rw [nb_cntS, if_pos hF] at a
      have b := nb_cnt_le F E
      have c := (nI_eq (by omega) (by omega)).mp (z.2.trans hx.symm)
      omega
def nb_ith (F : Nat → Bool) (v : Nat → Int32) (x : Int32) (E : Nat) : Int32 := if x = -1 then nI (nb_cnt F E) else nb_fnd F v x E
def nb_fW (S : nb_S) (t : Nat) : Bool := nb_hd (nb_VW (nb_VS S) t) S (S.1 6)
def nb_aVoids (S : nb_S) (a : Int32) : Int32 := if v5_in a (-1) 239 = 0 then -2 else nb_ith (nb_fW S) nI a 240
theorem nb_voids4 {K : Int32 → nw_ST → Prop} {S : nb_S} {σ : nw_ST} {a : Int32} (hO : nb_OK S) (hC : nb_C S σ) (hk : ∀ s, nb_C S s → nb_Ch nb_cS nb_cA σ s → K (nb_aVoids S a) s) : f4_voids K σ a := by
  unfold f4_voids
  rw [nb_isFrom]
  unfold nb_aVoids at hk
  refine ⟨fun z => ?_, fun z => ?_⟩
  · have := hk σ hC nb_Ch.rf; rw [if_pos z] at this; exact this
  · refine nb_waves hO hC (fun s hs hw hc => ?_)
    have hk := hk s hs hc
    rw [if_neg z] at hk
    unfold nb_ith at hk
    have hit : ∀ i, i < 240 → nb_fW S i = true → nI (nb_cnt (nb_fW S) i) = a → nb_fnd (nb_fW S) nI a 240 = nI i := fun i hi hF hx => nb_fnd_hit (by decide) hF hx hi
    generalize h1 : nb_fnd (nb_fW S) nI a 240 = fa at hk hit
    generalize h2 : nb_cnt (nb_fW S) 240 = ca at hk
    refine pk_loop (fun m i u => f4_voids_24 K m u a (nI (nb_cnt (nb_fW S) i)) (nI i)) (fun i u => u = s ∧ nb_fnd (nb_fW S) nI a i = -1) 240 0 s (by decide) ⟨rfl, rfl⟩ ?_ ?_
    · rintro m u ⟨rfl, hf⟩
      show b4_voids_24 K _ u a (nI (nb_cnt (nb_fW S) 240)) (nI 240)
      rw [h1] at hf
      rw [h2]
      rw [hf] at hk
      unfold b4_voids_24 f4_voids_69
      exact ⟨fun _ => hk, fun w => absurd (by decide) w⟩
    · rintro m i u hi ⟨rfl, hf⟩ ih
      show b4_voids_24 K _ u a (nI (nb_cnt (nb_fW S) i)) (nI i)
      unfold b4_voids_24 f4_voids_53
      have hcl := nb_cnt_le (nb_fW S) i
      refine ⟨fun w => absurd w (nI_ge (b := 240) hi (by decide)), fun _ => nb_fitsWake hO hs.1 hw hi ?_⟩
      have hq : nb_hd (nb_VW (nb_VS S) i) S (S.1 6) = nb_fW S i := rfl
      rw [hq, nI_1 i]
      by_cases q : nb_fW S i = true
      · rw [if_pos q]
        refine ⟨fun y => absurd y (by decide), fun _ => ⟨fun y => ?_, fun y => ?_⟩⟩
        · have e := hit i hi q y
          have na : ¬ a = -1 := fun w => nb_neg1 (b := nb_cnt (nb_fW S) i) (by omega) (y.trans w)
          rw [if_neg na, e] at hk
          exact hk
        · have := ih u ⟨rfl, by rw [nb_fndS, if_neg (fun w => y w.2)]; exact hf⟩
          rw [nb_cntS, if_pos q] at this
          rw [nI_1]; exact this
      · rw [if_neg q]
        refine ⟨fun _ => ?_, fun y => absurd rfl y⟩
        have := ih u ⟨rfl, by rw [nb_fndS, if_neg (fun w => q w.1)]; exact hf⟩
        rw [nb_cntS, if_neg q] at this
        exact this
