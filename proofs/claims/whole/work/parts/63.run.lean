/-! ===== run ===== -/
theorem nb_nu400 {S : nb_S} (hO : nb_OK S) {k : Nat} (h : k ≤ 240) : nb_nu (nb_VS S) k ≤ 400 := by
  have := nb_nuB (V := nb_VS S) (k := k) (B := 11) (nb_VSB hO).2.2.2.2.1 (fun i hi => (hO.2.2.1.2 i hi).2.2.2)
  omega
theorem nb_at400 {S : nb_S} (hO : nb_OK S) {t : Nat} (h : t < 240) : nb_at (nb_VS S) t ≤ 400 := by
  unfold nb_at
  have := nb_ct_le (nb_VS S) (t + 1)
  have := nb_nu400 hO (show nb_ct (nb_VS S) (t + 1) ≤ 240 by omega)
  split <;> omega
def nb_dv (S : nb_S) (n : Nat) : Nat := if nb_wh (nb_VS S) n < 240 then nb_br S n else 0
def nb_rs (S : nb_S) (x k : Nat) : Nat := nb_sum (fun i => nb_dv S (x + i)) k
def nb_ru (S : nb_S) (len : Nat) : Nat → Int32 × Int32
  | 0 => (-1, -1)
  | i + 1 => (if nI (nb_rs S (i + 1) len) ≤ (nb_ru S len i).2 then (nb_ru S len i).1 else nI (i + 1), if nI (nb_rs S (i + 1) len) ≤ (nb_ru S len i).2 then (nb_ru S len i).2 else nI (nb_rs S (i + 1) len))
def nb_la (S : nb_S) : Nat := nb_nu (nb_VS S) (nb_ct (nb_VS S) 240)
def nb_aRun (S : nb_S) (a b : Int32) : Int32 := if v5_in a 1 9 = 0 then -2 else if v5_in b 0 1 = 0 then -2 else if b = 0 then (nb_ru S a.toNatClampNeg (nb_la S + 1 - a.toNatClampNeg)).1 else (nb_ru S a.toNatClampNeg (nb_la S + 1 - a.toNatClampNeg)).2
theorem nb_sumOfRun {K : Int32 → nw_ST → Prop} {S : nb_S} {σ : nw_ST} {x len : Nat} (hO : nb_OK S) (hC : nb_CP S σ) (hw : nb_WV (nb_VS S) σ) (hx : x + len ≤ 401) (hk : K (nI (nb_rs S x len)) σ) : f4_sumOfRun K σ (nI x) (nI len) := by
  unfold f4_sumOfRun
  refine pk_loop (fun m k u => f4_sumOfRun_6 K m u (nI x) (nI len) (nI (nb_rs S x k)) (nI (x + k))) (fun k u => u = σ) len 0 σ (Nat.zero_le _) rfl ?_ ?_
  · rintro m u rfl
    show b4_sumOfRun_6 K _ u (nI x) (nI len) _ (nI (x + len))
    unfold b4_sumOfRun_6
    rw [nI_add]
    exact ⟨fun _ => hk, fun w => absurd (nI_le (Nat.le_refl _) (by omega)) w⟩
  · rintro m k u hk9 rfl ih
    show b4_sumOfRun_6 K _ u (nI x) (nI len) _ (nI (x + k))
    unfold b4_sumOfRun_6 f4_sumOfRun_36
    rw [nI_add, nI_clamp (show x + k < 2 ^ 31 by omega), hw.2.2.1 _ (by omega), nI_1 (x + k)]
    have := ih u rfl
    have e : nb_rs S x (k + 1) = nb_rs S x k + nb_dv S (x + k) := rfl
    rw [e] at this
    unfold nb_dv at this
    refine ⟨fun w => absurd w (nI_ge (by omega) (by omega)), fun _ => ⟨vp_in_nI (by omega) (by decide), fun z => ?_, fun z => ?_⟩⟩
    · rw [if_neg (nb_tiN.mp z)] at this; exact this
    · have z : nb_wh (nb_VS S) (x + k) < 240 := by
        rcases Nat.lt_or_ge (nb_wh (nb_VS S) (x + k)) 240 with h | h
        · exact h
        · exact absurd (nb_tiN.mpr (by omega)) z
      rw [if_pos z] at this
      refine nb_valueOf hO hC (by omega) ?_
      rw [nI_add]; exact this
theorem nb_run4 {K : Int32 → nw_ST → Prop} {S : nb_S} {σ : nw_ST} {a b : Int32} (hO : nb_OK S) (hC : nb_C S σ) (hk : ∀ s, nb_C S s → nb_Ch nb_cS nb_cA σ s → K (nb_aRun S a b) s) : f4_run K σ a b := by
  unfold f4_run f4_run_18
  have hb2 : v4_isBelow b 2 = 0 ↔ v5_in b 0 1 = 0 := nb_below (a := b) 1 (by decide)
  rw [nb_isFrom, hb2]
  have h0 := hk σ hC nb_Ch.rf
  unfold nb_aRun at h0 hk
  refine ⟨fun z => ?_, fun z => ⟨fun z2 => ?_, fun z2 => ?_⟩⟩
  · rw [if_pos z] at h0; exact h0
  · rw [if_neg z, if_pos z2] at h0; exact h0
  · refine nb_waves hO hC (fun s hs hw hc => ?_)
    have hk := hk s hs hc
    rw [if_neg z, if_neg z2] at hk
    obtain ⟨len, hl1, hl9, rfl⟩ := nb_in 1 9 (by decide) (by decide) z
    rw [nI_clamp (show len < 2 ^ 31 by omega)] at hk
    obtain ⟨ol, vl⟩ := nb_last4 hw
    have vl : v3_last s = nI (nb_la S) := vl
    have hla : nb_la S ≤ 400 := nb_nu400 hO (nb_ct_le _ _)
    refine pk_loop (fun m i u => f4_run_35 K m u (nI len) b (nb_ru S len i).1 (nb_ru S len i).2 (nI (i + 1))) (fun i u => u = s) (nb_la S + 1 - len) 0 s (Nat.zero_le _) rfl ?_ ?_
    · rintro m u rfl
      show b4_run_35 K _ u (nI len) b _ _ (nI (nb_la S + 1 - len + 1))
      unfold b4_run_35 f4_run_90
      rw [vl, nI_add, show (1 : Int32) = nI 1 from rfl, pk_sub (by omega)]
      refine ⟨ol, fun _ => hk, fun w => absurd (nI_lt (show nb_la S < nb_la S + 1 - len + 1 + len - 1 by omega) (by omega)) w⟩
    · rintro m i u hi rfl ih
      show b4_run_35 K _ u (nI len) b _ _ (nI (i + 1))
      unfold b4_run_35 f4_run_73
      rw [vl, nI_add, show nI (i + 1 + len) - 1 = nI (i + 1 + len - 1) from pk_sub (b := 1) (by omega)]
      refine ⟨ol, fun w => absurd w (nI_nlt (show i + 1 + len - 1 ≤ nb_la S by omega) (by omega)), fun _ => nb_sumOfRun hO hs.1 hw (by omega) ?_⟩
      have := ih u rfl
      unfold nb_ru at this
      rw [nI_1 (i + 1)]
      exact this
theorem nb_run5 {K : Int32 → nw_ST → Prop} {S : nb_S} {σ : nw_ST} {a b : Int32} (hO : nb_OK S) (hM : nb_MP S σ) (hk : ∀ s, nb_MP S s → nb_Ch nb_mS nb_mA σ s → K (nb_aRun S a b) s) : f5_run K σ a b := by
  unfold f5_run f5_run_28 f5_run_30 f5_runOf
  have h0 := hk σ hM nb_Ch.rf
  unfold nb_aRun at h0 hk
  refine ⟨fun z => ?_, fun z => ⟨fun z2 => ?_, fun z2 => ?_⟩⟩
  · rw [if_pos z] at h0; exact h0
  · rw [if_neg z, if_pos z2] at h0; exact h0
  · refine nb_laysTold hO hM (fun s hs hc hT => ?_)
    rw [if_neg z, if_neg z2] at hk
    obtain ⟨len, hl1, hl9, rfl⟩ := nb_in 1 9 (by decide) (by decide) z
    rw [nI_clamp (show len < 2 ^ 31 by omega)] at hk
    have hla : nb_la S ≤ 400 := nb_nu400 hO (nb_ct_le _ _)
    refine pk_loop (fun m n u => f5_runOf_6 (fun r s => K r s) m u (nI len) b (nI n)) (fun n u => nb_Ch [] [54] s u ∧ ∀ k, k < n → nw_gA u 54 k = 0) 401 0 s (by decide) ⟨nb_Ch.rf, fun k hk => absurd hk (Nat.not_lt_zero k)⟩ ?_ ?_
    · rintro m u ⟨cu, vu⟩
      show b5_runOf_6 _ _ u (nI len) b (nI 401)
      unfold b5_runOf_6
      refine ⟨fun _ => ?_, fun w => absurd (by decide) w⟩
      refine pk_loop (fun m t u => f5_runOf_28 (fun r s => K r s) m u (nI len) b (nI t)) (fun t u => nb_Ch [] [54] s u ∧ ∀ n, 1 ≤ n → n ≤ 400 → nw_gA u 54 n = if nb_fst (fun t => decide (nb_at (nb_VS S) t = n ∧ 1 ≤ n)) t < t then 1 else 0) 240 0 u (by decide) ⟨cu, fun n h1 h2 => by rw [if_neg (Nat.not_lt_zero _)]; exact vu n (by omega)⟩ ?_ ?_
      · clear cu vu u m
        rintro m u ⟨cu, vu⟩
        show b5_runOf_28 _ _ u (nI len) b (nI 240)
        unfold b5_runOf_28
        refine ⟨fun _ => ?_, fun w => absurd (by decide) w⟩
        have hR : nb_RT1 u (S.2.1 1) (S.1 1) := hT.1.2.ch cu (by decide) (by intro w hw; rcases (show w = 0 ∨ w = 1 ∨ w = 2 by omega) with rfl | rfl | rfl <;> decide)
        have hL : nw_gS u 37 26 = nI (nb_la S) := (cu.1 37 26 (by decide)).trans hT.2.2.1.2.2
        have hk := hk u (hs.ch cu (by decide +kernel) (by decide +kernel)) (hc.tr (cu.up (by simp) (by decide +kernel)))
        refine pk_loop (fun m i v => f5_runOf_61 (fun r s => K r s) m v (nI len) b (nb_ru S len i).1 (nb_ru S len i).2 (nI (i + 1))) (fun i v => v = u) (nb_la S + 1 - len) 0 u (Nat.zero_le _) rfl ?_ ?_
        · rintro m v rfl
          show b5_runOf_61 _ _ v (nI len) b _ _ (nI (nb_la S + 1 - len + 1))
          unfold b5_runOf_61 f5_runOf_167
          rw [hL, nI_add, show (1 : Int32) = nI 1 from rfl, pk_sub (by omega)]
          exact ⟨fun _ => hk, fun w => absurd (nI_lt (show nb_la S < nb_la S + 1 - len + 1 + len - 1 by omega) (by omega)) w⟩
        · rintro m i v hi rfl ih
          show b5_runOf_61 _ _ v (nI len) b _ _ (nI (i + 1))
          unfold b5_runOf_61
          rw [hL, nI_add, show nI (i + 1 + len) - 1 = nI (i + 1 + len - 1) from pk_sub (b := 1) (by omega)]
          refine ⟨fun w => absurd w (nI_nlt (show i + 1 + len - 1 ≤ nb_la S by omega) (by omega)), fun _ => ?_⟩
          refine pk_loop (fun n k w => f5_runOf_81 (fun r s => K r s) (f5_runOf_61 (fun r s => K r s) m) n w (nI len) b (nb_ru S len i).1 (nb_ru S len i).2 (nI (i + 1)) (nI (nb_rs S (i + 1) k)) (nI (i + 1 + k))) (fun k w => w = v) len 0 v (Nat.zero_le _) rfl ?_ ?_
          · rintro n w rfl
            show b5_runOf_81 _ _ _ w (nI len) b _ _ (nI (i + 1)) _ (nI (i + 1 + len))
            unfold b5_runOf_81 f5_runOf_134 f5_runOf_149
            rw [nI_add]
            refine ⟨fun _ => ?_, fun q => absurd (nI_le (Nat.le_refl _) (by omega)) q⟩
            have := ih w rfl
            unfold nb_ru at this
            rw [nI_1 (i + 1)]
            exact this
          · rintro n k w hk9 rfl ih2
            show b5_runOf_81 _ _ _ w (nI len) b _ _ (nI (i + 1)) _ (nI (i + 1 + k))
            unfold b5_runOf_81 f5_runOf_112
            rw [nI_add, nI_clamp (show i + 1 + k < 2 ^ 31 by omega), vu _ (by omega) (by omega), nI_1 (i + 1 + k)]
            have := ih2 w rfl
            have e : nb_rs S (i + 1) (k + 1) = nb_rs S (i + 1) k + nb_dv S (i + 1 + k) := rfl
            rw [e] at this
            unfold nb_dv nb_wh at this
            refine ⟨fun q => absurd q (nI_ge (by omega) (by omega)), fun _ => ⟨vp_in_nI (by omega) (by decide), fun q => ?_, fun q => ?_⟩⟩
            · by_cases y : nb_fst (fun t => decide (nb_at (nb_VS S) t = i + 1 + k ∧ 1 ≤ i + 1 + k)) 240 < 240
              · rw [if_pos y] at q; exact absurd q (by decide)
              · rw [if_neg y] at this; rw [show (0 : Int32) = nI 0 from rfl, nI_add]; exact this
            · by_cases y : nb_fst (fun t => decide (nb_at (nb_VS S) t = i + 1 + k ∧ 1 ≤ i + 1 + k)) 240 < 240
              · rw [if_pos y] at this
                refine nb_bringsNow hO hR (by omega) ?_
                rw [nI_add]; exact this
              · rw [if_neg y] at q; exact absurd rfl q
      · clear cu vu u m
        rintro m t u ht ⟨cu, vu⟩ ih
        show b5_runOf_28 _ _ u (nI len) b (nI t)
        unfold b5_runOf_28
        have h53 : nw_gA u 53 t = nI (nb_at (nb_VS S) t) := ((cu.2 53 (by decide)).1 t).trans (hT.2.2.1.1 t ht).2.2
        have hat := nb_at400 hO ht
        rw [nI_clamp (show t < 2 ^ 31 by omega), h53, nI_clamp (show nb_at (nb_VS S) t < 2 ^ 31 by omega), nI_1 t]
        have cB : ∀ v, nb_Ch [] [54] s (nw_sA u 54 (nb_at (nb_VS S) t) v) := fun v => cu.sA _ _ (by simp)
        refine ⟨fun w => absurd w (nI_ge (b := 240) ht (by decide)), fun _ => ⟨vp_in_nI ht (by decide), vp_in_nI (by omega) (by decide), ih _ ⟨cB _, fun n h1 h2 => ?_⟩⟩⟩
        rw [nb_gAsA, if_pos rfl]
        have hlt := nb_fst_lt (fun t => decide (nb_at (nb_VS S) t = n ∧ 1 ≤ n)) t
        by_cases e : n = nb_at (nb_VS S) t
        · rw [if_pos e, if_pos (hlt.mpr (Or.inr (decide_eq_true ⟨e.symm, h1⟩)))]
        · rw [if_neg e, vu n h1 h2]
          by_cases q : nb_fst (fun t => decide (nb_at (nb_VS S) t = n ∧ 1 ≤ n)) t < t
          · rw [if_pos q, if_pos (hlt.mpr (Or.inl q))]
          · rw [if_neg q, if_neg (fun w => (hlt.mp w).elim q (fun y => e (of_decide_eq_true y).1.symm))]
    · rintro m n u hn ⟨cu, vu⟩ ih
      show b5_runOf_6 _ _ u (nI len) b (nI n)
      unfold b5_runOf_6
      rw [nI_clamp (show n < 2 ^ 31 by omega), nI_1 n]
      have cB : ∀ v, nb_Ch [] [54] s (nw_sA u 54 n v) := fun v => cu.sA _ _ (by simp)
      refine ⟨fun w => absurd w (nI_ge (b := 401) hn (by decide)), fun _ => ⟨vp_in_nI hn (by decide), ih _ ⟨cB _, fun k hk => ?_⟩⟩⟩
      rw [nb_gAsA, if_pos rfl]
      by_cases e : k = n
      · rw [if_pos e]
      · rw [if_neg e]; exact vu k (by omega)
theorem nb_step20 : nl_S20 nb_Inv := by
  intro σ ⟨S, hO, hC, hM⟩ a b
  refine nb_run4 hO hC (fun s1 h1 c1 => ?_)
  show f5_run _ s1 a b
  exact nb_run5 hO (hM.other c1) (fun s2 h2 c2 => ⟨rfl, S, hO, h1.other c2, h2⟩)
