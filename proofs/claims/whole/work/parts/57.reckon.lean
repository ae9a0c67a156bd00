/-! ===== the class reckons the waves ===== -/
theorem nb_cr4 {p f t : Nat} (hp : 1 ≤ p) (hp2 : p < 2 ^ 31) (hf : f < 2 ^ 31) (ht : t < 2 ^ 31) : o4_isCrest (nI t) (nI f) (nI p) ∧ v4_isCrest (nI t) (nI f) (nI p) = if nb_crest p f t then 1 else 0 := by
  unfold o4_isCrest v4_isCrest nb_crest
  refine ⟨⟨fun _ => trivial, fun _ => ⟨fun _ => trivial, fun _ => nI_ne0 (by omega) hp2⟩⟩, ?_⟩
  rw [if_neg (nI_nle (by omega) hp2)]
  by_cases h : f ≤ t
  · rw [if_neg (nI_nlt h ht), pk_sub h, nb_remN (by omega) (by omega) hp2]
    by_cases hm : (t - f) % p = 0
    · rw [hm, if_pos (by decide), if_pos (by simp [h, hm])]
    · have hlt : (t - f) % p < p := Nat.mod_lt _ (by omega)
      rw [if_neg (nI_ne0 (by omega) (by omega)), if_neg (by simp [hm])]
  · rw [if_pos (nI_lt (by omega) hf), if_neg (by simp [h])]
theorem nb_bk4 {h d : Nat} (hh : h < 2 ^ 31) (hd : d < 2 ^ 31) : v4_breaksAt (nI h) (nI d) = if nb_bk d h then 1 else 0 := by
  unfold v4_breaksAt nb_bk
  by_cases h0 : h = 0
  · rw [h0, if_pos (by decide), if_neg (by simp)]
  · rw [if_neg (show ¬ nI h < 1 from nI_nlt (b := 1) (by omega) hh)]
    by_cases h3 : h < d
    · rw [if_pos (nI_lt h3 hd), if_neg (by simp; omega)]
    · rw [if_neg (nI_nlt (by omega) hh), if_pos (by simp; omega)]
theorem nb_rh {K : nw_ST → Prop} {S : nb_S} {σ : nw_ST} (hO : nb_OK S) (hT : nb_Tx σ 1 0 (S.2.1 0) (S.1 0)) (hk : ∀ s, nb_Ch [] [20, 21] σ s → (∀ t, t < 240 → nw_gA s 20 t = nI (nb_hi (nb_VS S) t) ∧ nw_gA s 21 t = nI (nb_cn (nb_VS S) t)) → K s) : f3_reckonHeights K σ 1 := by
  unfold f3_reckonHeights
  refine nb_fill (L := 240) rfl (by decide) (fun s1 c1 v1 => ?_)
  refine nb_fill (L := 240) rfl (by decide) (fun s2 c2 v2 => ?_)
  have c3 : nb_Ch [] [20, 21] σ s2 := (c1.up (by simp) (by simp)).tr (c2.up (by simp) (by simp))
  have v3 : ∀ t, t < 240 → nw_gA s2 20 t = 0 := fun t ht => ((c2.2 20 (by decide)).1 t).trans (v1 t ht)
  clear c1 c2 v1
  have hen := nb_en0 S hO
  generalize hV : nb_VS S = V at hk
  have hns : nb_ns V = nb_en 0 (S.2.1 0) (S.1 0) := by rw [← hV]; rfl
  have hTx : ∀ s, nb_Ch [] [20, 21] σ s → nb_Tx s 1 0 (S.2.1 0) (S.1 0) := fun s hc => hT.keep (fun k _ _ => hc.1 1 k (by simp)) ((hc.2 2 (by decide)).1) ((hc.2 3 (by decide)).1)
  refine pk_loop (fun m i s => f3_reckonHeights_18 K m s 1 (nI i)) (fun i s => nb_Ch [] [20, 21] σ s ∧ ∀ t, t < 240 → nw_gA s 20 t = nI (nb_sum (fun i => if nb_crest (nb_pe V i) (nb_fr V i) t then nb_ht V i else 0) i) ∧ nw_gA s 21 t = nI (nb_sum (fun i => if nb_crest (nb_pe V i) (nb_fr V i) t then 1 else 0) i)) (nb_ns V) 0 s2 (Nat.zero_le _) ⟨c3, fun t ht => ⟨v3 t ht, v2 t ht⟩⟩ ?_ ?_
  · rintro m s ⟨hc, hv⟩
    show b3_reckonHeights_18 K _ s 1 (nI (nb_ns V))
    unfold b3_reckonHeights_18
    rw [(hTx s hc).2.2.2.1, ← hns]
    exact ⟨fun _ => hk s hc hv, fun w => absurd (nI_le (Nat.le_refl _) (by omega)) w⟩
  · rintro m i s hi ⟨hc, hv⟩ ih
    show b3_reckonHeights_18 K _ s 1 (nI i)
    unfold b3_reckonHeights_18
    rw [(hTx s hc).2.2.2.1, ← hns]
    refine ⟨fun w => absurd w (nI_ge hi (by omega)), fun _ => ?_⟩
    have hb := nb_ptB0 (show i < nb_en 0 (S.2.1 0) (S.1 0) by omega)
    have ep : nb_pe V i = nb_pt 0 (S.2.1 0) i 1 := by rw [← hV]; rfl
    have ef : nb_fr V i = nb_pt 0 (S.2.1 0) i 2 := by rw [← hV]; rfl
    have eh : nb_ht V i = nb_pt 0 (S.2.1 0) i 0 := by rw [← hV]; rfl
    refine pk_loop (fun k t u => f3_reckonHeights_28 K (f3_reckonHeights_18 K m) k u 1 (nI i) (nI t)) (fun t u => nb_Ch [] [20, 21] σ u ∧ ∀ r, r < 240 → nw_gA u 20 r = nI (nb_sum (fun i => if nb_crest (nb_pe V i) (nb_fr V i) r then nb_ht V i else 0) (if r < t then i + 1 else i)) ∧ nw_gA u 21 r = nI (nb_sum (fun i => if nb_crest (nb_pe V i) (nb_fr V i) r then 1 else 0) (if r < t then i + 1 else i))) 240 0 s (by decide) ⟨hc, fun r hr => by rw [if_neg (Nat.not_lt_zero r)]; exact hv r hr⟩ ?_ ?_
    · rintro k u ⟨hcu, hvu⟩
      show b3_reckonHeights_28 K (f3_reckonHeights_18 K m) _ u 1 (nI i) (nI 240)
      unfold b3_reckonHeights_28
      refine ⟨fun _ => ?_, fun w => absurd (by decide) w⟩
      rw [nI_1]
      exact ih u ⟨hcu, fun t ht => by have := hvu t ht; rw [if_pos ht] at this; exact this⟩
    · rintro k t u ht ⟨hcu, hvu⟩ ih2
      show b3_reckonHeights_28 K (f3_reckonHeights_18 K m) _ u 1 (nI i) (nI t)
      have tx := hTx u hcu
      have x := tx.2.2.2.2 i (by omega)
      have hpo : ∀ w, w < 3 → o2_part u 1 (nI i) (nI w) ∧ v2_part u 1 (nI i) (nI w) = nI (nb_pt 0 (S.2.1 0) i w) := by
        intro w hw
        unfold o2_part v2_part
        rw [nb_three, nI_clamp (show 3 * i + w < 2 ^ 31 by omega), show nw_rf 1 3 = 3 from rfl, show nw_len 3 = 18 from rfl]
        exact ⟨vp_in_nI (by omega) (by decide), x w hw⟩
      have p0 := hpo 0 (by decide)
      have p1 := hpo 1 (by decide)
      have p2 := hpo 2 (by decide)
      rw [show nI 0 = (0 : Int32) from rfl] at p0
      rw [show nI 1 = (1 : Int32) from rfl] at p1
      rw [show nI 2 = (2 : Int32) from rfl] at p2
      unfold b3_reckonHeights_28 f3_reckonHeights_79
      rw [p0.2, p1.2, p2.2, ← ep, ← ef, ← eh]
      obtain ⟨oc, vc⟩ := nb_cr4 (p := nb_pe V i) (f := nb_fr V i) (t := t) (by omega) (by omega) (by omega) (by omega)
      rw [vc, nI_clamp (show t < 2 ^ 31 by omega), nI_1 t]
      have old := hvu t ht
      rw [if_neg (Nat.lt_irrefl t)] at old
      rw [old.1]
      have cA : ∀ v w, nb_Ch [] [20, 21] σ (nw_sA (nw_sA u 20 t v) 21 t w) := fun v w => (hcu.sA _ _ (by simp)).sA _ _ (by simp)
      have keep : ∀ r, r ≠ t → (if r < t + 1 then i + 1 else i) = if r < t then i + 1 else i := by
        intro r hr
        by_cases h : r < t
        · rw [if_pos h, if_pos (by omega)]
        · rw [if_neg h, if_neg (by omega)]
      refine ⟨fun w => absurd w (nI_ge (b := 240) ht (by decide)), fun _ => ⟨p2.1, p1.1, oc, fun z => ih2 u ⟨hcu, fun r hr => ?_⟩, fun z => ⟨vp_in_nI ht (by decide), p0.1, vp_in_nI ht (by decide), vp_in_nI ht (by decide), vp_in_nI ht (by decide), ih2 _ ⟨cA _ _, fun r hr => ?_⟩⟩⟩⟩
      · by_cases e : r = t
        · subst e
          have hn : nb_crest (nb_pe V i) (nb_fr V i) r = false := by
            cases h : nb_crest (nb_pe V i) (nb_fr V i) r
            · rfl
            · rw [h] at z; exact absurd z (by decide)
          rw [if_pos (Nat.lt_succ_self r)]
          refine ⟨old.1.trans ?_, old.2.trans ?_⟩
          · show _ = nI (_ + (if nb_crest (nb_pe V i) (nb_fr V i) r then nb_ht V i else 0))
            rw [hn]; rfl
          · show _ = nI (_ + (if nb_crest (nb_pe V i) (nb_fr V i) r then 1 else 0))
            rw [hn]; rfl
        · rw [keep r e]; exact hvu r hr
      · by_cases e : r = t
        · subst e
          have hn : nb_crest (nb_pe V i) (nb_fr V i) r = true := by
            cases h : nb_crest (nb_pe V i) (nb_fr V i) r
            · rw [h] at z; exact absurd rfl z
            · rfl
          rw [if_pos (Nat.lt_succ_self r)]
          simp only [nb_gAsA, if_true, show (20 : Nat) ≠ 21 by decide, show (21 : Nat) ≠ 20 by decide, if_false]
          refine ⟨?_, ?_⟩
          · show _ = nI (_ + (if nb_crest (nb_pe V i) (nb_fr V i) r then nb_ht V i else 0))
            rw [hn, nI_add]; rfl
          · show _ = nI (_ + (if nb_crest (nb_pe V i) (nb_fr V i) r then 1 else 0))
            rw [hn, old.2, nI_1]; rfl
        · rw [keep r e]
          have := hvu r hr
          simp [nb_gAsA, e, this]
theorem nb_rn {K : nw_ST → Prop} {S : nb_S} {σ : nw_ST} (hO : nb_OK S) (hP : nb_Pr σ 7 (S.1 3) (S.2.1 2) (S.2.1 3)) (hk : ∀ s, nb_Ch [] [24] σ s → (∀ k, k ≤ 240 → nw_gA s 24 k = nI (nb_nu (nb_VS S) k)) → K s) : f3_reckonNumbers K σ 7 := by
  have hPr : ∀ s, nb_Ch [] [24] σ s → nb_Pr s 7 (S.1 3) (S.2.1 2) (S.2.1 3) := fun s hc => hP.keep (hc.1 7 2 (by simp)) ((hc.2 8 (by decide)).1) ((hc.2 9 (by decide)).1)
  have hb := hO.2.2.1
  unfold f3_reckonNumbers
  refine pk_loop (fun m k s => f3_reckonNumbers_2 K m s 7 (nI k)) (fun k s => nb_Ch [] [24] σ s ∧ ∀ j, j < k → nw_gA s 24 j = nI j) 241 0 σ (by decide) ⟨nb_Ch.rf, fun j hj => absurd hj (Nat.not_lt_zero j)⟩ ?_ ?_
  · rintro m s ⟨hc, hv⟩
    show b3_reckonNumbers_2 K _ s 7 (nI 241)
    unfold b3_reckonNumbers_2
    refine ⟨fun _ => ?_, fun w => absurd (by decide) w⟩
    refine pk_loop (fun m i s => f3_reckonNumbers_24 K m s 7 (nI i)) (fun i s => nb_Ch [] [24] σ s ∧ ∀ k, k ≤ 240 → nw_gA s 24 k = nI (k + nb_sum (fun i => if S.2.1 2 i ≤ k then S.2.1 3 i else 0) i)) (S.1 3) 0 s (Nat.zero_le _) ⟨hc, fun k hk => hv k (by omega)⟩ ?_ ?_
    · rintro m s ⟨hc, hv⟩
      show b3_reckonNumbers_24 K _ s 7 (nI (S.1 3))
      unfold b3_reckonNumbers_24
      rw [(hPr s hc).1]
      exact ⟨fun _ => hk s hc hv, fun w => absurd (nI_le (Nat.le_refl _) (by omega)) w⟩
    · rintro m i s hi ⟨hc, hv⟩ ih
      show b3_reckonNumbers_24 K _ s 7 (nI i)
      unfold b3_reckonNumbers_24
      have hpi := (hPr s hc).2 i hi
      have hbi := hb.2 i hi
      rw [(hPr s hc).1, nI_clamp (show i < 2 ^ 31 by omega), show nw_rf 7 0 = 8 from rfl, show nw_len 8 = 12 from rfl, hpi.1]
      refine ⟨fun w => absurd w (nI_ge hi (by omega)), fun _ => ⟨vp_in_nI (by omega) (by decide), ?_⟩⟩
      refine pk_loop (fun n k u => f3_reckonNumbers_39 K (f3_reckonNumbers_24 K m) n u 7 (nI i) (nI k)) (fun k u => nb_Ch [] [24] σ u ∧ S.2.1 2 i ≤ k ∧ ∀ j, j ≤ 240 → nw_gA u 24 j = nI (j + (nb_sum (fun i => if S.2.1 2 i ≤ j then S.2.1 3 i else 0) i + if S.2.1 2 i ≤ j ∧ j < k then S.2.1 3 i else 0))) 241 (S.2.1 2 i) s (by omega) ⟨hc, Nat.le_refl _, fun j hj => by rw [if_neg (by omega)]; exact hv j hj⟩ ?_ ?_
      · rintro n u ⟨hcu, hlk, hvu⟩
        show b3_reckonNumbers_39 K (f3_reckonNumbers_24 K m) _ u 7 (nI i) (nI 241)
        unfold b3_reckonNumbers_39
        refine ⟨fun _ => ?_, fun w => absurd (by decide) w⟩
        rw [nI_1]
        refine ih u ⟨hcu, fun j hj => ?_⟩
        rw [hvu j hj]
        show nI (j + _) = nI (j + (_ + (if S.2.1 2 i ≤ j then S.2.1 3 i else 0)))
        by_cases h : S.2.1 2 i ≤ j
        · rw [if_pos h, if_pos ⟨h, by omega⟩]
        · rw [if_neg h, if_neg (fun z => h z.1)]
      · rintro n k u hk9 ⟨hcu, hlk, hvu⟩ ih2
        show b3_reckonNumbers_39 K (f3_reckonNumbers_24 K m) _ u 7 (nI i) (nI k)
        unfold b3_reckonNumbers_39
        have hpu := (hPr u hcu).2 i hi
        have cB : ∀ v, nb_Ch [] [24] σ (nw_sA u 24 k v) := fun v => hcu.sA _ _ (by simp)
        rw [nI_clamp (show k < 2 ^ 31 by omega), nI_clamp (show i < 2 ^ 31 by omega), show nw_rf 7 1 = 9 from rfl, show nw_len 9 = 12 from rfl, hpu.2, hvu k (by omega), nI_add, nI_1 k]
        refine ⟨fun w => absurd ((nI_ltI (a := 240) (by decide) (by omega)).mp w) (by omega), fun _ => ⟨vp_in_nI (by omega) (by decide), vp_in_nI (by omega) (by decide), vp_in_nI (by omega) (by decide), ih2 _ ⟨cB _, by omega, fun j hj => ?_⟩⟩⟩
        rw [nb_gAsA, if_pos rfl]
        by_cases e : j = k
        · subst e
          rw [if_pos rfl, if_neg (by omega), if_pos ⟨hlk, by omega⟩]
          congr 1; omega
        · rw [if_neg e, hvu j hj]
          by_cases h : S.2.1 2 i ≤ j ∧ j < k
          · rw [if_pos h, if_pos ⟨h.1, by omega⟩]
          · rw [if_neg h, if_neg (by omega)]
  · rintro m k s hk9 ⟨hc, hv⟩ ih
    show b3_reckonNumbers_2 K _ s 7 (nI k)
    unfold b3_reckonNumbers_2
    have cB : ∀ v, nb_Ch [] [24] σ (nw_sA s 24 k v) := fun v => hc.sA _ _ (by simp)
    rw [nI_clamp (show k < 2 ^ 31 by omega), nI_1]
    refine ⟨fun w => absurd ((nI_ltI (a := 240) (by decide) (by omega)).mp w) (by omega), fun _ => ⟨vp_in_nI (by omega) (by decide), ih _ ⟨cB _, fun j hj => ?_⟩⟩⟩
    rw [nb_gAsA, if_pos rfl]
    by_cases e : j = k
    · rw [if_pos e, e]
    · rw [if_neg e]; exact hv j (by omega)
