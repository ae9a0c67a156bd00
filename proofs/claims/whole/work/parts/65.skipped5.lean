/-! ===== skipped: the reference ===== -/
theorem nb_MP.pre {S : nb_S} {σ s : nw_ST} {LS : List (Nat × Nat)} {L : List Nat} (h : nb_MP S σ) (hc : nb_Ch LS L σ s) (h1 : ∀ x ∈ nb_vS, x ∉ LS) (h2 : ∀ x ∈ [38, 39, 55, 56, 58, 59, 60, 61], x ∉ L)
    (h3 : ∀ i, i < S.1 3 → nw_gA s 46 i = nw_gA σ 46 i ∧ nw_gA s 47 i = nw_gA σ 47 i) (h4 : ∀ i, i < S.1 4 → nw_gA s 48 i = nw_gA σ 48 i) (h5 : ∀ i, i < S.1 5 → nw_gA s 49 i = nw_gA σ 49 i ∧ nw_gA s 50 i = nw_gA σ 50 i) : nb_MP S s :=
  h.keep (fun q k hq => hc.1 q k (h1 _ hq)) (fun q hq => (hc.2 q (h2 _ hq)).1) h3 h4 h5
theorem nb_skipped5 {K : Int32 → nw_ST → Prop} {S : nb_S} {σ : nw_ST} {a : Int32} (hO : nb_OK S) (hM : nb_MP S σ) (hk : ∀ s, nb_MP S s → nb_Ch nb_mS nb_mA σ s → K (nb_aSkipped S a) s) : f5_skipped K σ a := by
  unfold f5_skipped f5_skipped_20 f5_skippedOf
  have h0 := hk σ hM nb_Ch.rf
  unfold nb_aSkipped at h0 hk
  refine ⟨fun z => ?_, fun z => ?_⟩
  · rw [if_pos z] at h0; exact h0
  · rw [if_neg z] at hk
    clear h0
    obtain ⟨m, hm1, hm2, rfl⟩ := nb_in 1 11 (by decide) (by decide) z
    rw [nI_clamp (show m < 2 ^ 31 by omega)] at hk
    refine nb_reads hO hM (fun s1 m1 c1 r1 => ?_)
    refine nb_asTold m1 r1 (fun s2 m2 c2 r2 l2 t2 => ?_)
    have h3 := hO.2.2.1
    have hB := nb_VSB hO
    have g11 : nw_gS s2 37 11 = nI (S.1 3) := m2.2.2.1.1
    have cc : nb_Ch nb_mS nb_mA σ s2 := (nb_rCh c1).tr (c2.up (by decide +kernel) (by decide +kernel))
    have g12 : nw_gS (nw_sS s2 37 22 (nw_gS s2 37 11 + 1)) 37 11 = nI (S.1 3) := by rw [nb_gSsS, if_pos rfl, if_neg (by decide), g11]
    rw [g12, g11, nI_clamp (show S.1 3 < 2 ^ 31 by omega), nI_1]
    refine ⟨vp_in_nI (by omega) (by decide), ?_⟩
    have hI : ∀ u, nb_Ch [(37, 22), (37, 25), (37, 26)] [46, 47, 51, 52, 53] s2 u → (∀ i, i < S.1 3 → nw_gA u 46 i = nw_gA s2 46 i ∧ nw_gA u 47 i = nw_gA s2 47 i) → nb_MP S u :=
      fun u hu h46 => m2.pre hu (by decide) (by decide) h46 (fun i _ => (hu.2 48 (by decide)).1 i) (fun i _ => ⟨(hu.2 49 (by decide)).1 i, (hu.2 50 (by decide)).1 i⟩)
    generalize hT : nb_msk S m 31 = T at hk
    have i1 : nb_Ch [(37, 22), (37, 25), (37, 26)] [46, 47, 51, 52, 53] s2 (nw_sA (nw_sS s2 37 22 (nI (S.1 3 + 1))) 47 (S.1 3) (nI m)) := (nb_Ch.rf.sS _ (by decide)).sA _ _ (by decide)
    have i2 : ∀ i, i < S.1 3 → nw_gA (nw_sA (nw_sS s2 37 22 (nI (S.1 3 + 1))) 47 (S.1 3) (nI m)) 46 i = nw_gA s2 46 i ∧ nw_gA (nw_sA (nw_sS s2 37 22 (nI (S.1 3 + 1))) 47 (S.1 3) (nI m)) 47 i = nw_gA s2 47 i := by
      intro i hi
      rw [nb_gAsA, nb_gAsA, if_neg (by decide), if_pos rfl, if_neg (by omega)]
      exact ⟨rfl, rfl⟩
    have i3 : nw_gS (nw_sA (nw_sS s2 37 22 (nI (S.1 3 + 1))) 47 (S.1 3) (nI m)) 37 22 = nI (S.1 3 + 1) := by rw [nb_gSsA, nb_gSsS, if_pos rfl, if_pos rfl]
    have i4 : nw_gA (nw_sA (nw_sS s2 37 22 (nI (S.1 3 + 1))) 47 (S.1 3) (nI m)) 47 (S.1 3) = nI m := by rw [nb_gAsA, if_pos rfl, if_pos rfl]
    generalize nw_sA (nw_sS s2 37 22 (nI (S.1 3 + 1))) 47 (S.1 3) (nI m) = s4 at i1 i2 i3 i4 ⊢
    refine pk_loop (fun n i u => f5_skippedOf_32 (fun r s => K r s) n u (nb_msk S m i) (nI (i + 1))) (fun i u => nb_Ch [(37, 22), (37, 25), (37, 26)] [46, 47, 51, 52, 53] s2 u ∧ (∀ i, i < S.1 3 → nw_gA u 46 i = nw_gA s2 46 i ∧ nw_gA u 47 i = nw_gA s2 47 i) ∧ nw_gS u 37 22 = nI (S.1 3 + 1) ∧ nw_gA u 47 (S.1 3) = nI m) 31 0 s4 (by decide) ⟨i1, i2, i3, i4⟩ ?_ ?_
    · rintro n u ⟨cu, h46, -, -⟩
      show b5_skippedOf_32 _ _ u (nb_msk S m 31) (nI 32)
      rw [hT]
      unfold b5_skippedOf_32
      exact ⟨fun _ => hk u (hI u cu h46) (cc.tr (cu.up (by decide +kernel) (by decide +kernel))), fun w => absurd (by decide) w⟩
    · rintro n i u hi ⟨cu, h46, h22, h47⟩ ih
      show b5_skippedOf_32 _ _ u (nb_msk S m i) (nI (i + 1))
      unfold b5_skippedOf_32 f5_skippedOf_65
      have mu := hI u cu h46
      rw [mu.2.2.1.1, nI_clamp (show S.1 3 < 2 ^ 31 by omega)]
      refine ⟨fun w => absurd w (nI_ge (b := 32) (by omega) (by decide)), fun _ => ⟨vp_in_nI (by omega) (by decide), ?_⟩⟩
      have cv : nb_Ch [(37, 22), (37, 25), (37, 26)] [46, 47, 51, 52, 53] s2 (nw_sA u 46 (S.1 3) (nI (i + 1))) := cu.sA _ _ (by decide)
      have h46v : ∀ r, r < S.1 3 → nw_gA (nw_sA u 46 (S.1 3) (nI (i + 1))) 46 r = nw_gA s2 46 r ∧ nw_gA (nw_sA u 46 (S.1 3) (nI (i + 1))) 47 r = nw_gA s2 47 r := by
        intro r hr
        rw [nb_gAsA, nb_gAsA, if_pos rfl, if_neg (by omega), if_neg (by decide)]
        exact h46 r hr
      have h47v : nw_gA (nw_sA u 46 (S.1 3) (nI (i + 1))) 47 (S.1 3) = nI m := by rw [nb_gAsA, if_neg (by decide)]; exact h47
      have h46n : nw_gA (nw_sA u 46 (S.1 3) (nI (i + 1))) 46 (S.1 3) = nI (i + 1) := by rw [nb_gAsA, if_pos rfl, if_pos rfl]
      have h22v : nw_gS (nw_sA u 46 (S.1 3) (nI (i + 1))) 37 22 = nI (S.1 3 + 1) := h22
      generalize nw_sA u 46 (S.1 3) (nI (i + 1)) = v at cv h46v h47v h46n h22v ⊢
      have lv : nb_LV (nb_VX (nb_VS S) (i + 1) m) v := by
        obtain ⟨⟨a1, a2⟩, b1, ⟨d1, d2⟩, -, g2⟩ := l2
        refine ⟨⟨(cv.1 37 2 (by decide)).trans a1, fun r hr => ⟨((cv.2 40 (by decide)).1 r).trans (a2 r hr).1, ((cv.2 41 (by decide)).1 r).trans (a2 r hr).2.1, ((cv.2 42 (by decide)).1 r).trans (a2 r hr).2.2⟩⟩, (cv.1 37 10 (by decide)).trans b1, ⟨(cv.1 37 23 (by decide)).trans d1, fun r hr => ((cv.2 48 (by decide)).1 r).trans (d2 r hr)⟩, h22v, fun r hr => ?_⟩
        have hr : r < S.1 3 + 1 := hr
        show _ = nI (if r = S.1 3 then i + 1 else S.2.1 2 r) ∧ _ = nI (if r = S.1 3 then m else S.2.1 3 r)
        by_cases e : r = S.1 3
        · rw [if_pos e, if_pos e, e]
          exact ⟨h46n, h47v⟩
        · rw [if_neg e, if_neg e]
          have := h46v r (by omega)
          exact ⟨this.1.trans (g2 r (by show r < S.1 3; omega)).1, this.2.trans (g2 r (by show r < S.1 3; omega)).2⟩
      refine nb_isHeard hO (hI v cv h46v) (nb_VXB hB h3.1 (by omega) (by omega) (by omega)) lv (fun w hv => ?_)
      have := ih w ⟨cv.tr (hv.up (by decide) (by decide)), fun r hr => ⟨((hv.2 46 (by decide)).1 r).trans (h46v r hr).1, ((hv.2 47 (by decide)).1 r).trans (h46v r hr).2⟩, (hv.1 37 22 (by decide)).trans h22v, ((hv.2 47 (by decide)).1 _).trans h47v⟩
      rw [nb_mskS] at this
      rw [nI_1 (i + 1)]
      by_cases q : nb_hd (nb_VX (nb_VS S) (i + 1) m) S (S.1 6) = true
      · rw [if_pos q] at this ⊢; exact this
      · rw [if_neg q] at this ⊢
        rw [if_pos rfl]; exact this
theorem nb_step25 : nl_S25 nb_Inv := by
  intro σ ⟨S, hO, hC, hM⟩ a
  refine nb_skipped4 hO hC (fun s1 h1 c1 => ?_)
  show f5_skipped _ s1 a
  exact nb_skipped5 hO (hM.other c1) (fun s2 h2 c2 => ⟨rfl, S, hO, h1.other c2, h2⟩)
