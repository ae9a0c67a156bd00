/-! ===== voids: the reference ===== -/
theorem nb_VWB {V : nb_V} (hB : nb_VB V) (h8 : nb_nw V ≤ 8) {t : Nat} (h1 : t ≤ 1000) : nb_VB (nb_VW V t) := by
  refine ⟨hB.1, hB.2.1, hB.2.2.1, ⟨?_, fun i hi => ?_⟩, hB.2.2.2.2⟩
  · show nb_nw V + 1 ≤ 9; omega
  · have hi : i < nb_nw V + 1 := hi
    show (if i = nb_nw V then t else nb_wa V i) ≤ 1000
    by_cases e : i = nb_nw V
    · rw [if_pos e]; exact h1
    · rw [if_neg e]; exact hB.2.2.2.1.2 i (by omega)
theorem nb_fnd_ref {F : Nat → Bool} {v : Nat → Int32} {x : Int32} {i : Nat} : (if (if F i then (1 : Int32) else 0) = 0 then nb_fnd F v x i else if nI (nb_cnt F i) = x then v i else nb_fnd F v x i) = nb_fnd F v x (i + 1) := by
  rw [nb_fndS]
  by_cases q : F i = true
  · rw [if_pos q, if_neg (show ¬ (1 : Int32) = 0 by decide)]
    by_cases y : nI (nb_cnt F i) = x
    · rw [if_pos y, if_pos ⟨q, y⟩]
    · rw [if_neg y, if_neg (fun w => y w.2)]
  · rw [if_neg q, if_pos rfl, if_neg (fun w => q w.1)]
theorem nb_cnt_ref {F : Nat → Bool} {i : Nat} : nI (nb_cnt F i) + (if (if F i then (1 : Int32) else 0) = 0 then (0 : Int32) else 1) = nI (nb_cnt F (i + 1)) := by
  rw [nb_cntS]
  by_cases q : F i = true
  · rw [if_pos q, if_neg (show ¬ (1 : Int32) = 0 by decide), nI_1, if_pos q]
  · rw [if_neg q, if_pos rfl, if_neg q, Int32.add_zero, Nat.add_zero]
theorem nb_voids5 {K : Int32 → nw_ST → Prop} {S : nb_S} {σ : nw_ST} {a : Int32} (hO : nb_OK S) (hM : nb_MP S σ) (hk : ∀ s, nb_MP S s → nb_Ch nb_mS nb_mA σ s → K (nb_aVoids S a) s) : f5_voids K σ a := by
  unfold f5_voids f5_voids_21 f5_voidsOf
  have h0 := hk σ hM nb_Ch.rf
  unfold nb_aVoids at h0 hk
  refine ⟨fun z => ?_, fun z => ?_⟩
  · rw [if_pos z] at h0; exact h0
  · rw [if_neg z] at hk
    clear h0
    refine nb_reads hO hM (fun s1 m1 c1 r1 => ?_)
    refine nb_asTold m1 r1 (fun s2 m2 c2 r2 l2 t2 => ?_)
    have h4 := hO.2.2.2.1
    have hB := nb_VSB hO
    have g14 : nw_gS s2 37 14 = nI (S.1 4) := m2.2.2.2.1.1
    have cc : nb_Ch nb_mS nb_mA σ s2 := (nb_rCh c1).tr (c2.up (by decide +kernel) (by decide +kernel))
    rw [g14, nI_1]
    have hI : ∀ u, nb_Ch [(37, 23), (37, 25), (37, 26)] [48, 51, 52, 53] s2 u → (∀ i, i < S.1 4 → nw_gA u 48 i = nw_gA s2 48 i) → nb_MP S u :=
      fun u hu h48 => m2.pre hu (by decide) (by decide) (fun i _ => ⟨(hu.2 46 (by decide)).1 i, (hu.2 47 (by decide)).1 i⟩) h48 (fun i _ => ⟨(hu.2 49 (by decide)).1 i, (hu.2 50 (by decide)).1 i⟩)
    unfold nb_ith at hk
    generalize h1 : nb_fnd (nb_fW S) nI a 240 = fa at hk
    generalize h2 : nb_cnt (nb_fW S) 240 = ca at hk
    have i1 : nb_Ch [(37, 23), (37, 25), (37, 26)] [48, 51, 52, 53] s2 (nw_sS s2 37 23 (nI (S.1 4 + 1))) := nb_Ch.rf.sS _ (by decide)
    have i2 : ∀ i, i < S.1 4 → nw_gA (nw_sS s2 37 23 (nI (S.1 4 + 1))) 48 i = nw_gA s2 48 i := fun i hi => rfl
    have i3 : nw_gS (nw_sS s2 37 23 (nI (S.1 4 + 1))) 37 23 = nI (S.1 4 + 1) := by rw [nb_gSsS, if_pos rfl, if_pos rfl]
    generalize nw_sS s2 37 23 (nI (S.1 4 + 1)) = s4 at i1 i2 i3 ⊢
    refine pk_loop (fun n i u => f5_voidsOf_25 (fun r s => K r s) n u a (nI (nb_cnt (nb_fW S) i)) (nb_fnd (nb_fW S) nI a i) (nI i)) (fun i u => nb_Ch [(37, 23), (37, 25), (37, 26)] [48, 51, 52, 53] s2 u ∧ (∀ i, i < S.1 4 → nw_gA u 48 i = nw_gA s2 48 i) ∧ nw_gS u 37 23 = nI (S.1 4 + 1)) 240 0 s4 (by decide) ⟨i1, i2, i3⟩ ?_ ?_
    · rintro n u ⟨cu, h48, -⟩
      show b5_voidsOf_25 _ _ u a (nI (nb_cnt (nb_fW S) 240)) (nb_fnd (nb_fW S) nI a 240) (nI 240)
      rw [h1, h2]
      unfold b5_voidsOf_25 f5_voidsOf_96
      exact ⟨fun _ => hk u (hI u cu h48) (cc.tr (cu.up (by decide +kernel) (by decide +kernel))), fun w => absurd (by decide) w⟩
    · rintro n i u hi ⟨cu, h48, h23⟩ ih
      show b5_voidsOf_25 _ _ u a (nI (nb_cnt (nb_fW S) i)) (nb_fnd (nb_fW S) nI a i) (nI i)
      unfold b5_voidsOf_25 f5_voidsOf_66 f5_voidsOf_78
      have mu := hI u cu h48
      rw [mu.2.2.2.1.1, nI_clamp (show S.1 4 < 2 ^ 31 by omega)]
      refine ⟨fun w => absurd w (nI_ge (b := 240) (by omega) (by decide)), fun _ => ⟨vp_in_nI (by omega) (by decide), ?_⟩⟩
      have cv : nb_Ch [(37, 23), (37, 25), (37, 26)] [48, 51, 52, 53] s2 (nw_sA u 48 (S.1 4) (nI i)) := cu.sA _ _ (by decide)
      have h48v : ∀ r, r < S.1 4 → nw_gA (nw_sA u 48 (S.1 4) (nI i)) 48 r = nw_gA s2 48 r := by
        intro r hr
        rw [nb_gAsA, if_pos rfl, if_neg (by omega)]
        exact h48 r hr
      have h48n : nw_gA (nw_sA u 48 (S.1 4) (nI i)) 48 (S.1 4) = nI i := by rw [nb_gAsA, if_pos rfl, if_pos rfl]
      have h23v : nw_gS (nw_sA u 48 (S.1 4) (nI i)) 37 23 = nI (S.1 4 + 1) := h23
      generalize nw_sA u 48 (S.1 4) (nI i) = v at cv h48v h48n h23v ⊢
      have lv : nb_LV (nb_VW (nb_VS S) i) v := by
        obtain ⟨⟨a1, a2⟩, b1, ⟨-, d2⟩, e1, g2⟩ := l2
        refine ⟨⟨(cv.1 37 2 (by decide)).trans a1, fun r hr => ⟨((cv.2 40 (by decide)).1 r).trans (a2 r hr).1, ((cv.2 41 (by decide)).1 r).trans (a2 r hr).2.1, ((cv.2 42 (by decide)).1 r).trans (a2 r hr).2.2⟩⟩, (cv.1 37 10 (by decide)).trans b1, ⟨h23v, fun r hr => ?_⟩, (cv.1 37 22 (by decide)).trans e1, fun r hr => ⟨((cv.2 46 (by decide)).1 r).trans (g2 r hr).1, ((cv.2 47 (by decide)).1 r).trans (g2 r hr).2⟩⟩
        have hr : r < S.1 4 + 1 := hr
        show _ = nI (if r = S.1 4 then i else S.2.1 4 r)
        by_cases e : r = S.1 4
        · rw [if_pos e, e]; exact h48n
        · rw [if_neg e]
          exact (h48v r (by omega)).trans (d2 r (by show r < S.1 4; omega))
      refine nb_isHeard hO (hI v cv h48v) (nb_VWB hB h4.1 (by omega)) lv (fun w hv => ?_)
      have := ih w ⟨cv.tr (hv.up (by decide) (by decide)), fun r hr => ((hv.2 48 (by decide)).1 r).trans (h48v r hr), (hv.1 37 23 (by decide)).trans h23v⟩
      rw [← nb_cnt_ref, ← nb_fnd_ref] at this
      rw [nI_1 i]
      exact this
theorem nb_step26 : nl_S26 nb_Inv := by
  intro σ ⟨S, hO, hC, hM⟩ a
  refine nb_voids4 hO hC (fun s1 h1 c1 => ?_)
  show f5_voids _ s1 a
  exact nb_voids5 hO (hM.other c1) (fun s2 h2 c2 => ⟨rfl, S, hO, h1.other c2, h2⟩)
