/-! ===== back ===== -/
theorem nb_drop {K : Int32 → nw_ST → Prop} {σ : nw_ST} {q n : Nat} (hp : nw_gS σ q 2 = nI n) (hn : n < 2 ^ 31) (h0 : n = 0 → K 0 σ) (h1 : ∀ m, n = m + 1 → K 1 (nw_sS σ q 2 (nI m))) : f0_dropLast K σ q := by
  unfold f0_dropLast
  rw [hp]
  refine ⟨fun z => h0 ((nb_eq0 hn).mp z), fun z => ?_⟩
  have hz : n ≠ 0 := fun e => z ((nb_eq0 hn).mpr e)
  obtain ⟨m, rfl⟩ : ∃ m, n = m + 1 := ⟨n - 1, by omega⟩
  rw [nI_pred]
  exact h1 m rfl
theorem nb_sub0 (x : Int32) : x - 0 = x := by
  apply Int32.toBitVec_inj.mp
  simp
theorem nb_back0 {S : nb_S} {σ : nw_ST} (hO : nb_OK S) (hC : nb_C S σ) (hM : nb_MP S σ) : f4_back (fun (r1 : Int32) (s1 : nw_ST) => (f5_back (fun (r2 : Int32) (s2 : nw_ST) => r1 = r2 ∧ nb_Inv s2) s1 (nI 0))) σ (nI 0) := by
  have hInv : nb_Inv σ := ⟨S, hO, hC, hM⟩
  have hp := (nb_CP_iff.mp hC.1) 4 (by decide)
  have hb := hO.2.2.1.1
  unfold f4_back f4_back_38
  refine ⟨fun w => absurd w (by decide), fun _ => ?_⟩
  simp only [if_pos (show (nI 0 : Int32) = 0 from rfl), if_neg (by decide : ¬ (nI 0 : Int32) = 1), if_neg (by decide : ¬ (nI 0 : Int32) = 2)]
  refine nb_drop hp.1 (by omega) (fun e => ⟨fun _ => ?_, fun w => absurd rfl w⟩) (fun m e => ⟨fun w => absurd w (by decide), fun _ => ?_⟩)
  · have mz := ((nb_MP_iff.mp hM) 2 (by decide)).1
    unfold f5_back f5_back_39
    refine ⟨fun w => absurd w (by decide), fun _ => ?_⟩
    simp only [if_pos (show (nI 0 : Int32) = 0 from rfl), if_neg (by decide : ¬ (nI 0 : Int32) = 1), if_neg (by decide : ¬ (nI 0 : Int32) = 2)]
    exact ⟨fun _ => ⟨by trivial, hInv⟩, fun w => absurd (by rw [mz, e]; rfl) w⟩
  · have hch : nb_Ch [(7, 2), (0, 12)] [] σ (nw_sS (nw_sS σ 7 2 (nI m)) 0 12 0) := (nb_Ch.rf.sS _ (by decide)).sS _ (by decide)
    have hS : nb_SC [3] [] [] S (nb_setN S 3 m) := nb_SC.rf.sN _ (by decide)
    have hs : nb_CP (nb_setN S 3 m) (nw_sS (nw_sS σ 7 2 (nI m)) 0 12 0) := hC.1.upd 4 hch hS (by decide) (by
      have hp2 := hp
      simp only [nb_cc] at hp2
      rw [e] at hp2
      exact nb_Pr.less hp2 (by simp [nb_gSsS]; rfl) (fun _ => rfl) (fun _ => rfl))
    have hM2 := hM.other (hch.c (by decide +kernel) (by decide +kernel))
    have hC2 : nb_C (nb_setN S 3 m) (nw_sS (nw_sS σ 7 2 (nI m)) 0 12 0) := ⟨hs, Or.inl (by simp [nb_gSsS])⟩
    have hr : nw_gS (nw_sS (nw_sS σ 7 2 (nI m)) 0 12 0) 7 2 = nI m := by simp [nb_gSsS]
    rw [hr]
    generalize nw_sS (nw_sS σ 7 2 (nI m)) 0 12 0 = s at *
    have mz := (nb_MP_iff.mp hM2) 2 (by decide)
    have mz1 : nw_gS s 37 11 = nI (m + 1) := by rw [← e]; exact mz.1
    unfold f5_back f5_back_39 f5_back_61 f5_back_80 f5_back_99
    refine ⟨fun w => absurd w (by decide), fun _ => ?_⟩
    simp only [if_pos (show (nI 0 : Int32) = 0 from rfl), if_neg (by decide : ¬ (nI 0 : Int32) = 1), if_neg (by decide : ¬ (nI 0 : Int32) = 2)]
    rw [mz1]
    refine ⟨fun w => absurd ((nb_eq0 (by omega)).mp w) (by omega), fun _ => ?_⟩
    have hch3 : nb_Ch [(37, 11)] [] s (nw_sS (nw_sS (nw_sS s 37 11 (nw_gS s 37 11 - 1)) 37 14 (nw_gS s 37 14 - 0)) 37 16 (nw_gS s 37 16 - 0)) := by
      refine ⟨fun q k h => ?_, fun q _ => ⟨fun _ => rfl, fun _ => rfl⟩⟩
      simp only [nb_gSsS, nb_sub0]
      by_cases e1 : q = 37
      · subst e1
        by_cases e2 : k = 16
        · subst e2; first | exact absurd (by decide) h | simp
        · by_cases e3 : k = 14
          · subst e3; first | exact absurd (by decide) h | simp
          · by_cases e4 : k = 11
            · subst e4; first | exact absurd (by decide) h | simp
            · simp [e2, e3, e4]
      · simp [e1]
    have hfin : nw_gS (nw_sS (nw_sS (nw_sS s 37 11 (nw_gS s 37 11 - 1)) 37 14 (nw_gS s 37 14 - 0)) 37 16 (nw_gS s 37 16 - 0)) 37 11 = nI m := by
      simp only [nb_gSsS]; simp [mz1, nI_pred]
    simp only [nb_gSsS]
    simp only [if_true, show (14 : Nat) ≠ 11 by decide, show (16 : Nat) ≠ 11 by decide, show (16 : Nat) ≠ 14 by decide, if_false, mz1]
    rw [mz1] at hch3 hfin
    refine ⟨(nI_pred m).symm, nb_setN S 3 m, ?_, hC2.other (hch3.up (by decide +kernel) (by decide +kernel)), hM2.upd 2 hch3 hS (by decide) ⟨hfin, fun i hi => ?_⟩⟩
    · obtain ⟨o1, o2, o3, o4, o5, o6, o7, o8⟩ := hO
      exact ⟨o1, o2, ⟨by show m ≤ 12; omega, fun i hi => o3.2 i (by have : i < m := hi; omega)⟩, o4, o5, o6, o7, nb_OKs o8 (fun k hk => hS.1 k (by simp; omega))⟩
    · have hi' : i < m := hi
      exact mz.2 i (by show i < S.1 3; omega)
theorem nb_back1 {S : nb_S} {σ : nw_ST} (hO : nb_OK S) (hC : nb_C S σ) (hM : nb_MP S σ) : f4_back (fun (r1 : Int32) (s1 : nw_ST) => (f5_back (fun (r2 : Int32) (s2 : nw_ST) => r1 = r2 ∧ nb_Inv s2) s1 (nI 1))) σ (nI 1) := by
  have hInv : nb_Inv σ := ⟨S, hO, hC, hM⟩
  have hp := (nb_CP_iff.mp hC.1) 5 (by decide)
  have hb := hO.2.2.2.1.1
  unfold f4_back f4_back_38
  refine ⟨fun w => absurd w (by decide), fun _ => ?_⟩
  simp only [if_neg (by decide : ¬ (nI 1 : Int32) = 0), if_pos (show (nI 1 : Int32) = 1 from rfl), if_neg (by decide : ¬ (nI 1 : Int32) = 2)]
  refine nb_drop hp.1 (by omega) (fun e => ⟨fun _ => ?_, fun w => absurd rfl w⟩) (fun m e => ⟨fun w => absurd w (by decide), fun _ => ?_⟩)
  · have mz := ((nb_MP_iff.mp hM) 3 (by decide)).1
    unfold f5_back f5_back_39
    refine ⟨fun w => absurd w (by decide), fun _ => ?_⟩
    simp only [if_neg (by decide : ¬ (nI 1 : Int32) = 0), if_pos (show (nI 1 : Int32) = 1 from rfl), if_neg (by decide : ¬ (nI 1 : Int32) = 2)]
    exact ⟨fun _ => ⟨by trivial, hInv⟩, fun w => absurd (by rw [mz, e]; rfl) w⟩
  · have hch : nb_Ch [(10, 2), (0, 12)] [] σ (nw_sS (nw_sS σ 10 2 (nI m)) 0 12 0) := (nb_Ch.rf.sS _ (by decide)).sS _ (by decide)
    have hS : nb_SC [4] [] [] S (nb_setN S 4 m) := nb_SC.rf.sN _ (by decide)
    have hs : nb_CP (nb_setN S 4 m) (nw_sS (nw_sS σ 10 2 (nI m)) 0 12 0) := hC.1.upd 5 hch hS (by decide) (by
      have hp2 := hp
      simp only [nb_cc] at hp2
      rw [e] at hp2
      exact nb_Pr.less hp2 (by simp [nb_gSsS]; rfl) (fun _ => rfl) (fun _ => rfl))
    have hM2 := hM.other (hch.c (by decide +kernel) (by decide +kernel))
    have hC2 : nb_C (nb_setN S 4 m) (nw_sS (nw_sS σ 10 2 (nI m)) 0 12 0) := ⟨hs, Or.inl (by simp [nb_gSsS])⟩
    have hr : nw_gS (nw_sS (nw_sS σ 10 2 (nI m)) 0 12 0) 10 2 = nI m := by simp [nb_gSsS]
    rw [hr]
    generalize nw_sS (nw_sS σ 10 2 (nI m)) 0 12 0 = s at *
    have mz := (nb_MP_iff.mp hM2) 3 (by decide)
    have mz1 : nw_gS s 37 14 = nI (m + 1) := by rw [← e]; exact mz.1
    unfold f5_back f5_back_39 f5_back_61 f5_back_80 f5_back_99
    refine ⟨fun w => absurd w (by decide), fun _ => ?_⟩
    simp only [if_neg (by decide : ¬ (nI 1 : Int32) = 0), if_pos (show (nI 1 : Int32) = 1 from rfl), if_neg (by decide : ¬ (nI 1 : Int32) = 2)]
    rw [mz1]
    refine ⟨fun w => absurd ((nb_eq0 (by omega)).mp w) (by omega), fun _ => ?_⟩
    have hch3 : nb_Ch [(37, 14)] [] s (nw_sS (nw_sS (nw_sS s 37 11 (nw_gS s 37 11 - 0)) 37 14 (nw_gS s 37 14 - 1)) 37 16 (nw_gS s 37 16 - 0)) := by
      refine ⟨fun q k h => ?_, fun q _ => ⟨fun _ => rfl, fun _ => rfl⟩⟩
      simp only [nb_gSsS, nb_sub0]
      by_cases e1 : q = 37
      · subst e1
        by_cases e2 : k = 16
        · subst e2; first | exact absurd (by decide) h | simp
        · by_cases e3 : k = 14
          · subst e3; first | exact absurd (by decide) h | simp
          · by_cases e4 : k = 11
            · subst e4; first | exact absurd (by decide) h | simp
            · simp [e2, e3, e4]
      · simp [e1]
    have hfin : nw_gS (nw_sS (nw_sS (nw_sS s 37 11 (nw_gS s 37 11 - 0)) 37 14 (nw_gS s 37 14 - 1)) 37 16 (nw_gS s 37 16 - 0)) 37 14 = nI m := by
      simp only [nb_gSsS]; simp [mz1, nI_pred]
    simp only [nb_gSsS]
    simp only [if_true, show (14 : Nat) ≠ 11 by decide, show (16 : Nat) ≠ 11 by decide, show (16 : Nat) ≠ 14 by decide, if_false, mz1]
    rw [mz1] at hch3 hfin
    refine ⟨(nI_pred m).symm, nb_setN S 4 m, ?_, hC2.other (hch3.up (by decide +kernel) (by decide +kernel)), hM2.upd 3 hch3 hS (by decide) ⟨hfin, fun i hi => ?_⟩⟩
    · obtain ⟨o1, o2, o3, o4, o5, o6, o7, o8⟩ := hO
      exact ⟨o1, o2, o3, ⟨by show m ≤ 8; omega, fun i hi => o4.2 i (by have : i < m := hi; omega)⟩, o5, o6, o7, nb_OKs o8 (fun k hk => hS.1 k (by simp; omega))⟩
    · have hi' : i < m := hi
      exact mz.2 i (by show i < S.1 4; omega)
theorem nb_back2 {S : nb_S} {σ : nw_ST} (hO : nb_OK S) (hC : nb_C S σ) (hM : nb_MP S σ) : f4_back (fun (r1 : Int32) (s1 : nw_ST) => (f5_back (fun (r2 : Int32) (s2 : nw_ST) => r1 = r2 ∧ nb_Inv s2) s1 (nI 2))) σ (nI 2) := by
  have hInv : nb_Inv σ := ⟨S, hO, hC, hM⟩
  have hp := (nb_CP_iff.mp hC.1) 6 (by decide)
  have hb := hO.2.2.2.2.1.1
  unfold f4_back f4_back_38
  refine ⟨fun w => absurd w (by decide), fun _ => ?_⟩
  simp only [if_neg (by decide : ¬ (nI 2 : Int32) = 0), if_neg (by decide : ¬ (nI 2 : Int32) = 1), if_pos (show (nI 2 : Int32) = 2 from rfl)]
  refine nb_drop hp.1 (by omega) (fun e => ⟨fun _ => ?_, fun w => absurd rfl w⟩) (fun m e => ⟨fun w => absurd w (by decide), fun _ => ?_⟩)
  · have mz := ((nb_MP_iff.mp hM) 4 (by decide)).1
    unfold f5_back f5_back_39
    refine ⟨fun w => absurd w (by decide), fun _ => ?_⟩
    simp only [if_neg (by decide : ¬ (nI 2 : Int32) = 0), if_neg (by decide : ¬ (nI 2 : Int32) = 1), if_pos (show (nI 2 : Int32) = 2 from rfl)]
    exact ⟨fun _ => ⟨by trivial, hInv⟩, fun w => absurd (by rw [mz, e]; rfl) w⟩
  · have hch : nb_Ch [(13, 2), (0, 12)] [] σ (nw_sS (nw_sS σ 13 2 (nI m)) 0 12 0) := (nb_Ch.rf.sS _ (by decide)).sS _ (by decide)
    have hS : nb_SC [5] [] [] S (nb_setN S 5 m) := nb_SC.rf.sN _ (by decide)
    have hs : nb_CP (nb_setN S 5 m) (nw_sS (nw_sS σ 13 2 (nI m)) 0 12 0) := hC.1.upd 6 hch hS (by decide) (by
      have hp2 := hp
      simp only [nb_cc] at hp2
      rw [e] at hp2
      exact nb_Pr.less hp2 (by simp [nb_gSsS]; rfl) (fun _ => rfl) (fun _ => rfl))
    have hM2 := hM.other (hch.c (by decide +kernel) (by decide +kernel))
    have hC2 : nb_C (nb_setN S 5 m) (nw_sS (nw_sS σ 13 2 (nI m)) 0 12 0) := ⟨hs, Or.inl (by simp [nb_gSsS])⟩
    have hr : nw_gS (nw_sS (nw_sS σ 13 2 (nI m)) 0 12 0) 13 2 = nI m := by simp [nb_gSsS]
    rw [hr]
    generalize nw_sS (nw_sS σ 13 2 (nI m)) 0 12 0 = s at *
    have mz := (nb_MP_iff.mp hM2) 4 (by decide)
    have mz1 : nw_gS s 37 16 = nI (m + 1) := by rw [← e]; exact mz.1
    unfold f5_back f5_back_39 f5_back_61 f5_back_80 f5_back_99
    refine ⟨fun w => absurd w (by decide), fun _ => ?_⟩
    simp only [if_neg (by decide : ¬ (nI 2 : Int32) = 0), if_neg (by decide : ¬ (nI 2 : Int32) = 1), if_pos (show (nI 2 : Int32) = 2 from rfl)]
    rw [mz1]
    refine ⟨fun w => absurd ((nb_eq0 (by omega)).mp w) (by omega), fun _ => ?_⟩
    have hch3 : nb_Ch [(37, 16)] [] s (nw_sS (nw_sS (nw_sS s 37 11 (nw_gS s 37 11 - 0)) 37 14 (nw_gS s 37 14 - 0)) 37 16 (nw_gS s 37 16 - 1)) := by
      refine ⟨fun q k h => ?_, fun q _ => ⟨fun _ => rfl, fun _ => rfl⟩⟩
      simp only [nb_gSsS, nb_sub0]
      by_cases e1 : q = 37
      · subst e1
        by_cases e2 : k = 16
        · subst e2; first | exact absurd (by decide) h | simp
        · by_cases e3 : k = 14
          · subst e3; first | exact absurd (by decide) h | simp
          · by_cases e4 : k = 11
            · subst e4; first | exact absurd (by decide) h | simp
            · simp [e2, e3, e4]
      · simp [e1]
    have hfin : nw_gS (nw_sS (nw_sS (nw_sS s 37 11 (nw_gS s 37 11 - 0)) 37 14 (nw_gS s 37 14 - 0)) 37 16 (nw_gS s 37 16 - 1)) 37 16 = nI m := by
      simp only [nb_gSsS]; simp [mz1, nI_pred]
    simp only [nb_gSsS]
    simp only [if_true, show (14 : Nat) ≠ 11 by decide, show (16 : Nat) ≠ 11 by decide, show (16 : Nat) ≠ 14 by decide, if_false, mz1]
    rw [mz1] at hch3 hfin
    refine ⟨(nI_pred m).symm, nb_setN S 5 m, ?_, hC2.other (hch3.up (by decide +kernel) (by decide +kernel)), hM2.upd 4 hch3 hS (by decide) ⟨hfin, fun i hi => ?_⟩⟩
    · obtain ⟨o1, o2, o3, o4, o5, o6, o7, o8⟩ := hO
      exact ⟨o1, o2, o3, o4, ⟨by show m ≤ 12; omega, fun i hi => o5.2 i (by have : i < m := hi; omega)⟩, o6, o7, nb_OKs o8 (fun k hk => hS.1 k (by simp; omega))⟩
    · have hi' : i < m := hi
      exact mz.2 i (by show i < S.1 5; omega)
theorem nb_step10 : nl_S10 nb_Inv := by
  intro σ hI a1
  obtain ⟨S, hO, hC, hM⟩ := hI
  have hInv : nb_Inv σ := ⟨S, hO, hC, hM⟩
  by_cases z : v5_in a1 0 2 = 0
  · unfold f4_back f5_back
    exact ⟨fun _ => ⟨fun _ => ⟨rfl, hInv⟩, fun w => absurd z w⟩, fun w => absurd ((nb_below 2 (by decide)).mpr z) w⟩
  · obtain ⟨a, -, ha, rfl⟩ := nb_in 0 2 (by decide) (by decide) z
    rcases (show a = 0 ∨ a = 1 ∨ a = 2 by omega) with rfl | rfl | rfl
    · exact nb_back0 hO hC hM
    · exact nb_back1 hO hC hM
    · exact nb_back2 hO hC hM
