/-! ===== depth, slip, wake, heard, forget, back ===== -/
theorem nb_nin {j lo hi : Nat} (h1 : lo ≤ j) (h2 : j ≤ hi) (hh : hi < 2 ^ 31) : ¬ v5_in (nI j) (nI lo) (nI hi) = 0 := by
  rw [nb_in_iff, Decidable.not_not]; exact ⟨(nI_leI (by omega) (by omega)).mpr h1, (nI_leI (by omega) (by omega)).mpr h2⟩
theorem nb_n12 {n c : Nat} (hn : n ≤ c) (hc : c < 2 ^ 31) (z : ¬ nI n = nI c) : n < c := by
  rcases Nat.lt_or_ge n c with h | h
  · exact h
  · exact absurd (by rw [show n = c by omega]) z
def nb_dpS (S : nb_S) (v : Nat) : nb_S := nb_setN S 2 v
theorem nb_step6 : nl_S6 nb_Inv := by
  intro σ hI a1
  obtain ⟨S, hO, hC, hM⟩ := hI
  have hInv : nb_Inv σ := ⟨S, hO, hC, hM⟩
  unfold f4_depth
  rw [nb_isFrom]
  refine ⟨fun z => ?_, fun z => ?_⟩
  · unfold f5_depth; exact ⟨fun _ => ⟨rfl, hInv⟩, fun w => absurd z w⟩
  · unfold f5_depth
    refine ⟨fun w => absurd w z, fun _ => ?_⟩
    obtain ⟨v, -, hv, rfl⟩ := nb_in 0 55 (by decide) (by decide) z
    have c0 : nw_gS σ 0 10 = nI (S.1 2) := (nb_CP_iff.mp hC.1) 0 (by decide)
    have m0 : nw_gS σ 37 10 = nI (S.1 2) := (nb_MP_iff.mp hM) 1 (by decide)
    have hch : nb_Ch [(0, 10), (0, 12), (37, 10)] [] σ (nw_sS (nw_sS (nw_sS σ 0 10 (nI v)) 0 12 0) 37 10 (nI v)) := ((nb_Ch.rf.sS _ (by decide)).sS _ (by decide)).sS _ (by decide)
    have hS : nb_SC [2] [] [] S (nb_dpS S v) := nb_SC.rf.sN _ (by decide)
    refine ⟨?_, nb_dpS S v, ?_, ⟨hC.1.upd 0 hch hS (by decide) (by simp [nb_cc, nb_gSsS]; rfl), Or.inl (by simp [nb_gSsS])⟩, hM.upd 1 hch hS (by decide) (by simp [nb_mc, nb_gSsS]; rfl)⟩
    · simp only [nb_gSsS]; simp [c0, m0]
    · obtain ⟨o1, o2, o3, o4, o5, o6, o7, o8⟩ := hO
      exact ⟨o1, hv, o3, o4, o5, o6, o7, nb_OKs o8 (fun k hk => hS.1 k (by simp; omega))⟩
def nb_slS (S : nb_S) (a b : Nat) : nb_S := nb_setN (nb_setA (nb_setA S 2 (S.1 3) a) 3 (S.1 3) b) 3 (S.1 3 + 1)
theorem nb_slSC {S : nb_S} {a b : Nat} : nb_SC [3] [2, 3] [] S (nb_slS S a b) := ((nb_SC.rf.sA _ _ (by decide)).sA _ _ (by decide)).sN _ (by decide)
theorem nb_step7 : nl_S7 nb_Inv := by
  intro σ hI a1 a2
  obtain ⟨S, hO, hC, hM⟩ := hI
  have hInv : nb_Inv σ := ⟨S, hO, hC, hM⟩
  unfold f4_slip f4_slip_21
  rw [nb_isFrom, nb_isFrom]
  refine ⟨fun z => ?_, fun z => ⟨fun z2 => ?_, fun z2 => ?_⟩⟩
  · unfold f5_slip f5_slip_21; exact ⟨fun _ => ⟨rfl, hInv⟩, fun w => absurd z w⟩
  · unfold f5_slip f5_slip_21; exact ⟨fun w => absurd w z, fun _ => ⟨fun _ => ⟨rfl, hInv⟩, fun w => absurd z2 w⟩⟩
  · obtain ⟨a, ha1, ha2, rfl⟩ := nb_in 1 240 (by decide) (by decide) z
    obtain ⟨b, hb1, hb2, rfl⟩ := nb_in 1 11 (by decide) (by decide) z2
    have hp := (nb_CP_iff.mp hC.1) 4 (by decide)
    have hm := (nb_MP_iff.mp hM) 2 (by decide)
    have hn3 := hO.2.2.1.1
    unfold f4_tell
    refine nb_append (cap := 12) (n := S.1 3) hp.1 rfl rfl rfl rfl hn3 (by decide) (fun hf => ⟨fun _ => ?_, fun w => absurd rfl w⟩) (fun hlt => ⟨fun w => absurd w (by decide), fun _ => ?_⟩)
    · unfold f5_slip f5_slip_21
      exact ⟨fun w => absurd w z, fun _ => ⟨fun w => absurd w z2, fun _ => ⟨fun _ => ⟨rfl, hInv⟩, fun w => absurd (by rw [hm.1, hf]; rfl) w⟩⟩⟩
    · have hch := (nb_chP (σ := σ) (q := 7) (n := S.1 3) (a := nI a) (b := nI b) (v := nI (S.1 3 + 1)))
      have hs : nb_CP (nb_slS S a b) _ := hC.1.upd 4 hch nb_slSC (by decide) (nb_Pr.app hp)
      have hch2 := (hch.c (by decide +kernel) (by decide +kernel)).sS (q := 0) (k := 12) 0 (by decide +kernel)
      have hM2 := hM.other hch2
      have hm2 := (nb_MP_iff.mp hM2) 2 (by decide)
      generalize hse : nw_sS (nw_sS (nw_sA (nw_sA σ (7 + 1) (S.1 3) (nI a)) (7 + 2) (S.1 3) (nI b)) 7 2 (nI (S.1 3 + 1))) 0 12 0 = s at *
      have hC2 : nb_C (nb_slS S a b) s := by rw [← hse]; exact nb_flag0 hs
      have hn : nw_gS s 37 11 = nI (S.1 3) := hm2.1
      unfold f5_slip f5_slip_21
      simp only [nb_gSsA, nb_gSsS, hn, nI_clamp (show S.1 3 < 2 ^ 31 by omega), nI_1, if_true]
      refine ⟨fun w => absurd w z, fun _ => ⟨fun w => absurd w z2, fun _ => ⟨fun w => absurd ((nI_eq (by omega) (by decide : 12 < 2 ^ 31)).mp w) (by omega), fun _ => ⟨vp_in_nI (by omega) (by decide), vp_in_nI (by omega) (by decide), ?_⟩⟩⟩⟩
      have hch3 : nb_Ch [(37, 11)] [46, 47] s (nw_sS (nw_sA (nw_sA s 46 (S.1 3) (nI a)) 47 (S.1 3) (nI b)) 37 11 (nI (S.1 3 + 1))) := ((nb_Ch.rf.sA _ _ (by decide)).sA _ _ (by decide)).sS _ (by decide)
      refine ⟨((nb_CP_iff.mp hC2.1) 4 (by decide)).1, nb_slS S a b, ?_, hC2.other (hch3.up (by decide +kernel) (by decide +kernel)), hM2.upd 2 hch3 nb_slSC (by decide) ⟨by rw [nb_gSsS]; simp; rfl, nb_row2 (by decide) hm2.2⟩⟩
      obtain ⟨o1, o2, o3, o4, o5, o6, o7, o8⟩ := hO
      refine ⟨o1, o2, ⟨by show S.1 3 + 1 ≤ 12; omega, fun i hi => ?_⟩, o4, o5, o6, o7, nb_OKs o8 (fun k hk => nb_slSC.1 k (by simp; omega))⟩
      have hi' : i < S.1 3 + 1 := hi
      show 1 ≤ (if i = S.1 3 then a else S.2.1 2 i) ∧ (if i = S.1 3 then a else S.2.1 2 i) ≤ 240 ∧ 1 ≤ (if i = S.1 3 then b else S.2.1 3 i) ∧ (if i = S.1 3 then b else S.2.1 3 i) ≤ 11
      by_cases e : i = S.1 3
      · simp only [e, if_true]; omega
      · simp only [e, if_false]; exact o3.2 i (by omega)
def nb_wkS (S : nb_S) (a : Nat) : nb_S := nb_setN (nb_setA S 4 (S.1 4) a) 4 (S.1 4 + 1)
theorem nb_wkSC {S : nb_S} {a : Nat} : nb_SC [4] [4] [] S (nb_wkS S a) := (nb_SC.rf.sA _ _ (by decide)).sN _ (by decide)
theorem nb_step8 : nl_S8 nb_Inv := by
  intro σ hI a1
  obtain ⟨S, hO, hC, hM⟩ := hI
  have hInv : nb_Inv σ := ⟨S, hO, hC, hM⟩
  unfold f4_wake f4_wake_22
  refine ⟨fun z => ?_, fun z => ?_⟩
  · have z := (nb_isTime4 a1).mp z
    unfold f5_wake; rw [nb_isTime5]; exact ⟨fun _ => ⟨rfl, hInv⟩, fun w => absurd z w⟩
  · have z : ¬ v5_in a1 0 239 = 0 := fun w => z ((nb_isTime4 a1).mpr w)
    obtain ⟨a, ha1, ha2, rfl⟩ := nb_in 0 239 (by decide) (by decide) z
    have hp := (nb_CP_iff.mp hC.1) 5 (by decide)
    have hm := (nb_MP_iff.mp hM) 3 (by decide)
    have hn4 := hO.2.2.2.1.1
    unfold f4_tell
    refine nb_append (cap := 8) (n := S.1 4) hp.1 rfl rfl rfl rfl hn4 (by decide) (fun hf => ⟨fun _ => ?_, fun w => absurd rfl w⟩) (fun hlt => ⟨fun w => absurd w (by decide), fun _ => ?_⟩)
    · unfold f5_wake; rw [nb_isTime5]
      exact ⟨fun w => absurd w z, fun _ => ⟨fun _ => ⟨rfl, hInv⟩, fun w => absurd (by rw [hm.1, hf]; rfl) w⟩⟩
    · have hch := (nb_chP (σ := σ) (q := 10) (n := S.1 4) (a := nI a) (b := 0) (v := nI (S.1 4 + 1)))
      have hs : nb_CP (nb_wkS S a) _ := hC.1.upd 5 hch nb_wkSC (by decide) (by
        have h9 := nb_Pr.app (a := a) (b := 0) hp
        show nb_Pr _ 10 (S.1 4 + 1) (fun l => if l = S.1 4 then a else S.2.1 4 l) (fun _ => 0)
        have e : (fun l => if l = S.1 4 then 0 else (fun _ => 0) l : Nat → Nat) = fun _ => 0 := by funext l; split <;> rfl
        rw [e] at h9
        exact h9)
      have hch2 := (hch.c (by decide +kernel) (by decide +kernel)).sS (q := 0) (k := 12) 0 (by decide +kernel)
      have hM2 := hM.other hch2
      have hm2 := (nb_MP_iff.mp hM2) 3 (by decide)
      generalize hse : nw_sS (nw_sS (nw_sA (nw_sA σ (10 + 1) (S.1 4) (nI a)) (10 + 2) (S.1 4) 0) 10 2 (nI (S.1 4 + 1))) 0 12 0 = s at *
      have hC2 : nb_C (nb_wkS S a) s := by rw [← hse]; exact nb_flag0 hs
      have hn : nw_gS s 37 14 = nI (S.1 4) := hm2.1
      unfold f5_wake; rw [nb_isTime5]
      simp only [nb_gSsA, nb_gSsS, hn, nI_clamp (show S.1 4 < 2 ^ 31 by omega), nI_1, if_true]
      refine ⟨fun w => absurd w z, fun _ => ⟨fun w => absurd ((nI_eq (by omega) (by decide : 8 < 2 ^ 31)).mp w) (by omega), fun _ => ⟨vp_in_nI (by omega) (by decide), ?_⟩⟩⟩
      have hch3 : nb_Ch [(37, 14)] [48] s (nw_sS (nw_sA s 48 (S.1 4) (nI a)) 37 14 (nI (S.1 4 + 1))) := (nb_Ch.rf.sA _ _ (by decide)).sS _ (by decide)
      refine ⟨((nb_CP_iff.mp hC2.1) 5 (by decide)).1, nb_wkS S a, ?_, hC2.other (hch3.up (by decide +kernel) (by decide +kernel)), hM2.upd 3 hch3 nb_wkSC (by decide) ⟨by rw [nb_gSsS]; simp; rfl, fun i hi => ?_⟩⟩
      · obtain ⟨o1, o2, o3, o4, o5, o6, o7, o8⟩ := hO
        refine ⟨o1, o2, o3, ⟨by show S.1 4 + 1 ≤ 8; omega, fun i hi => ?_⟩, o5, o6, o7, nb_OKs o8 (fun k hk => nb_wkSC.1 k (by simp; omega))⟩
        have hi' : i < S.1 4 + 1 := hi
        show (if i = S.1 4 then a else S.2.1 4 i) < 240
        by_cases e : i = S.1 4
        · simp only [e, if_true]; omega
        · simp only [e, if_false]; exact o4.2 i (by omega)
      · have hi' : i < S.1 4 + 1 := hi
        show _ = nI (if i = S.1 4 then a else S.2.1 4 i)
        simp only [nb_gAsS, nb_gAsA]
        by_cases e : i = S.1 4
        · simp [e]
        · have h1 := hm2.2 i (by omega)
          simp [e, h1]
def nb_hdS (S : nb_S) (a b : Nat) : nb_S := nb_setN (nb_setA (nb_setA S 7 (S.1 6) a) 8 (S.1 6) b) 6 (S.1 6 + 1)
theorem nb_hdSC {S : nb_S} {a b : Nat} : nb_SC [6] [7, 8] [] S (nb_hdS S a b) := ((nb_SC.rf.sA _ _ (by decide)).sA _ _ (by decide)).sN _ (by decide)
/-- a change of what was told apart from the waves leaves them -/
theorem nb_C.lift {S S' : nb_S} {σ s : nw_ST} {LS : List (Nat × Nat)} {L : List Nat} (h : nb_C S σ) (hc : nb_Ch LS L σ s) (hCP : nb_CP S' s) (hV : nb_VS S' = nb_VS S) (h0 : ∀ x ∈ [(0, 12), (19, 6)], x ∉ LS) (h2 : ∀ x ∈ [20, 21, 22, 23, 24, 25], x ∉ L) : nb_C S' s := by
  refine ⟨hCP, ?_⟩
  have e := hc.1 0 12 (h0 _ (by simp))
  rcases h.2 with z | ⟨z, w⟩
  · exact Or.inl (e.trans z)
  · exact Or.inr ⟨e.trans z, by rw [hV]; exact w.ch hc (h0 _ (by simp)) h2⟩
theorem nb_step23 : nl_S23 nb_Inv := by
  intro σ hI a1 a2
  obtain ⟨S, hO, hC, hM⟩ := hI
  have hInv : nb_Inv σ := ⟨S, hO, hC, hM⟩
  unfold f4_heard f4_heard_18 f4_heard_45
  rw [nb_isFrom]
  refine ⟨fun z => ?_, fun z => ?_⟩
  · have z := (nb_isTime4 a1).mp z
    unfold f5_heard f5_heard_18; rw [nb_isTime5]; exact ⟨fun _ => ⟨rfl, hInv⟩, fun w => absurd z w⟩
  · have z : ¬ v5_in a1 0 239 = 0 := fun w => z ((nb_isTime4 a1).mpr w)
    refine ⟨fun z2 => ?_, fun z2 => ?_⟩
    · unfold f5_heard f5_heard_18; rw [nb_isTime5]; exact ⟨fun w => absurd w z, fun _ => ⟨fun _ => ⟨rfl, hInv⟩, fun w => absurd z2 w⟩⟩
    · obtain ⟨a, ha1, ha2, rfl⟩ := nb_in 0 239 (by decide) (by decide) z
      obtain ⟨b, hb1, hb2, rfl⟩ := nb_in 0 400 (by decide) (by decide) z2
      have hp := (nb_CP_iff.mp hC.1) 7 (by decide)
      have hm := (nb_MP_iff.mp hM) 5 (by decide)
      have hn6 := hO.2.2.2.2.2.1.1
      refine nb_append (cap := 8) (n := S.1 6) hp.1 rfl rfl rfl rfl hn6 (by decide) (fun hf => ?_) (fun hlt => ?_)
      · rw [if_pos rfl]
        unfold f5_heard f5_heard_18; rw [nb_isTime5]
        exact ⟨fun w => absurd w z, fun _ => ⟨fun w => absurd w z2, fun _ => ⟨fun _ => ⟨rfl, hInv⟩, fun w => absurd (by rw [hm.1, hf]; rfl) w⟩⟩⟩
      · rw [if_neg (by decide)]
        have hch := (nb_chP (σ := σ) (q := 16) (n := S.1 6) (a := nI a) (b := nI b) (v := nI (S.1 6 + 1)))
        have hs : nb_CP (nb_hdS S a b) _ := hC.1.upd 7 hch nb_hdSC (by decide) (nb_Pr.app hp)
        have hC2 := hC.lift hch hs rfl (by decide) (by decide)
        have hch2 := (hch.c (by decide +kernel) (by decide +kernel))
        have hM2 := hM.other hch2
        have hm2 := (nb_MP_iff.mp hM2) 5 (by decide)
        generalize hse : nw_sS (nw_sA (nw_sA σ (16 + 1) (S.1 6) (nI a)) (16 + 2) (S.1 6) (nI b)) 16 2 (nI (S.1 6 + 1)) = s at *
        have hn : nw_gS s 37 28 = nI (S.1 6) := hm2.1
        unfold f5_heard f5_heard_18; rw [nb_isTime5]
        simp only [nb_gSsA, nb_gSsS, hn, nI_clamp (show S.1 6 < 2 ^ 31 by omega), nI_1, if_true]
        refine ⟨fun w => absurd w z, fun _ => ⟨fun w => absurd w z2, fun _ => ⟨fun w => absurd ((nI_eq (by omega) (by decide : 8 < 2 ^ 31)).mp w) (by omega), fun _ => ⟨vp_in_nI (by omega) (by decide), vp_in_nI (by omega) (by decide), ?_⟩⟩⟩⟩
        have hch3 : nb_Ch [(37, 28)] [55, 56] s (nw_sS (nw_sA (nw_sA s 55 (S.1 6) (nI a)) 56 (S.1 6) (nI b)) 37 28 (nI (S.1 6 + 1))) := ((nb_Ch.rf.sA _ _ (by decide)).sA _ _ (by decide)).sS _ (by decide)
        refine ⟨((nb_CP_iff.mp hC2.1) 7 (by decide)).1, nb_hdS S a b, ?_, hC2.other (hch3.up (by decide +kernel) (by decide +kernel)), hM2.upd 5 hch3 nb_hdSC (by decide) ⟨by rw [nb_gSsS]; simp; rfl, nb_row2 (by decide) hm2.2⟩⟩
        obtain ⟨o1, o2, o3, o4, o5, o6, o7, o8⟩ := hO
        refine ⟨o1, o2, o3, o4, o5, ⟨by show S.1 6 + 1 ≤ 8; omega, fun i hi => ?_⟩, o7, nb_OKs o8 (fun k hk => nb_hdSC.1 k (by simp; omega))⟩
        have hi' : i < S.1 6 + 1 := hi
        show (if i = S.1 6 then a else S.2.1 7 i) < 240 ∧ (if i = S.1 6 then b else S.2.1 8 i) ≤ 400
        by_cases e : i = S.1 6
        · simp only [e, if_true]; omega
        · simp only [e, if_false]; exact o6.2 i (by omega)
/-- one less: the count alone changes -/
theorem nb_Pr.less {σ s : nw_ST} {q n : Nat} {f g : Nat → Nat} (h : nb_Pr σ q (n + 1) f g) (h1 : nw_gS s q 2 = nI n) (h2 : ∀ i, nw_gA s (q + 1) i = nw_gA σ (q + 1) i) (h3 : ∀ i, nw_gA s (q + 2) i = nw_gA σ (q + 2) i) : nb_Pr s q n f g :=
  ⟨h1, fun i hi => ⟨(h2 i).trans (h.2 i (by omega)).1, (h3 i).trans (h.2 i (by omega)).2⟩⟩
theorem nb_step24 : nl_S24 nb_Inv := by
  intro σ hI
  obtain ⟨S, hO, hC, hM⟩ := hI
  have hp := (nb_CP_iff.mp hC.1) 7 (by decide)
  have hm := (nb_MP_iff.mp hM) 5 (by decide)
  unfold f4_forget f5_forget
  have hS : nb_SC [6] [] [] S (nb_setN S 6 0) := nb_SC.rf.sN _ (by decide)
  have hch : nb_Ch [(16, 2), (37, 28)] [] σ (nw_sS (nw_sS σ 16 2 0) 37 28 0) := (nb_Ch.rf.sS _ (by decide)).sS _ (by decide)
  refine ⟨by simp only [nb_gSsS]; simp; exact hp.1.trans hm.1.symm, nb_setN S 6 0, ?_, hC.lift hch (hC.1.upd 7 hch hS (by decide) ⟨by simp [nb_gSsS]; rfl, fun i hi => absurd hi (Nat.not_lt_zero i)⟩) rfl (by decide) (by decide), hM.upd 5 hch hS (by decide) ⟨by simp [nb_gSsS]; rfl, fun i hi => absurd hi (Nat.not_lt_zero i)⟩⟩
  obtain ⟨o1, o2, o3, o4, o5, o6, o7, o8⟩ := hO
  exact ⟨o1, o2, o3, o4, o5, ⟨Nat.zero_le _, fun i hi => absurd hi (Nat.not_lt_zero i)⟩, o7, nb_OKs o8 (fun k hk => hS.1 k (by simp; omega))⟩
