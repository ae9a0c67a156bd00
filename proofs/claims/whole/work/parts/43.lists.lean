/-! ===== lists of pairs: told behind the others, undone ===== -/
theorem nb_isTime4 (a : Int32) : v4_isTime a = 0 ↔ v5_in a 0 239 = 0 := nb_below 239 (by decide)
theorem nb_isTime5 (a : Int32) : v5_isTime a = v5_in a 0 239 := rfl
theorem nb_may (a b : Int32) : v4_mayBeTicket a b = 0 ↔ v5_in a 0 7 = 0 ∨ v5_in b 1 400 = 0 := by
  unfold v4_mayBeTicket
  rw [show v4_isNumber b = v5_in b 1 400 from rfl]
  by_cases h1 : v4_isBelow a 8 = 0
  · rw [if_pos h1]; simp only [true_iff]; exact Or.inl ((nb_below 7 (by decide)).mp h1)
  · have h1' : ¬ v5_in a 0 7 = 0 := fun z => h1 ((nb_below 7 (by decide)).mpr z)
    rw [if_neg h1]
    by_cases h2 : v5_in b 1 400 = 0
    · rw [if_pos h2]; simp [h2]
    · rw [if_neg h2]; simp [h1', h2]
theorem nb_append {K : Int32 → nw_ST → Prop} {σ : nw_ST} {q n cap : Nat} {a b : Int32} (hp : nw_gS σ q 2 = nI n) (r0 : nw_rf q 0 = q + 1) (r1 : nw_rf q 1 = q + 2) (l0 : nw_len (q + 1) = cap) (l1 : nw_len (q + 2) = cap) (hn : n ≤ cap) (hc : cap ≤ 100) (hfull : n = cap → K 0 σ) (hok : n < cap → K 1 (nw_sS (nw_sA (nw_sA σ (q + 1) n a) (q + 2) n b) q 2 (nI (n + 1)))) : f0_append K σ q a b := by
  unfold f0_append
  simp only [nb_gSsA, r0, r1, l0, l1, hp, nI_clamp (show n < 2 ^ 31 by omega), nI_1]
  refine ⟨fun z => ?_, fun z => ?_⟩
  · have hlt : n < cap := (nI_ltI (by omega) (by omega)).mp z
    exact ⟨vp_in_nI hlt (by omega), vp_in_nI hlt (by omega), hok hlt⟩
  · exact hfull (by
      rcases Nat.lt_or_ge n cap with h | h
      · exact absurd ((nI_ltI (by omega) (by omega)).mpr h : nI n < nI cap) z
      · omega)
theorem nb_Pr.app {σ : nw_ST} {q n a b : Nat} {f g : Nat → Nat} (h : nb_Pr σ q n f g) : nb_Pr (nw_sS (nw_sA (nw_sA σ (q + 1) n (nI a)) (q + 2) n (nI b)) q 2 (nI (n + 1))) q (n + 1) (fun l => if l = n then a else f l) (fun l => if l = n then b else g l) := by
  refine ⟨?_, fun i hi => ?_⟩
  · rw [nb_gSsS]; simp
  · simp only [nb_gAsS, nb_gAsA]
    by_cases e : i = n
    · subst e; simp
    · have hi' : i < n := by omega
      simp only [e, if_false]
      have h1 := h.2 i hi'
      simp [h1.1, h1.2]
theorem nb_chP {σ : nw_ST} {q n : Nat} {a b : Int32} {v : Int32} : nb_Ch [(q, 2)] [q + 1, q + 2] σ (nw_sS (nw_sA (nw_sA σ (q + 1) n a) (q + 2) n b) q 2 v) :=
  ((nb_Ch.rf.sA n a (by simp)).sA n b (by simp)).sS v (by simp)
/-- one of tickets more, by the class -/
def nb_tkS (S : nb_S) (a b : Nat) : nb_S := nb_setN (nb_setA (nb_setA S 5 (S.1 5) a) 6 (S.1 5) b) 5 (S.1 5 + 1)
theorem nb_tkSC {S : nb_S} {a b : Nat} : nb_SC [5] [5, 6] [] S (nb_tkS S a b) := ((nb_SC.rf.sA _ _ (by decide)).sA _ _ (by decide)).sN _ (by decide)
theorem nb_tkV {S : nb_S} {a b : Nat} : nb_VS (nb_tkS S a b) = nb_VS S := rfl
theorem nb_tk4 {S : nb_S} {σ : nw_ST} {K : Int32 → nw_ST → Prop} {a b : Nat} (hO : nb_OK S) (hC : nb_CP S σ) (hfull : S.1 5 = 12 → K 0 σ) (hok : S.1 5 < 12 → ∀ s, nb_CP (nb_tkS S a b) s → nb_Ch [(13, 2)] [14, 15] σ s → K 1 s) : f0_append K σ 13 (nI a) (nI b) := by
  have hp := (nb_CP_iff.mp hC) 6 (by decide)
  refine nb_append (cap := 12) (n := S.1 5) hp.1 rfl rfl rfl rfl hO.2.2.2.2.1.1 (by decide) hfull (fun hlt => hok hlt _ ?_ nb_chP)
  exact hC.upd 6 nb_chP nb_tkSC (by decide) (nb_Pr.app hp)
theorem nb_OKs {S S' : nb_S} (h : ∀ j, j < 4 → S.1 (8 + j) ≤ 1 ∧ S.1 (12 + j) ≤ 2 ∧ S.1 (16 + j) ≤ 48) (e : ∀ k, 8 ≤ k → S'.1 k = S.1 k) : ∀ j, j < 4 → S'.1 (8 + j) ≤ 1 ∧ S'.1 (12 + j) ≤ 2 ∧ S'.1 (16 + j) ≤ 48 := by
  intro j hj
  rw [e _ (by omega), e _ (by omega), e _ (by omega)]; exact h j hj
theorem nb_tkOK {S : nb_S} {a b : Nat} (hO : nb_OK S) (h : S.1 5 < 12) (ha : a < 8) (hb : 1 ≤ b ∧ b ≤ 400) : nb_OK (nb_tkS S a b) := by
  obtain ⟨o1, o2, o3, o4, o5, o6, o7, o8⟩ := hO
  refine ⟨o1, o2, o3, o4, ⟨by show S.1 5 + 1 ≤ 12; omega, fun i hi => ?_⟩, o6, o7, nb_OKs o8 (fun k hk => nb_tkSC.1 k (by simp; omega))⟩
  have hi' : i < S.1 5 + 1 := hi
  show (if i = S.1 5 then a else S.2.1 5 i) < 8 ∧ 1 ≤ (if i = S.1 5 then b else S.2.1 6 i) ∧ (if i = S.1 5 then b else S.2.1 6 i) ≤ 400
  by_cases e : i = S.1 5
  · simp only [e, if_true]; exact ⟨ha, hb⟩
  · simp only [e, if_false]; exact o5.2 i (by omega)
/-- the reference's row of two arrays: one more -/
theorem nb_row2 {σ : nw_ST} {k x y n a b cap : Nat} {f g : Nat → Nat} (hxy : x ≠ y) (h : ∀ i, i < n → nw_gA σ x i = nI (f i) ∧ nw_gA σ y i = nI (g i)) : ∀ i, i < n + 1 → nw_gA (nw_sS (nw_sA (nw_sA σ x n (nI a)) y n (nI b)) 37 k (nI cap)) x i = nI (if i = n then a else f i) ∧ nw_gA (nw_sS (nw_sA (nw_sA σ x n (nI a)) y n (nI b)) 37 k (nI cap)) y i = nI (if i = n then b else g i) := by
  intro i hi
  simp only [nb_gAsS, nb_gAsA]
  by_cases e : i = n
  · subst e; simp [hxy]
  · have h1 := h i (by omega)
    simp [e, h1.1, h1.2]
theorem nb_tk5 {S : nb_S} {σ : nw_ST} {K : Int32 → nw_ST → Prop} {a1 a2 : Int32} (hO : nb_OK S) (hM : nb_MP S σ) (hbad : (v5_in a1 0 7 = 0 ∨ v5_in a2 1 400 = 0) → K (-2) σ) (hfull : ∀ a b : Nat, a < 8 → (1 ≤ b ∧ b ≤ 400) → a1 = nI a → a2 = nI b → S.1 5 = 12 → K (-4) σ)
    (hok : ∀ a b : Nat, a < 8 → (1 ≤ b ∧ b ≤ 400) → a1 = nI a → a2 = nI b → S.1 5 < 12 → ∀ s, nb_MP (nb_tkS S a b) s → nb_Ch [(37, 16)] [49, 50] σ s → K (nI (S.1 5 + 1)) s) : f5_ticket K σ a1 a2 := by
  have hm := (nb_MP_iff.mp hM) 4 (by decide)
  have hn : nw_gS σ 37 16 = nI (S.1 5) := hm.1
  have h5 := hO.2.2.2.2.1.1
  unfold f5_ticket f5_ticket_17
  rw [show v5_isNumber a2 = v5_in a2 1 400 from rfl]
  refine ⟨fun z => hbad (Or.inl z), fun z => ⟨fun z2 => hbad (Or.inr z2), fun z2 => ?_⟩⟩
  obtain ⟨a, -, ha, rfl⟩ := nb_in 0 7 (by decide) (by decide) z
  obtain ⟨b, hb1, hb2, rfl⟩ := nb_in 1 400 (by decide) (by decide) z2
  simp only [nb_gSsA, nb_gSsS, hn, nI_clamp (show S.1 5 < 2 ^ 31 by omega), nI_1, if_true]
  refine ⟨fun z3 => ?_, fun z3 => ?_⟩
  · exact hfull a b (by omega) ⟨hb1, hb2⟩ rfl rfl ((nI_eq (by omega) (by decide)).mp z3)
  · have hlt : S.1 5 < 12 := by
      rcases Nat.lt_or_ge (S.1 5) 12 with h | h
      · exact h
      · exact absurd (show nI (S.1 5) = 12 by rw [show S.1 5 = 12 by omega]; rfl) z3
    have hch : nb_Ch [(37, 16)] [49, 50] σ (nw_sS (nw_sA (nw_sA σ 49 (S.1 5) (nI a)) 50 (S.1 5) (nI b)) 37 16 (nI (S.1 5 + 1))) := ((nb_Ch.rf.sA _ _ (by decide)).sA _ _ (by decide)).sS _ (by decide)
    refine ⟨vp_in_nI (by omega) (by decide), vp_in_nI (by omega) (by decide), hok a b (by omega) ⟨hb1, hb2⟩ rfl rfl hlt _ ?_ hch⟩
    refine hM.upd 4 hch nb_tkSC (by decide) ⟨by rw [nb_gSsS]; simp; rfl, nb_row2 (by decide) hm.2⟩
theorem nb_fresh0 {S : nb_S} {s : nw_ST} (h : nb_CP S s) (hf : nw_gS s 0 12 = 0) : nb_C S s := ⟨h, Or.inl hf⟩
theorem nb_CP.flag {S : nb_S} {s : nw_ST} (h : nb_CP S s) (v : Int32) : nb_CP S (nw_sS s 0 12 v) := h.ch (nb_Ch.rf.sS (LS := [(0, 12)]) (L := []) v (by decide)) (by decide) (by decide)
theorem nb_flag0 {S : nb_S} {s : nw_ST} (h : nb_CP S s) : nb_C S (nw_sS s 0 12 0) := ⟨h.flag 0, Or.inl (by rw [nb_gSsS]; rfl)⟩
/-- the class's cells among which a change lies -/
theorem nb_Ch.c {LS : List (Nat × Nat)} {L : List Nat} {σ s : nw_ST} (h : nb_Ch LS L σ s) (h1 : ∀ x ∈ LS, x ∈ nb_cS) (h2 : ∀ x ∈ L, x ∈ nb_cA) : nb_Ch nb_cS nb_cA σ s := h.up h1 h2
theorem nb_step9 : nl_S9 nb_Inv := by
  intro σ hI a1 a2
  obtain ⟨S, hO, hC, hM⟩ := hI
  have hInv : nb_Inv σ := ⟨S, hO, hC, hM⟩
  unfold f4_ticket f4_ticket_23
  refine ⟨fun z => ?_, fun z => ?_⟩
  · have z' := (nb_may a1 a2).mp z
    refine nb_tk5 hO hM (fun _ => ⟨rfl, hInv⟩) ?_ ?_
    · intro a b ha hb e1 e2 _; subst e1; subst e2
      exfalso; rcases z' with z' | z'
      · exact absurd z' (by rw [nb_in_iff, Decidable.not_not]; exact ⟨nI_pos' (by omega), (nI_leI (by omega) (by decide : 7 < 2 ^ 31)).mpr (by omega)⟩)
      · exact absurd z' (by rw [nb_in_iff, Decidable.not_not]; exact ⟨(nI_leI (by decide : 1 < 2 ^ 31) (by omega)).mpr (by omega), (nI_leI (by omega) (by decide : 400 < 2 ^ 31)).mpr (by omega)⟩)
    · intro a b ha hb e1 e2 _; subst e1; subst e2
      exfalso; rcases z' with z' | z'
      · exact absurd z' (by rw [nb_in_iff, Decidable.not_not]; exact ⟨nI_pos' (by omega), (nI_leI (by omega) (by decide : 7 < 2 ^ 31)).mpr (by omega)⟩)
      · exact absurd z' (by rw [nb_in_iff, Decidable.not_not]; exact ⟨(nI_leI (by decide : 1 < 2 ^ 31) (by omega)).mpr (by omega), (nI_leI (by omega) (by decide : 400 < 2 ^ 31)).mpr (by omega)⟩)
  · have z' : ¬ (v5_in a1 0 7 = 0 ∨ v5_in a2 1 400 = 0) := fun w => z ((nb_may a1 a2).mpr w)
    obtain ⟨a, -, ha, ea⟩ := nb_in 0 7 (by decide) (by decide) (fun w => z' (Or.inl w))
    obtain ⟨b, hb1, hb2, eb⟩ := nb_in 1 400 (by decide) (by decide) (fun w => z' (Or.inr w))
    unfold f4_tell
    subst ea; subst eb
    refine nb_tk4 hO hC.1 (fun hf => ⟨fun _ => ?_, fun w => absurd rfl w⟩) (fun hlt s hs hch => ⟨fun w => absurd w (by decide), fun _ => ?_⟩)
    · exact nb_tk5 hO hM (fun w => absurd w z') (fun _ _ _ _ _ _ _ => ⟨rfl, hInv⟩) (fun _ _ _ _ _ _ h => absurd h (by omega))
    · have hch2 : nb_Ch nb_cS nb_cA σ (nw_sS s 0 12 0) := (hch.c (by decide +kernel) (by decide +kernel)).sS 0 (by decide +kernel)
      refine nb_tk5 hO (hM.other hch2) (fun w => absurd w z') (fun _ _ _ _ _ _ h => absurd h (by omega)) (fun a' b' ha' hb' e1 e2 _ t ht hch3 => ⟨?_, nb_tkS S a b, nb_tkOK hO hlt (by omega) ⟨hb1, hb2⟩, (nb_flag0 hs).other (hch3.up (by decide +kernel) (by decide +kernel)), ?_⟩)
      · have := ((nb_CP_iff.mp hs) 6 (by decide)).1
        rw [nb_gSsS]; exact this
      · rw [(nI_eq (by omega) (by omega)).mp e1, (nI_eq (by omega) (by omega)).mp e2]; exact ht
