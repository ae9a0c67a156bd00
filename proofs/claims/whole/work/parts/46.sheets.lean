/-! ===== sheets ===== -/
theorem nb_CP.sh {S : nb_S} {σ : nw_ST} (h : nb_CP S σ) {j : Nat} (hj : j < 4) : nb_Sh σ S j := by
  rcases (show j = 0 ∨ j = 1 ∨ j = 2 ∨ j = 3 by omega) with rfl | rfl | rfl | rfl
  · exact (nb_CP_iff.mp h) 8 (by decide)
  · exact (nb_CP_iff.mp h) 9 (by decide)
  · exact (nb_CP_iff.mp h) 10 (by decide)
  · exact (nb_CP_iff.mp h) 11 (by decide)
theorem nb_MP.sh {S : nb_S} {σ : nw_ST} (h : nb_MP S σ) {j : Nat} (hj : j < 4) : nb_MSh σ S j := by
  have h7 := (nb_MP_iff.mp h) 7 (by decide)
  rcases (show j = 0 ∨ j = 1 ∨ j = 2 ∨ j = 3 by omega) with rfl | rfl | rfl | rfl
  · exact h7.1
  · exact h7.2.1
  · exact h7.2.2.1
  · exact h7.2.2.2
theorem nb_C.shU {S S' : nb_S} {σ s : nw_ST} {j : Nat} (hj : j < 4) (h : nb_C S σ) (hc : nb_Ch [(27 + 2 * j, 1), (27 + 2 * j, 2), (27 + 2 * j, 3)] [28 + 2 * j] σ s) (hS : nb_SC [8 + j, 12 + j, 16 + j] [] [j] S S') (hnew : nb_Sh s S' j) : nb_C S' s := by
  have hV : nb_VS S' = nb_VS S := by
    unfold nb_VS
    rw [hS.1 0 (by simp; omega), hS.1 2 (by simp; omega), hS.1 3 (by simp; omega), hS.1 4 (by simp; omega), hS.2.1 0 (by simp), hS.2.1 2 (by simp), hS.2.1 3 (by simp), hS.2.1 4 (by simp)]
  rcases (show j = 0 ∨ j = 1 ∨ j = 2 ∨ j = 3 by omega) with rfl | rfl | rfl | rfl
  · exact h.lift hc (h.1.upd 8 hc hS (by decide) hnew) hV (by decide) (by decide)
  · exact h.lift hc (h.1.upd 9 hc hS (by decide) hnew) hV (by decide) (by decide)
  · exact h.lift hc (h.1.upd 10 hc hS (by decide) hnew) hV (by decide) (by decide)
  · exact h.lift hc (h.1.upd 11 hc hS (by decide) hnew) hV (by decide) (by decide)
theorem nb_MP.shU {S S' : nb_S} {σ s : nw_ST} {j : Nat} (hj : j < 4) (h : nb_MP S σ) (hc : nb_Ch [] [58, 59, 60, 61, 62] σ s) (hS : nb_SC [8 + j, 12 + j, 16 + j] [] [j] S S')
    (ho : ∀ k, k < 4 → k ≠ j → nw_gA s 58 k = nw_gA σ 58 k ∧ nw_gA s 59 k = nw_gA σ 59 k ∧ nw_gA s 60 k = nw_gA σ 60 k ∧ ∀ i, i < 48 → nw_gA s 61 (48 * k + i) = nw_gA σ 61 (48 * k + i)) (hnew : nb_MSh s S' j) : nb_MP S' s := by
  have key : ∀ k, k < 4 → nb_MSh s S' k := by
    intro k hk
    by_cases e : k = j
    · rw [e]; exact hnew
    · obtain ⟨a, b, c, d⟩ := h.sh hk
      obtain ⟨a', b', c', d'⟩ := ho k hk e
      refine ⟨?_, ?_, ?_, fun i hi => ?_⟩
      · rw [hS.1 (8 + k) (by simp; omega)]; exact a'.trans a
      · rw [hS.1 (12 + k) (by simp; omega)]; exact b'.trans b
      · rw [hS.1 (16 + k) (by simp; omega)]; exact c'.trans c
      · rw [hS.2.2 k (by simp; omega)]; exact (d' i hi).trans (d i hi)
  refine h.upd 7 hc (nL := [8, 9, 10, 11, 12, 13, 14, 15, 16, 17, 18, 19]) (aL := []) (sL := [0, 1, 2, 3]) ⟨fun k hk => hS.1 k ?_, fun k _ => hS.2.1 k (by simp), fun k hk => hS.2.2 k ?_⟩ (by decide) ⟨key 0 (by decide), key 1 (by decide), key 2 (by decide), key 3 (by decide)⟩
  · intro hm
    simp only [List.mem_cons, List.not_mem_nil, or_false] at hm hk
    omega
  · intro hm
    simp only [List.mem_cons, List.not_mem_nil, or_false] at hm hk
    omega
/-- a finding, on both sides -/
def nb_fdS (S : nb_S) (v : Nat) : nb_S := nb_setN S 7 v
theorem nb_fdSC {S : nb_S} {v : Nat} : nb_SC [7] [] [] S (nb_fdS S v) := nb_SC.rf.sN _ (by decide)
theorem nb_fdOK {S : nb_S} {v : Nat} (hO : nb_OK S) (hv : v ≤ 5) : nb_OK (nb_fdS S v) := by
  obtain ⟨o1, o2, o3, o4, o5, o6, o7, o8⟩ := hO
  exact ⟨o1, o2, o3, o4, o5, o6, hv, nb_OKs o8 (fun k hk => nb_fdSC.1 k (by simp; omega))⟩
theorem nb_fdC {S : nb_S} {σ : nw_ST} (h : nb_C S σ) (v : Nat) : nb_C (nb_fdS S v) (nw_sS σ 0 11 (nI v)) := by
  have hch : nb_Ch [(0, 11)] [] σ (nw_sS σ 0 11 (nI v)) := nb_Ch.rf.sS _ (by decide)
  exact h.lift hch (h.1.upd 1 hch nb_fdSC (by decide) (by simp [nb_cc, nb_gSsS]; rfl)) rfl (by decide) (by decide)
theorem nb_fdM {S : nb_S} {σ : nw_ST} (h : nb_MP S σ) (v : Nat) : nb_MP (nb_fdS S v) (nw_sS σ 37 37 (nI v)) := by
  have hch : nb_Ch [(37, 37)] [] σ (nw_sS σ 37 37 (nI v)) := nb_Ch.rf.sS _ (by decide)
  exact h.upd 6 hch nb_fdSC (by decide) (by simp [nb_mc, nb_gSsS]; rfl)
theorem nb_fdCo {S : nb_S} {σ : nw_ST} (h : nb_MP S σ) (v : Int32) : nb_MP S (nw_sS σ 0 11 v) := h.other (nb_Ch.rf.sS _ (by decide +kernel))
theorem nb_fdMo {S : nb_S} {σ : nw_ST} (h : nb_C S σ) (v : Int32) : nb_C S (nw_sS σ 37 37 v) := h.other (nb_Ch.rf.sS _ (by decide +kernel))
theorem nb_fdI {S : nb_S} {σ : nw_ST} (hO : nb_OK S) (hC : nb_C S σ) (hM : nb_MP S σ) (v : Nat) (hv : v ≤ 5) : nb_Inv (nw_sS (nw_sS σ 0 11 (nI v)) 37 37 (nI v)) :=
  ⟨nb_fdS S v, nb_fdOK hO hv, nb_fdMo (nb_fdC hC v) _, nb_fdM (nb_fdCo hM _) v⟩
theorem nb_isSheet (a : Int32) : v5_isSheet a = v5_in a 0 3 := rfl
theorem nb_in4 {j : Nat} (hj : j < 4) : vp_in (nI j) 4 := vp_in_nI hj (by decide)
theorem nb_lost {S : nb_S} (hO : nb_OK S) {j : Nat} (hj : j < 4) : S.1 (8 + j) = 0 ∨ S.1 (8 + j) = 1 := by
  have := (hO.2.2.2.2.2.2.2 j hj).1; omega
theorem nb_shR {S : nb_S} {σ : nw_ST} {K : Int32 → nw_ST → Prop} {a1 : Int32} (hO : nb_OK S) (hC : nb_C S σ) (hbad : v5_in a1 0 3 = 0 → K (-2) σ) (hnull : ∀ j, j < 4 → a1 = nI j → S.1 (8 + j) = 1 → K (-10 - 1) (nw_sS σ 0 11 1)) (hok : ∀ j, j < 4 → a1 = nI j → S.1 (8 + j) = 0 → K 0 σ) : f4_sheetRefusal K σ a1 := by
  unfold f4_sheetRefusal f4_sheetRefusal_32 f4_finding
  refine ⟨fun z => hbad ((nb_below 3 (by decide)).mp z), fun z => ?_⟩
  have z' : ¬ v5_in a1 0 3 = 0 := fun w => z ((nb_below 3 (by decide)).mpr w)
  obtain ⟨j, -, hj, rfl⟩ := nb_in 0 3 (by decide) (by decide) z'
  have hj4 : j < 4 := by omega
  refine ⟨nb_in4 hj4, ?_⟩
  rw [nI_clamp (by omega)]
  have hs := hC.1.sh hj4
  rw [hs.1]
  rcases nb_lost hO hj4 with e | e
  · rw [e]; exact ⟨fun _ => hok j hj4 rfl e, fun w => absurd rfl w⟩
  · rw [e]; exact ⟨fun w => absurd w (by decide), fun _ => hnull j hj4 rfl e⟩
/-- below a size, on both sides -/
theorem nb_sz {a : Int32} {n : Nat} (hn : n ≤ 48) : v4_isBelow a (nI n) = 0 ↔ v5_in a 0 (nI n - 1) = 0 := by
  rw [nb_below_iff, nb_in_iff, nb_lt_iff, nb_le_iff, nb_le_iff, nI_toInt (by omega), show (1 : Int32) = nI 1 from rfl, pk_sub_toInt (by omega) (by decide)]
  constructor <;> intro h <;> omega
theorem nb_szj {a : Int32} {n : Nat} (hn : n ≤ 48) (h : ¬ v4_isBelow a (nI n) = 0) : ∃ i, i < n ∧ a = nI i := by
  rw [nb_below_iff, Decidable.not_not, nb_lt_iff, nb_le_iff, nI_toInt (by omega)] at h
  refine ⟨a.toInt.toNat, ?_, ?_⟩
  · have := h.1; simp at this; omega
  · apply Int32.toInt_inj.mp
    have := h.1; simp at this
    rw [nI_toInt (by omega)]; omega
theorem nb_n03 {j : Nat} (hj : j < 4) : ¬ v5_in (nI j) 0 3 = 0 := nb_nin (lo := 0) (hi := 3) (by omega) (by omega) (by decide)
theorem nb_step31 : nl_S31 nb_Inv := by
  intro σ hI a1
  obtain ⟨S, hO, hC, hM⟩ := hI
  have hInv : nb_Inv σ := ⟨S, hO, hC, hM⟩
  unfold f4_lose
  refine nb_shR hO hC (fun z => ⟨fun w => absurd w (by decide), fun _ => ?_⟩) (fun j hj e hl => ⟨fun w => absurd w (by decide), fun _ => ?_⟩) (fun j hj e hl => ⟨fun _ => ?_, fun w => absurd rfl w⟩)
  · unfold f5_lose; rw [nb_isSheet]; exact ⟨fun _ => ⟨rfl, hInv⟩, fun w => absurd z w⟩
  · subst e
    have hM2 := nb_fdCo hM 1
    have hs := hM2.sh hj
    unfold f5_lose f5_meets; rw [nb_isSheet, nI_clamp (by omega), hs.1, hl]
    exact ⟨fun w => absurd w (nb_n03 hj), fun _ => ⟨nb_in4 hj, fun _ => ⟨rfl, nb_fdI hO hC hM 1 (by decide)⟩, fun w => absurd rfl w⟩⟩
  · subst e
    rw [nI_clamp (by omega)]
    refine ⟨nb_in4 hj, nb_in4 hj, ?_⟩
    have hs := hC.1.sh hj
    have hch : nb_Ch [(27 + 2 * j, 1), (27 + 2 * j, 2), (27 + 2 * j, 3)] [28 + 2 * j] σ (nw_sS σ (27 + 2 * j) 3 1) := nb_Ch.rf.sS _ (by simp)
    have hS : nb_SC [8 + j, 12 + j, 16 + j] [] [j] S (nb_setN S (8 + j) 1) := nb_SC.rf.sN _ (by simp)
    have e8 : (nb_setN S (8 + j) 1).1 (8 + j) = 1 := by simp [nb_setN]
    have e12 : (nb_setN S (8 + j) 1).1 (12 + j) = S.1 (12 + j) := by simp [nb_setN]
    have e16 : (nb_setN S (8 + j) 1).1 (16 + j) = S.1 (16 + j) := by simp [nb_setN]
    have hC2 : nb_C (nb_setN S (8 + j) 1) (nw_sS σ (27 + 2 * j) 3 1) := by
      refine hC.shU hj hch hS ⟨?_, ?_, ?_, fun i hi => ?_⟩
      · rw [nb_gSsS, e8]; simp; rfl
      · rw [nb_gSsS, e12]; simp; exact hs.2.1
      · rw [nb_gSsS, e16]; simp; exact hs.2.2.1
      · exact hs.2.2.2 i hi
    have hr : nw_gS (nw_sS σ (27 + 2 * j) 3 1) (27 + 2 * j) 2 = nI (S.1 (16 + j)) := by rw [nb_gSsS]; simp; exact hs.2.2.1
    have hM2 : nb_MP S (nw_sS σ (27 + 2 * j) 3 1) := hM.other (nb_Ch.rf.sS _ (by
      rcases (show j = 0 ∨ j = 1 ∨ j = 2 ∨ j = 3 by omega) with rfl | rfl | rfl | rfl <;> decide +kernel))
    rw [hr]
    generalize nw_sS σ (27 + 2 * j) 3 1 = s at *
    have hm := hM2.sh hj
    show f5_lose _ s (nI j)
    unfold f5_lose; rw [nb_isSheet, nI_clamp (by omega), hm.1, hl]
    refine ⟨fun w => absurd w (nb_n03 hj), fun _ => ⟨nb_in4 hj, fun w => absurd w (by decide), fun _ => ⟨nb_in4 hj, nb_in4 hj, ?_⟩⟩⟩
    have hch3 : nb_Ch [] [58, 59, 60, 61, 62] s (nw_sA s 58 j 0) := nb_Ch.rf.sA _ _ (by decide)
    refine ⟨?_, nb_setN S (8 + j) 1, ?_, hC2.other (hch3.up (by decide +kernel) (by decide +kernel)), hM2.shU hj hch3 hS (fun k hk hkj => ?_) ⟨?_, ?_, ?_, fun i hi => ?_⟩⟩
    · rw [nb_gAsA]; simp; exact hm.2.2.1.symm
    · obtain ⟨o1, o2, o3, o4, o5, o6, o7, o8⟩ := hO
      have ez : ∀ k, k < 8 → (nb_setN S (8 + j) 1).1 k = S.1 k := fun k hk => hS.1 k (by simp; omega)
      refine ⟨?_, ?_, ?_, ?_, ?_, ?_, ?_, fun k hk => ?_⟩
      · rw [ez 0 (by decide), ez 1 (by decide)]; exact o1
      · rw [ez 2 (by decide)]; exact o2
      · rw [ez 3 (by decide)]; exact o3
      · rw [ez 4 (by decide)]; exact o4
      · rw [ez 5 (by decide)]; exact o5
      · rw [ez 6 (by decide)]; exact o6
      · rw [ez 7 (by decide)]; exact o7
      · by_cases e : k = j
        · subst e; rw [e8, e12, e16]; exact ⟨by decide, (o8 k hk).2⟩
        · rw [hS.1 (8 + k) (by simp; omega), hS.1 (12 + k) (by simp; omega), hS.1 (16 + k) (by simp; omega)]; exact o8 k hk
    · simp only [nb_gAsA]; simp [hkj]
    · rw [nb_gAsA, e8]; simp; rfl
    · rw [nb_gAsA, e12]; simp; exact hm.2.1
    · rw [nb_gAsA, e16]; simp; exact hm.2.2.1
    · rw [nb_gAsA]; simp; exact hm.2.2.2 i hi
/-- the class's refusals of an item -/
theorem nb_itR {S : nb_S} {σ : nw_ST} {K : Int32 → nw_ST → Prop} {a1 a2 a3 : Int32} (hO : nb_OK S) (hC : nb_C S σ) (hbad : (v5_in a1 0 3 = 0 ∨ v5_in a2 0 2 = 0) → K (-2) σ) (hfind : ∀ j f v : Nat, j < 4 → f < 3 → a1 = nI j → a2 = nI f → (S.1 (8 + j) = 1 ∧ v = 1 ∨ S.1 (8 + j) = 0 ∧ ¬ S.1 (12 + j) = f ∧ v = 3 ∨ S.1 (8 + j) = 0 ∧ S.1 (12 + j) = f ∧ v4_isBelow a3 (nI (S.1 (16 + j))) = 0 ∧ v = 2) → K (-10 - nI v) (nw_sS σ 0 11 (nI v)))
    (hok : ∀ j f i : Nat, j < 4 → f < 3 → i < S.1 (16 + j) → a1 = nI j → a2 = nI f → a3 = nI i → S.1 (8 + j) = 0 → S.1 (12 + j) = f → K 0 σ) : f4_itemRefusal K σ a1 a2 a3 := by
  unfold f4_itemRefusal f4_itemRefusal_70 f4_finding
  refine ⟨fun z => hbad (Or.inr ((nb_below 2 (by decide)).mp z)), fun z => ?_⟩
  have z' : ¬ v5_in a2 0 2 = 0 := fun w => z ((nb_below 2 (by decide)).mpr w)
  obtain ⟨f, -, hf, rfl⟩ := nb_in 0 2 (by decide) (by decide) z'
  refine nb_shR hO hC (fun w => ⟨fun w => absurd w (by decide), fun _ => hbad (Or.inl w)⟩) (fun j hj e hl => ⟨fun w => absurd w (by decide), fun _ => hfind j f 1 hj (by omega) e rfl (Or.inl ⟨hl, rfl⟩)⟩) (fun j hj e hl => ⟨fun _ => ?_, fun w => absurd rfl w⟩)
  subst e
  have hs := hC.1.sh hj
  have hb := hO.2.2.2.2.2.2.2 j hj
  rw [nI_clamp (by omega), hs.2.1, hs.2.2.1]
  refine ⟨nb_in4 hj, fun w => ⟨nb_in4 hj, fun w2 => ?_, fun w2 => ?_⟩, fun w => ?_⟩
  · exact hfind j f 2 hj (by omega) rfl rfl (Or.inr (Or.inr ⟨hl, (nI_eq (by omega) (by omega)).mp w, w2, rfl⟩))
  · obtain ⟨i, hi, ei⟩ := nb_szj hb.2.2 w2
    exact hok j f i hj (by omega) hi rfl rfl ei hl ((nI_eq (by omega) (by omega)).mp w)
  · exact hfind j f 3 hj (by omega) rfl rfl (Or.inr (Or.inl ⟨hl, fun e => w (by rw [e]), rfl⟩))
/-- the reference's lacks -/
theorem nb_lack {S : nb_S} {σ : nw_ST} (hM : nb_MP S σ) {j f : Nat} (hj : j < 4) (a3 : Int32) : v5_lacks σ (nI j) (nI f) a3 = (if S.1 (8 + j) = 1 ∨ 1 < S.1 (8 + j) then 1 else if nI (S.1 (12 + j)) = nI f then (if v5_in a3 0 (nI (S.1 (16 + j)) - 1) = 0 then 2 else 0) else 3) ∧ o5_lacks σ (nI j) (nI f) a3 := by
  have hm := hM.sh hj
  unfold v5_lacks o5_lacks
  rw [nI_clamp (by omega), hm.1, hm.2.1, hm.2.2.1]
  refine ⟨?_, nb_in4 hj, fun _ => trivial, fun _ => ⟨nb_in4 hj, fun _ => nb_in4 hj, fun _ => trivial⟩⟩
  by_cases h : S.1 (8 + j) = 0
  · rw [h, if_neg (by decide : ¬ nI (1 - 0) = 0), if_neg (by omega : ¬ (0 = 1 ∨ 1 < 0))]
  · rw [show 1 - S.1 (8 + j) = 0 by omega, if_pos (by rfl), if_pos (by omega)]
theorem nb_step33 : nl_S33 nb_Inv := by
  intro σ hI a1 a2 a3
  obtain ⟨S, hO, hC, hM⟩ := hI
  have hInv : nb_Inv σ := ⟨S, hO, hC, hM⟩
  unfold f4_get f4_get_27
  refine nb_itR hO hC (fun z => ⟨⟨fun w => absurd w (by decide), fun _ => trivial⟩, ?_⟩) (fun j f v hj hf e1 e2 hv => ⟨⟨fun w => ?_, fun _ => trivial⟩, ?_⟩) (fun j f i hj hf hi e1 e2 e3 hl hfo => ⟨⟨fun _ => ?_, fun w => absurd rfl w⟩, ?_⟩)
  · rw [if_neg (by decide)]
    unfold f5_get f5_get_16; rw [nb_isSheet]
    rcases z with z | z
    · exact ⟨fun _ => ⟨rfl, hInv⟩, fun w => absurd z w⟩
    · exact ⟨fun _ => ⟨rfl, hInv⟩, fun _ => ⟨fun _ => ⟨rfl, hInv⟩, fun w => absurd z w⟩⟩
  · exfalso
    rcases hv with ⟨-, rfl⟩ | ⟨-, -, rfl⟩ | ⟨-, -, -, rfl⟩ <;> exact absurd w (by decide)
  · have hv3 : v = 1 ∨ v = 2 ∨ v = 3 := by rcases hv with ⟨-, rfl⟩ | ⟨-, -, rfl⟩ | ⟨-, -, -, rfl⟩ <;> simp
    rw [if_neg (by rcases hv3 with rfl | rfl | rfl <;> decide)]
    subst e1; subst e2
    have hM2 := nb_fdCo hM (nI v)
    have hb := hO.2.2.2.2.2.2.2 j hj
    obtain ⟨hlk, hol⟩ := nb_lack hM2 (f := f) hj a3
    have hvl : v5_lacks (nw_sS σ 0 11 (nI v)) (nI j) (nI f) a3 = nI v := by
      rw [hlk]
      rcases hv with ⟨h1, rfl⟩ | ⟨h1, h2, rfl⟩ | ⟨h1, h2, h3, rfl⟩
      · rw [if_pos (Or.inl h1)]; rfl
      · rw [if_neg (by omega), if_neg (fun w => h2 ((nI_eq (by omega) (by omega)).mp w))]; rfl
      · rw [if_neg (by omega), if_pos (by rw [h2]), if_pos ((nb_sz hb.2.2).mp h3)]; rfl
    show f5_get _ _ (nI j) (nI f) a3
    unfold f5_get f5_get_16; rw [nb_isSheet, hvl]
    refine ⟨fun w => absurd w (nb_n03 hj), fun _ => ⟨fun w => absurd w (nb_nin (lo := 0) (hi := 2) (by omega) (by omega) (by decide)), fun _ => ⟨hol, fun w => ?_, fun _ => ⟨rfl, nb_fdI hO hC hM v (by omega)⟩⟩⟩⟩
    exfalso; rcases hv3 with rfl | rfl | rfl <;> exact absurd w (by decide)
  · subst e1; subst e3
    have hb := hO.2.2.2.2.2.2.2 j hj
    refine ⟨nb_in4 hj, ?_⟩
    rw [nI_clamp (by omega)]
    rcases (show j = 0 ∨ j = 1 ∨ j = 2 ∨ j = 3 by omega) with rfl | rfl | rfl | rfl <;> exact vp_in_nI (N := 48) (by omega) (by decide)
  · rw [if_pos rfl]
    subst e1; subst e2; subst e3
    have hb := hO.2.2.2.2.2.2.2 j hj
    have hs := hC.1.sh hj
    have hm := hM.sh hj
    obtain ⟨hlk, hol⟩ := nb_lack hM (f := f) hj (nI i)
    have hvl : v5_lacks σ (nI j) (nI f) (nI i) = 0 := by
      rw [hlk, if_neg (by omega), if_pos (by rw [hfo]), if_neg]
      intro w
      have w2 := (nb_sz hb.2.2).mpr w
      rw [nb_below_iff] at w2
      exact w2 ⟨nI_pos' (by omega), (nI_ltI (by omega) (by omega)).mpr hi⟩
    rw [nI_clamp (by omega), nI_clamp (by omega)]
    have hq : nw_rf (27 + 2 * j) 0 = 28 + 2 * j := by rcases (show j = 0 ∨ j = 1 ∨ j = 2 ∨ j = 3 by omega) with rfl | rfl | rfl | rfl <;> rfl
    rw [hq, hs.2.2.2 i (by omega)]
    show f5_get _ σ (nI j) (nI f) (nI i)
    unfold f5_get f5_get_16; rw [nb_isSheet, hvl]
    have ex : ((48 : Int32) * nI j) + nI i = nI (48 * j + i) := by rw [show (48 : Int32) = nI 48 from rfl, pk_mul, nI_add]
    rw [ex, nI_clamp (by omega), hm.2.2.2 i (by omega)]
    exact ⟨fun w => absurd w (nb_n03 hj), fun _ => ⟨fun w => absurd w (nb_nin (lo := 0) (hi := 2) (by omega) (by omega) (by decide)), fun _ => ⟨hol, fun _ => ⟨vp_in_nI (by omega) (by decide), rfl, hInv⟩, fun w => absurd (by decide) w⟩⟩⟩
