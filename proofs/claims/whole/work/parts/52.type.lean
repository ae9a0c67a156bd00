/-! ===== type, wipe, undo ===== -/
theorem nb_isText (a : Int32) : v5_isText a = v5_in a 0 1 := rfl
theorem nb_01 {a : Int32} (z : ¬ v5_in a 0 1 = 0) : a = nI 0 ∨ a = nI 1 := by
  obtain ⟨j, -, hj, rfl⟩ := nb_in 0 1 (by decide) (by decide) z
  rcases (show j = 0 ∨ j = 1 by omega) with rfl | rfl
  · exact Or.inl rfl
  · exact Or.inr rfl
def nb_tyS0 (S : nb_S) (b : Nat) : nb_S := nb_setN (nb_setA S 0 (S.1 0) b) 0 (S.1 0 + 1)
theorem nb_tySC0 {S : nb_S} {b : Nat} : nb_SC [0] [0] [] S (nb_tyS0 S b) := (nb_SC.rf.sA _ _ (by decide)).sN _ (by decide)
theorem nb_cutSC0 {S : nb_S} {m : Nat} : nb_SC [0] [0] [] S (nb_setN S 0 m) := nb_SC.rf.sN _ (by decide)
theorem nb_tyOK0 {S : nb_S} {b : Nat} (hO : nb_OK S) (h : S.1 0 < 35) (hb : b < 256) : nb_OK (nb_tyS0 S b) := by
  obtain ⟨⟨o1, o1b, o1c, o1d⟩, o2, o3, o4, o5, o6, o7, o8⟩ := hO
  refine ⟨⟨by show S.1 0 + 1 ≤ 35; omega, o1b, fun i hi => ?_, o1d⟩, o2, o3, o4, o5, o6, o7, nb_OKs o8 (fun k hk => nb_tySC0.1 k (by simp; omega))⟩
  have hi' : i < S.1 0 + 1 := hi
  show (if i = S.1 0 then b else S.2.1 0 i) < 256
  by_cases e : i = S.1 0
  · rw [if_pos e]; exact hb
  · rw [if_neg e]; exact o1c i (by omega)
theorem nb_cutOK0 {S : nb_S} {m : Nat} (hO : nb_OK S) (h : m ≤ S.1 0) : nb_OK (nb_setN S 0 m) := by
  obtain ⟨⟨o1, o1b, o1c, o1d⟩, o2, o3, o4, o5, o6, o7, o8⟩ := hO
  exact ⟨⟨by show m ≤ 35; omega, o1b, fun i hi => o1c i (by have : i < m := hi; omega), o1d⟩, o2, o3, o4, o5, o6, o7, nb_OKs o8 (fun k hk => nb_cutSC0.1 k (by simp; omega))⟩
theorem nb_cut40 {S : nb_S} {σ : nw_ST} {K : nw_ST → Prop} {m : Nat} (hO : nb_OK S) (hC : nb_C S σ) (h : m ≤ S.1 0) (hk : ∀ s, nb_CP (nb_setN S 0 m) s → nb_Ch nb_cS nb_cA σ s → K s) : f2_cutTo K σ 1 (nI m) := by
  have hp := (nb_CP_iff.mp hC.1) 2 (by decide)
  have hb := hO.1.1
  unfold f2_cutTo
  have hch0 : nb_Ch [(1, 4), (1, 5), (1, 6)] [2, 3] σ (nw_sS σ 1 4 (nI m)) := nb_Ch.rf.sS _ (by simp)
  refine nb_parse0 (f := S.2.1 0) (n := m) (by omega) (by simp [nb_gSsS]) (fun i hi => hp.2.1 i (by omega)) (fun i hi => hO.1.2.2.1 i (by omega)) (fun s hT hch => hk s ?_ ?_)
  · exact hC.1.upd 2 (hch0.tr (hch.up (by simp) (by simp))) nb_cutSC0 (by decide) hT
  · exact (hch0.tr (hch.up (by simp) (by simp))).c (by decide +kernel) (by decide +kernel)
theorem nb_ty40 {S : nb_S} {σ : nw_ST} {K : Int32 → nw_ST → Prop} {b : Nat} (hO : nb_OK S) (hC : nb_C S σ) (hb : b < 256) (hfull : S.1 0 = 35 → K 0 σ) (hk : S.1 0 < 35 → ∀ s, nb_CP (nb_tyS0 S b) s → nb_Ch nb_cS nb_cA σ s → K 1 s) : f2_append K σ 1 (nI b) := by
  have hp := (nb_CP_iff.mp hC.1) 2 (by decide)
  have hbd := hO.1.1
  unfold f2_append
  rw [show nw_rf 1 0 = 2 from rfl, show nw_len 2 = 35 from rfl]
  simp only [nb_gSsA, hp.1, nI_clamp (show S.1 0 < 2 ^ 31 by omega), nI_1]
  refine ⟨fun z => ?_, fun z => ?_⟩
  · have hlt : S.1 0 < 35 := (nI_ltI (by omega) (by decide)).mp z
    refine ⟨vp_in_nI hlt (by decide), ?_⟩
    have hch0 : nb_Ch [(1, 4), (1, 5), (1, 6)] [2, 3] σ (nw_sS (nw_sA σ 2 (S.1 0) (nI b)) 1 4 (nI (S.1 0 + 1))) := (nb_Ch.rf.sA _ _ (by simp)).sS _ (by simp)
    refine nb_parse0 (f := fun l => if l = S.1 0 then b else S.2.1 0 l) (n := S.1 0 + 1) (by omega) (by simp [nb_gSsS]) (fun i hi => ?_) (fun i hi => ?_) (fun s hT hch => hk hlt s ?_ ?_)
    · rw [nb_gAsS, nb_gAsA, if_pos rfl]
      by_cases e : i = S.1 0
      · rw [if_pos e, if_pos e]
      · rw [if_neg e, if_neg e]; exact hp.2.1 i (by omega)
    · by_cases e : i = S.1 0
      · rw [if_pos e]; exact hb
      · rw [if_neg e]; exact hO.1.2.2.1 i (by omega)
    · exact hC.1.upd 2 (hch0.tr (hch.up (by simp) (by simp))) nb_tySC0 (by decide) hT
    · exact (hch0.tr (hch.up (by simp) (by simp))).c (by decide +kernel) (by decide +kernel)
  · refine hfull ?_
    rcases Nat.lt_or_ge (S.1 0) 35 with h | h
    · exact absurd ((nI_ltI (by omega) (by decide)).mpr h : nI (S.1 0) < nI 35) z
    · omega
theorem nb_type0 {S : nb_S} {σ : nw_ST} {b : Nat} (hO : nb_OK S) (hC : nb_C S σ) (hM : nb_MP S σ) (hb : b < 256) : f4_type (fun (r1 : Int32) (s1 : nw_ST) => (f5_type (fun (r2 : Int32) (s2 : nw_ST) => r1 = r2 ∧ nb_Inv s2) s1 (nI 0) (nI b))) σ (nI 0) (nI b) := by
  have hInv : nb_Inv σ := ⟨S, hO, hC, hM⟩
  have hbd := hO.1.1
  have hbd0 := hO.1.1
  have z2 : ¬ v5_in (nI b) 0 255 = 0 := nb_nin (lo := 0) (hi := 255) (by omega) (by omega) (by decide)
  unfold f4_type f4_type_18
  refine ⟨fun w => absurd w (by decide), fun _ => ⟨fun w => absurd ((nb_below 255 (by decide)).mp w) z2, fun _ => ?_⟩⟩
  rw [show v4_textOf (nI 0) = 1 from rfl]
  refine nb_ty40 hO hC hb (fun hf => ⟨fun _ => ?_, fun z => absurd rfl z⟩) (fun hlt s hs hch => ⟨fun z => absurd z (by decide), fun _ => ?_⟩)
  · have hm := (nb_MP_iff.mp hM) 0 (by decide)
    show f5_type _ _ _ _
    unfold f5_type f5_type_18 f5_type_38
    rw [nb_isText]
    refine ⟨fun w => absurd w (by decide), fun _ => ⟨fun w => absurd w z2, fun _ => ⟨vp_in_nI (by decide) (by decide), fun _ => ⟨rfl, hInv⟩, fun w => absurd ?_ w⟩⟩⟩
    show nw_gA σ 38 0 = _
    rw [hm.1, hf]; rfl
  · have hch2 : nb_Ch nb_cS nb_cA σ (nw_sS s 0 12 0) := hch.sS _ (by decide +kernel)
    have hM2 := hM.other hch2
    have hC2 := nb_flag0 hs
    have hr : nw_gS (nw_sS s 0 12 0) 1 4 = nI (S.1 0 + 1) := ((nb_CP_iff.mp hC2.1) 2 (by decide)).1
    rw [hr]
    generalize nw_sS s 0 12 0 = s at *
    have hm := (nb_MP_iff.mp hM2) 0 (by decide)
    have hn : nw_gA s 38 0 = nI (S.1 0) := hm.1
    show f5_type _ s (nI 0) (nI b)
    unfold f5_type f5_type_18 f5_type_38
    rw [nb_isText, show (nI 0).toNatClampNeg = 0 from rfl]
    have ex : (47 : Int32) * nI 0 + nI (S.1 0) = nI (S.1 0) := by rw [show (47 : Int32) = nI 47 from rfl, pk_mul, nI_add]; simp
    simp only [nb_gAsA, hn, ex, nI_clamp (show S.1 0 < 2 ^ 31 by omega)]
    refine ⟨fun w => absurd w (by decide), fun _ => ⟨fun w => absurd w z2, fun _ => ⟨vp_in_nI (by decide) (by decide), fun w => ?_, fun w => ⟨vp_in_nI (by decide) (by decide), vp_in_nI (by omega) (by decide), vp_in_nI (by decide) (by decide), vp_in_nI (by decide) (by decide), vp_in_nI (by decide) (by decide), ?_⟩⟩⟩⟩
    · exfalso
      have w : nI (S.1 0) = nI 35 := w
      have := (nI_eq (by omega) (by decide)).mp w
      omega
    · simp only [show (38 : Nat) ≠ 39 by decide, if_true, if_false, nI_1]
      have hch3 : nb_Ch [] [38, 39] s (nw_sA (nw_sA s 39 (S.1 0) (nI b)) 38 0 (nI (S.1 0 + 1))) := (nb_Ch.rf.sA _ _ (by simp)).sA _ _ (by simp)
      refine ⟨trivial, nb_tyS0 S b, nb_tyOK0 hO hlt hb, hC2.other (hch3.up (by decide +kernel) (by decide +kernel)), hM2.upd 0 hch3 nb_tySC0 (by decide) ?_⟩
      refine ⟨?_, ?_, fun i hi => ?_, fun i hi => ?_⟩
      · simp [nb_gAsA]; rfl
      · simp [nb_gAsA]; exact hm.2.1
      · have hi' : i < S.1 0 + 1 := hi
        show _ = nI (if i = S.1 0 then b else S.2.1 0 i)
        simp only [nb_gAsA]
        by_cases e : i = S.1 0
        · simp [e]
        · have h1 := hm.2.2.1 i (by omega)
          simp [e, h1]
      · have hi' : i < S.1 1 := hi
        have h1 := hm.2.2.2 i hi'
        have hne : ¬ 47 + i = S.1 0 := by omega
        simp [nb_gAsA, hne, h1]; rfl
theorem nb_cut50 {S : nb_S} {s : nw_ST} {m : Nat} (hM : nb_MP S s) (h : m ≤ S.1 0) : nb_MP (nb_setN S 0 m) (nw_sA s 38 0 (nI m)) ∧ nb_Ch nb_mS nb_mA s (nw_sA s 38 0 (nI m)) := by
  have hm := (nb_MP_iff.mp hM) 0 (by decide)
  have hch : nb_Ch [] [38, 39] s (nw_sA s 38 0 (nI m)) := nb_Ch.rf.sA _ _ (by simp)
  exact ⟨hM.upd 0 hch nb_cutSC0 (by decide) ⟨by simp [nb_gAsA]; rfl, by simp [nb_gAsA]; exact hm.2.1, fun i hi => hm.2.2.1 i (by have : i < m := hi; omega), fun i hi => hm.2.2.2 i hi⟩, hch.up (by decide +kernel) (by decide +kernel)⟩
theorem nb_wipe0 {S : nb_S} {σ : nw_ST} (hO : nb_OK S) (hC : nb_C S σ) (hM : nb_MP S σ) : f4_wipe (fun (r1 : Int32) (s1 : nw_ST) => (f5_wipe (fun (r2 : Int32) (s2 : nw_ST) => r1 = r2 ∧ nb_Inv s2) s1 (nI 0))) σ (nI 0) := by
  have hp := (nb_CP_iff.mp hC.1) 2 (by decide)
  unfold f4_wipe
  refine ⟨fun w => absurd w (by decide), fun _ => ?_⟩
  rw [show v4_textOf (nI 0) = 1 from rfl]
  refine nb_cut40 (m := 0) hO hC (Nat.zero_le _) (fun s hs hch => ?_)
  have hch2 : nb_Ch nb_cS nb_cA σ (nw_sS s 0 12 0) := hch.sS _ (by decide +kernel)
  have hM2 := hM.other hch2
  have hm := (nb_MP_iff.mp hM2) 0 (by decide)
  obtain ⟨h1, h2⟩ := nb_cut50 (m := 0) hM2 (Nat.zero_le _)
  show f5_wipe _ _ _
  unfold f5_wipe
  rw [nb_isText, show (nI 0).toNatClampNeg = 0 from rfl]
  exact ⟨fun w => absurd w (by decide), fun _ => ⟨vp_in_nI (by decide) (by decide), vp_in_nI (by decide) (by decide), hp.1.trans (hm.1).symm, _, nb_cutOK0 hO (Nat.zero_le _), (nb_flag0 hs).other h2, h1⟩⟩
theorem nb_undo0 {S : nb_S} {σ : nw_ST} (hO : nb_OK S) (hC : nb_C S σ) (hM : nb_MP S σ) : f4_undo (fun (r1 : Int32) (s1 : nw_ST) => (f5_undo (fun (r2 : Int32) (s2 : nw_ST) => r1 = r2 ∧ nb_Inv s2) s1 (nI 0))) σ (nI 0) := by
  have hInv : nb_Inv σ := ⟨S, hO, hC, hM⟩
  have hp := (nb_CP_iff.mp hC.1) 2 (by decide)
  have hb := hO.1.1
  unfold f4_undo
  refine ⟨fun w => absurd w (by decide), fun _ => ?_⟩
  rw [show v4_textOf (nI 0) = 1 from rfl, hp.1]
  refine ⟨fun z => ?_, fun z => ?_⟩
  · have hm := (nb_MP_iff.mp hM) 0 (by decide)
    show f5_undo _ _ _
    unfold f5_undo
    rw [nb_isText, show (nI 0).toNatClampNeg = 0 from rfl, hm.1]
    exact ⟨fun w => absurd w (by decide), fun _ => ⟨vp_in_nI (by decide) (by decide), fun _ => ⟨rfl, hInv⟩, fun w => absurd z w⟩⟩
  · obtain ⟨m, hm1⟩ : ∃ m, S.1 0 = m + 1 := ⟨S.1 0 - 1, by
      have : S.1 0 ≠ 0 := fun e => z (by rw [e]; rfl)
      omega⟩
    rw [hm1, nI_pred]
    refine nb_cut40 (m := m) hO hC (by omega) (fun s hs hch => ?_)
    have hch2 : nb_Ch nb_cS nb_cA σ (nw_sS s 0 12 0) := hch.sS _ (by decide +kernel)
    have hM2 := hM.other hch2
    have hC2 := nb_flag0 hs
    have hr : nw_gS (nw_sS s 0 12 0) 1 4 = nI m := ((nb_CP_iff.mp hC2.1) 2 (by decide)).1
    rw [hr]
    have hm := (nb_MP_iff.mp hM2) 0 (by decide)
    obtain ⟨h1, h2⟩ := nb_cut50 (m := m) hM2 (by omega)
    show f5_undo _ _ _
    unfold f5_undo
    rw [nb_isText, show (nI 0).toNatClampNeg = 0 from rfl, hm.1, hm1]
    refine ⟨fun w => absurd w (by decide), fun _ => ⟨vp_in_nI (by decide) (by decide), fun w => absurd ((nb_eq0 (by omega)).mp w) (by omega), fun _ => ⟨vp_in_nI (by decide) (by decide), vp_in_nI (by decide) (by decide), vp_in_nI (by decide) (by decide), ?_⟩⟩⟩
    rw [nI_pred]
    exact ⟨by rw [nb_gAsA]; simp, _, nb_cutOK0 hO (by omega), hC2.other h2, h1⟩
def nb_tyS1 (S : nb_S) (b : Nat) : nb_S := nb_setN (nb_setA S 1 (S.1 1) b) 1 (S.1 1 + 1)
theorem nb_tySC1 {S : nb_S} {b : Nat} : nb_SC [1] [1] [] S (nb_tyS1 S b) := (nb_SC.rf.sA _ _ (by decide)).sN _ (by decide)
theorem nb_cutSC1 {S : nb_S} {m : Nat} : nb_SC [1] [1] [] S (nb_setN S 1 m) := nb_SC.rf.sN _ (by decide)
theorem nb_tyOK1 {S : nb_S} {b : Nat} (hO : nb_OK S) (h : S.1 1 < 47) (hb : b < 256) : nb_OK (nb_tyS1 S b) := by
  obtain ⟨⟨o1, o1b, o1c, o1d⟩, o2, o3, o4, o5, o6, o7, o8⟩ := hO
  refine ⟨⟨o1, by show S.1 1 + 1 ≤ 47; omega, o1c, fun i hi => ?_⟩, o2, o3, o4, o5, o6, o7, nb_OKs o8 (fun k hk => nb_tySC1.1 k (by simp; omega))⟩
  have hi' : i < S.1 1 + 1 := hi
  show (if i = S.1 1 then b else S.2.1 1 i) < 256
  by_cases e : i = S.1 1
  · rw [if_pos e]; exact hb
  · rw [if_neg e]; exact o1d i (by omega)
theorem nb_cutOK1 {S : nb_S} {m : Nat} (hO : nb_OK S) (h : m ≤ S.1 1) : nb_OK (nb_setN S 1 m) := by
  obtain ⟨⟨o1, o1b, o1c, o1d⟩, o2, o3, o4, o5, o6, o7, o8⟩ := hO
  exact ⟨⟨o1, by show m ≤ 47; omega, o1c, fun i hi => o1d i (by have : i < m := hi; omega)⟩, o2, o3, o4, o5, o6, o7, nb_OKs o8 (fun k hk => nb_cutSC1.1 k (by simp; omega))⟩
theorem nb_cut41 {S : nb_S} {σ : nw_ST} {K : nw_ST → Prop} {m : Nat} (hO : nb_OK S) (hC : nb_C S σ) (h : m ≤ S.1 1) (hk : ∀ s, nb_CP (nb_setN S 1 m) s → nb_Ch nb_cS nb_cA σ s → K s) : f2_cutTo K σ 4 (nI m) := by
  have hp := (nb_CP_iff.mp hC.1) 3 (by decide)
  have hb := hO.1.2.1
  unfold f2_cutTo
  have hch0 : nb_Ch [(4, 4), (4, 5), (4, 6)] [5, 6] σ (nw_sS σ 4 4 (nI m)) := nb_Ch.rf.sS _ (by simp)
  refine nb_parse1 (f := S.2.1 1) (n := m) (by omega) (by simp [nb_gSsS]) (fun i hi => hp.2.1 i (by omega)) (fun i hi => hO.1.2.2.2 i (by omega)) (fun s hT hch => hk s ?_ ?_)
  · exact hC.1.upd 3 (hch0.tr (hch.up (by simp) (by simp))) nb_cutSC1 (by decide) hT
  · exact (hch0.tr (hch.up (by simp) (by simp))).c (by decide +kernel) (by decide +kernel)
theorem nb_ty41 {S : nb_S} {σ : nw_ST} {K : Int32 → nw_ST → Prop} {b : Nat} (hO : nb_OK S) (hC : nb_C S σ) (hb : b < 256) (hfull : S.1 1 = 47 → K 0 σ) (hk : S.1 1 < 47 → ∀ s, nb_CP (nb_tyS1 S b) s → nb_Ch nb_cS nb_cA σ s → K 1 s) : f2_append K σ 4 (nI b) := by
  have hp := (nb_CP_iff.mp hC.1) 3 (by decide)
  have hbd := hO.1.2.1
  unfold f2_append
  rw [show nw_rf 4 0 = 5 from rfl, show nw_len 5 = 47 from rfl]
  simp only [nb_gSsA, hp.1, nI_clamp (show S.1 1 < 2 ^ 31 by omega), nI_1]
  refine ⟨fun z => ?_, fun z => ?_⟩
  · have hlt : S.1 1 < 47 := (nI_ltI (by omega) (by decide)).mp z
    refine ⟨vp_in_nI hlt (by decide), ?_⟩
    have hch0 : nb_Ch [(4, 4), (4, 5), (4, 6)] [5, 6] σ (nw_sS (nw_sA σ 5 (S.1 1) (nI b)) 4 4 (nI (S.1 1 + 1))) := (nb_Ch.rf.sA _ _ (by simp)).sS _ (by simp)
    refine nb_parse1 (f := fun l => if l = S.1 1 then b else S.2.1 1 l) (n := S.1 1 + 1) (by omega) (by simp [nb_gSsS]) (fun i hi => ?_) (fun i hi => ?_) (fun s hT hch => hk hlt s ?_ ?_)
    · rw [nb_gAsS, nb_gAsA, if_pos rfl]
      by_cases e : i = S.1 1
      · rw [if_pos e, if_pos e]
      · rw [if_neg e, if_neg e]; exact hp.2.1 i (by omega)
    · by_cases e : i = S.1 1
      · rw [if_pos e]; exact hb
      · rw [if_neg e]; exact hO.1.2.2.2 i (by omega)
    · exact hC.1.upd 3 (hch0.tr (hch.up (by simp) (by simp))) nb_tySC1 (by decide) hT
    · exact (hch0.tr (hch.up (by simp) (by simp))).c (by decide +kernel) (by decide +kernel)
  · refine hfull ?_
    rcases Nat.lt_or_ge (S.1 1) 47 with h | h
    · exact absurd ((nI_ltI (by omega) (by decide)).mpr h : nI (S.1 1) < nI 47) z
    · omega
theorem nb_type1 {S : nb_S} {σ : nw_ST} {b : Nat} (hO : nb_OK S) (hC : nb_C S σ) (hM : nb_MP S σ) (hb : b < 256) : f4_type (fun (r1 : Int32) (s1 : nw_ST) => (f5_type (fun (r2 : Int32) (s2 : nw_ST) => r1 = r2 ∧ nb_Inv s2) s1 (nI 1) (nI b))) σ (nI 1) (nI b) := by
  have hInv : nb_Inv σ := ⟨S, hO, hC, hM⟩
  have hbd := hO.1.2.1
  have hbd0 := hO.1.1
  have z2 : ¬ v5_in (nI b) 0 255 = 0 := nb_nin (lo := 0) (hi := 255) (by omega) (by omega) (by decide)
  unfold f4_type f4_type_18
  refine ⟨fun w => absurd w (by decide), fun _ => ⟨fun w => absurd ((nb_below 255 (by decide)).mp w) z2, fun _ => ?_⟩⟩
  rw [show v4_textOf (nI 1) = 4 from rfl]
  refine nb_ty41 hO hC hb (fun hf => ⟨fun _ => ?_, fun z => absurd rfl z⟩) (fun hlt s hs hch => ⟨fun z => absurd z (by decide), fun _ => ?_⟩)
  · have hm := (nb_MP_iff.mp hM) 0 (by decide)
    show f5_type _ _ _ _
    unfold f5_type f5_type_18 f5_type_38
    rw [nb_isText]
    refine ⟨fun w => absurd w (by decide), fun _ => ⟨fun w => absurd w z2, fun _ => ⟨vp_in_nI (by decide) (by decide), fun _ => ⟨rfl, hInv⟩, fun w => absurd ?_ w⟩⟩⟩
    show nw_gA σ 38 1 = _
    rw [hm.2.1, hf]; rfl
  · have hch2 : nb_Ch nb_cS nb_cA σ (nw_sS s 0 12 0) := hch.sS _ (by decide +kernel)
    have hM2 := hM.other hch2
    have hC2 := nb_flag0 hs
    have hr : nw_gS (nw_sS s 0 12 0) 4 4 = nI (S.1 1 + 1) := ((nb_CP_iff.mp hC2.1) 3 (by decide)).1
    rw [hr]
    generalize nw_sS s 0 12 0 = s at *
    have hm := (nb_MP_iff.mp hM2) 0 (by decide)
    have hn : nw_gA s 38 1 = nI (S.1 1) := hm.2.1
    show f5_type _ s (nI 1) (nI b)
    unfold f5_type f5_type_18 f5_type_38
    rw [nb_isText, show (nI 1).toNatClampNeg = 1 from rfl]
    have ex : (47 : Int32) * nI 1 + nI (S.1 1) = nI (47 + S.1 1) := by rw [show (47 : Int32) = nI 47 from rfl, pk_mul, nI_add]
    simp only [nb_gAsA, hn, ex, nI_clamp (show 47 + S.1 1 < 2 ^ 31 by omega)]
    refine ⟨fun w => absurd w (by decide), fun _ => ⟨fun w => absurd w z2, fun _ => ⟨vp_in_nI (by decide) (by decide), fun w => ?_, fun w => ⟨vp_in_nI (by decide) (by decide), vp_in_nI (by omega) (by decide), vp_in_nI (by decide) (by decide), vp_in_nI (by decide) (by decide), vp_in_nI (by decide) (by decide), ?_⟩⟩⟩⟩
    · exfalso
      have w : nI (S.1 1) = nI 47 := w
      have := (nI_eq (by omega) (by decide)).mp w
      omega
    · simp only [show (38 : Nat) ≠ 39 by decide, if_true, if_false, nI_1]
      have hch3 : nb_Ch [] [38, 39] s (nw_sA (nw_sA s 39 (47 + S.1 1) (nI b)) 38 1 (nI (S.1 1 + 1))) := (nb_Ch.rf.sA _ _ (by simp)).sA _ _ (by simp)
      refine ⟨trivial, nb_tyS1 S b, nb_tyOK1 hO hlt hb, hC2.other (hch3.up (by decide +kernel) (by decide +kernel)), hM2.upd 0 hch3 nb_tySC1 (by decide) ?_⟩
      refine ⟨?_, ?_, fun i hi => ?_, fun i hi => ?_⟩
      · simp [nb_gAsA]; exact hm.1
      · simp [nb_gAsA]; rfl
      · have hi' : i < S.1 0 := hi
        have h1 := hm.2.2.1 i hi'
        have hne : ¬ i = 47 + S.1 1 := by omega
        simp [nb_gAsA, hne, h1]; rfl
      · have hi' : i < S.1 1 + 1 := hi
        show _ = nI (if i = S.1 1 then b else S.2.1 1 i)
        simp only [nb_gAsA]
        by_cases e : i = S.1 1
        · simp [e]
        · have h1 := hm.2.2.2 i (by omega)
          have hne : ¬ 47 + i = 47 + S.1 1 := by omega
          simp [e, h1]
theorem nb_cut51 {S : nb_S} {s : nw_ST} {m : Nat} (hM : nb_MP S s) (h : m ≤ S.1 1) : nb_MP (nb_setN S 1 m) (nw_sA s 38 1 (nI m)) ∧ nb_Ch nb_mS nb_mA s (nw_sA s 38 1 (nI m)) := by
  have hm := (nb_MP_iff.mp hM) 0 (by decide)
  have hch : nb_Ch [] [38, 39] s (nw_sA s 38 1 (nI m)) := nb_Ch.rf.sA _ _ (by simp)
  exact ⟨hM.upd 0 hch nb_cutSC1 (by decide) ⟨by simp [nb_gAsA]; exact hm.1, by simp [nb_gAsA]; rfl, fun i hi => hm.2.2.1 i hi, fun i hi => hm.2.2.2 i (by have : i < m := hi; omega)⟩, hch.up (by decide +kernel) (by decide +kernel)⟩
theorem nb_wipe1 {S : nb_S} {σ : nw_ST} (hO : nb_OK S) (hC : nb_C S σ) (hM : nb_MP S σ) : f4_wipe (fun (r1 : Int32) (s1 : nw_ST) => (f5_wipe (fun (r2 : Int32) (s2 : nw_ST) => r1 = r2 ∧ nb_Inv s2) s1 (nI 1))) σ (nI 1) := by
  have hp := (nb_CP_iff.mp hC.1) 3 (by decide)
  unfold f4_wipe
  refine ⟨fun w => absurd w (by decide), fun _ => ?_⟩
  rw [show v4_textOf (nI 1) = 4 from rfl]
  refine nb_cut41 (m := 0) hO hC (Nat.zero_le _) (fun s hs hch => ?_)
  have hch2 : nb_Ch nb_cS nb_cA σ (nw_sS s 0 12 0) := hch.sS _ (by decide +kernel)
  have hM2 := hM.other hch2
  have hm := (nb_MP_iff.mp hM2) 0 (by decide)
  obtain ⟨h1, h2⟩ := nb_cut51 (m := 0) hM2 (Nat.zero_le _)
  show f5_wipe _ _ _
  unfold f5_wipe
  rw [nb_isText, show (nI 1).toNatClampNeg = 1 from rfl]
  exact ⟨fun w => absurd w (by decide), fun _ => ⟨vp_in_nI (by decide) (by decide), vp_in_nI (by decide) (by decide), hp.1.trans (hm.2.1).symm, _, nb_cutOK1 hO (Nat.zero_le _), (nb_flag0 hs).other h2, h1⟩⟩
theorem nb_undo1 {S : nb_S} {σ : nw_ST} (hO : nb_OK S) (hC : nb_C S σ) (hM : nb_MP S σ) : f4_undo (fun (r1 : Int32) (s1 : nw_ST) => (f5_undo (fun (r2 : Int32) (s2 : nw_ST) => r1 = r2 ∧ nb_Inv s2) s1 (nI 1))) σ (nI 1) := by
  have hInv : nb_Inv σ := ⟨S, hO, hC, hM⟩
  have hp := (nb_CP_iff.mp hC.1) 3 (by decide)
  have hb := hO.1.2.1
  unfold f4_undo
  refine ⟨fun w => absurd w (by decide), fun _ => ?_⟩
  rw [show v4_textOf (nI 1) = 4 from rfl, hp.1]
  refine ⟨fun z => ?_, fun z => ?_⟩
  · have hm := (nb_MP_iff.mp hM) 0 (by decide)
    show f5_undo _ _ _
    unfold f5_undo
    rw [nb_isText, show (nI 1).toNatClampNeg = 1 from rfl, hm.2.1]
    exact ⟨fun w => absurd w (by decide), fun _ => ⟨vp_in_nI (by decide) (by decide), fun _ => ⟨rfl, hInv⟩, fun w => absurd z w⟩⟩
  · obtain ⟨m, hm1⟩ : ∃ m, S.1 1 = m + 1 := ⟨S.1 1 - 1, by
      have : S.1 1 ≠ 0 := fun e => z (by rw [e]; rfl)
      omega⟩
    rw [hm1, nI_pred]
    refine nb_cut41 (m := m) hO hC (by omega) (fun s hs hch => ?_)
    have hch2 : nb_Ch nb_cS nb_cA σ (nw_sS s 0 12 0) := hch.sS _ (by decide +kernel)
    have hM2 := hM.other hch2
    have hC2 := nb_flag0 hs
    have hr : nw_gS (nw_sS s 0 12 0) 4 4 = nI m := ((nb_CP_iff.mp hC2.1) 3 (by decide)).1
    rw [hr]
    have hm := (nb_MP_iff.mp hM2) 0 (by decide)
    obtain ⟨h1, h2⟩ := nb_cut51 (m := m) hM2 (by omega)
    show f5_undo _ _ _
    unfold f5_undo
    rw [nb_isText, show (nI 1).toNatClampNeg = 1 from rfl, hm.2.1, hm1]
    refine ⟨fun w => absurd w (by decide), fun _ => ⟨vp_in_nI (by decide) (by decide), fun w => absurd ((nb_eq0 (by omega)).mp w) (by omega), fun _ => ⟨vp_in_nI (by decide) (by decide), vp_in_nI (by decide) (by decide), vp_in_nI (by decide) (by decide), ?_⟩⟩⟩
    rw [nI_pred]
    exact ⟨by rw [nb_gAsA]; simp, _, nb_cutOK1 hO (by omega), hC2.other h2, h1⟩
theorem nb_step0 : nl_S0 nb_Inv := by
  intro σ hI a1 a2
  obtain ⟨S, hO, hC, hM⟩ := hI
  have hInv : nb_Inv σ := ⟨S, hO, hC, hM⟩
  by_cases z1 : v5_in a1 0 1 = 0
  · unfold f4_type f4_type_18 f5_type f5_type_18
    rw [nb_isText]
    exact ⟨fun _ => ⟨fun _ => ⟨rfl, hInv⟩, fun w => absurd z1 w⟩, fun w => absurd ((nb_below 1 (by decide)).mpr z1) w⟩
  by_cases z2 : v5_in a2 0 255 = 0
  · unfold f4_type f4_type_18 f5_type f5_type_18
    rw [nb_isText]
    exact ⟨fun w => absurd ((nb_below 1 (by decide)).mp w) z1, fun _ => ⟨fun _ => ⟨fun w => absurd w z1, fun _ => ⟨fun _ => ⟨rfl, hInv⟩, fun w => absurd z2 w⟩⟩, fun w => absurd ((nb_below 255 (by decide)).mpr z2) w⟩⟩
  obtain ⟨b, -, hb, rfl⟩ := nb_in 0 255 (by decide) (by decide) z2
  rcases nb_01 z1 with rfl | rfl
  · exact nb_type0 hO hC hM (by omega)
  · exact nb_type1 hO hC hM (by omega)
theorem nb_step1 : nl_S1 nb_Inv := by
  intro σ hI a1
  obtain ⟨S, hO, hC, hM⟩ := hI
  have hInv : nb_Inv σ := ⟨S, hO, hC, hM⟩
  by_cases z1 : v5_in a1 0 1 = 0
  · unfold f4_wipe f5_wipe
    rw [nb_isText]
    exact ⟨fun _ => ⟨fun _ => ⟨rfl, hInv⟩, fun w => absurd z1 w⟩, fun w => absurd ((nb_below 1 (by decide)).mpr z1) w⟩
  rcases nb_01 z1 with rfl | rfl
  · exact nb_wipe0 hO hC hM
  · exact nb_wipe1 hO hC hM
theorem nb_step2 : nl_S2 nb_Inv := by
  intro σ hI a1
  obtain ⟨S, hO, hC, hM⟩ := hI
  have hInv : nb_Inv σ := ⟨S, hO, hC, hM⟩
  by_cases z1 : v5_in a1 0 1 = 0
  · unfold f4_undo f5_undo
    rw [nb_isText]
    exact ⟨fun _ => ⟨fun _ => ⟨rfl, hInv⟩, fun w => absurd z1 w⟩, fun w => absurd ((nb_below 1 (by decide)).mpr z1) w⟩
  rcases nb_01 z1 with rfl | rfl
  · exact nb_undo0 hO hC hM
  · exact nb_undo1 hO hC hM
