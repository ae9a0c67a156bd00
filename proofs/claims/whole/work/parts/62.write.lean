/-! ===== write ===== -/
theorem nb_store4t {S : nb_S} {σ : nw_ST} {K : nw_ST → Prop} {j i : Nat} {v : Int32} (hO : nb_OK S) (hC : nb_C S σ) (hj : j < 4) (hi : i < 48) (hk : ∀ s, nb_C (nb_itS S j i (nb_cut (S.1 (12 + j)) v)) s → nb_Ch nb_cS nb_cA σ s → nb_Ch [] [28 + 2 * j] σ s → K s) : f1_store K σ (27 + 2 * j) (nI i) v := by
  have hs := hC.1.sh hj
  have hb := hO.2.2.2.2.2.2.2 j hj
  have hq := nb_q28 hj
  unfold f1_store f1_store_31
  rw [hs.2.1, nb_cutI hb.2.1, hq.1, hq.2, nI_clamp (by omega)]
  have hch : nb_Ch [(27 + 2 * j, 1), (27 + 2 * j, 2), (27 + 2 * j, 3)] [28 + 2 * j] σ (nw_sA σ (28 + 2 * j) i (nb_cut (S.1 (12 + j)) v)) := nb_Ch.rf.sA _ _ (by simp)
  refine ⟨vp_in_nI hi (by decide), hk _ (hC.shU hj hch nb_itSC ⟨hs.1, hs.2.1, hs.2.2.1, fun x hx => ?_⟩) (nb_Ch.rf.sA _ _ (nb_cA28 hj)) (nb_Ch.rf.sA _ _ (by simp))⟩
  rw [nb_gAsA, if_pos rfl, hs.2.2.2 x hx]
  show _ = (if j = j then (fun x => if x = i then _ else S.2.2 j x) else S.2.2 j) x
  rw [if_pos rfl]
def nb_wrS (V : nb_V) (j a : Nat) (S : nb_S) : Nat → nb_S
  | 0 => S
  | i + 1 => nb_itS (nb_wrS V j a S i) j i (nb_cut (S.1 (12 + j)) (nI (nb_at V (a + i))))
theorem nb_wr1 (V : nb_V) (j a : Nat) (S : nb_S) (i : Nat) : (nb_wrS V j a S i).1 = S.1 ∧ (nb_wrS V j a S i).2.1 = S.2.1 := by
  induction i with
  | zero => exact ⟨rfl, rfl⟩
  | succ i ih => exact ih
theorem nb_wrOK {V : nb_V} {j a : Nat} {S : nb_S} (hO : nb_OK S) (i : Nat) : nb_OK (nb_wrS V j a S i) := by
  induction i with
  | zero => exact hO
  | succ i ih => exact ih
theorem nb_step35 : nl_S35 nb_Inv := by
  intro σ hI a1 a2
  obtain ⟨S, hO, hC, hM⟩ := hI
  have hInv : nb_Inv σ := ⟨S, hO, hC, hM⟩
  unfold f4_write
  rw [nb_isTime4]
  refine ⟨fun z => ?_, fun z => ?_⟩
  · show f5_write _ σ a1 a2
    unfold f5_write f5_write_14
    rw [nb_isTime5]
    exact ⟨fun _ => ⟨rfl, hInv⟩, fun y => absurd z y⟩
  obtain ⟨a, -, ha, rfl⟩ := nb_in 0 239 (by decide) (by decide) z
  refine nb_shR hO hC (fun z2 => ⟨fun w => absurd w (by decide), fun _ => ?_⟩) (fun j hj e hl => ⟨fun w => absurd w (by decide), fun _ => ?_⟩) (fun j hj e hl => ⟨fun _ => ?_, fun w => absurd rfl w⟩)
  · show f5_write _ σ (nI a) a2
    unfold f5_write f5_write_14
    rw [nb_isTime5, nb_isSheet]
    exact ⟨fun y => absurd y z, fun _ => ⟨fun _ => ⟨rfl, hInv⟩, fun y => absurd z2 y⟩⟩
  · subst e
    show f5_write _ (nw_sS σ 0 11 1) (nI a) (nI j)
    unfold f5_write f5_write_14 f5_meets
    rw [nb_isTime5, nb_isSheet, nI_clamp (show j < 2 ^ 31 by omega)]
    have hm := (nb_fdCo hM 1).sh hj
    refine ⟨fun y => absurd y z, fun _ => ⟨fun y => absurd y (nb_n03 hj), fun _ => ⟨nb_in4 hj, fun _ => ⟨rfl, nb_fdI hO hC hM 1 (by decide)⟩, fun w => ?_⟩⟩⟩
    exact absurd (by rw [hm.1, hl]; rfl) w
  · subst e
    have hb := hO.2.2.2.2.2.2.2 j hj
    refine nb_waves hO hC (fun s1 h1 w1 c1 => ?_)
    have hsz : nw_gS s1 (27 + 2 * j) 2 = nI (S.1 (16 + j)) := (h1.1.sh hj).2.2.1
    rw [nI_clamp (show j < 2 ^ 31 by omega), hsz, show (240 : Int32) = nI 240 from rfl, pk_sub (by omega)]
    have eM : (if nI (240 - a) < nI (S.1 (16 + j)) then nI (240 - a) else nI (S.1 (16 + j))) = nI (if 240 - a < S.1 (16 + j) then 240 - a else S.1 (16 + j)) := by
      by_cases q : 240 - a < S.1 (16 + j)
      · rw [if_pos q, if_pos (nI_lt q (by omega))]
      · rw [if_neg q, if_neg (fun y => q ((nI_ltI (by omega) (by omega)).mp y))]
    rw [eM]
    refine ⟨nb_in4 hj, ?_⟩
    have hM1 : (if 240 - a < S.1 (16 + j) then 240 - a else S.1 (16 + j)) ≤ 48 ∧ a + (if 240 - a < S.1 (16 + j) then 240 - a else S.1 (16 + j)) ≤ 240 ∧ (S.1 (16 + j) ≤ (if 240 - a < S.1 (16 + j) then 240 - a else S.1 (16 + j)) ∨ 240 ≤ a + (if 240 - a < S.1 (16 + j) then 240 - a else S.1 (16 + j))) ∧ (if 240 - a < S.1 (16 + j) then 240 - a else S.1 (16 + j)) ≤ S.1 (16 + j) := by
      split <;> omega
    generalize (if 240 - a < S.1 (16 + j) then 240 - a else S.1 (16 + j)) = M at hM1
    have hB := nb_VSB hO
    refine pk_loop (fun m i u => f4_write_50 _ m u (nI a) (nI j) (nI M) (nI i)) (fun i u => nb_C (nb_wrS (nb_VS S) j a S i) u ∧ nb_WV (nb_VS S) u ∧ nb_Ch nb_cS nb_cA σ u) M 0 s1 (Nat.zero_le _) ⟨h1, w1, c1⟩ ?_ ?_
    · rintro m u ⟨hu, wu, cu⟩
      show b4_write_50 _ _ u (nI a) (nI j) (nI M) (nI M)
      unfold b4_write_50
      refine ⟨fun _ => ?_, fun w => absurd (nI_le (Nat.le_refl _) (by omega)) w⟩
      have hM2 := hM.other cu
      show f5_write _ u (nI a) (nI j)
      unfold f5_write f5_write_14
      rw [nb_isTime5, nb_isSheet, nI_clamp (show j < 2 ^ 31 by omega), (hM2.sh hj).1, hl]
      refine ⟨fun y => absurd y z, fun _ => ⟨fun y => absurd y (nb_n03 hj), fun _ => ⟨nb_in4 hj, fun w => absurd w (by decide), fun _ => ?_⟩⟩⟩
      refine nb_laysTold hO hM2 (fun s3 h3 c3 T3 => ?_)
      refine pk_loop (fun k i v => f5_write_38 _ k v (nI a) (nI j) (nI i)) (fun i v => nb_MP (nb_wrS (nb_VS S) j a S i) v ∧ nb_LW (nb_VS S) v ∧ nb_Ch nb_mS nb_mA u v) M 0 s3 (Nat.zero_le _) ⟨h3, T3.2.2.1, c3⟩ ?_ ?_
      · rintro k v ⟨hv, lv, cv⟩
        show b5_write_38 _ _ v (nI a) (nI j) (nI M)
        unfold b5_write_38 f5_write_77
        have hsz2 : nw_gA v 60 j = nI (S.1 (16 + j)) := by rw [(hv.sh hj).2.2.1, (nb_wr1 _ _ _ _ _).1]
        rw [nI_clamp (show j < 2 ^ 31 by omega), hsz2, nI_add]
        have fin : nI M = nI M ∧ nb_Inv v := ⟨rfl, _, nb_wrOK hO M, hu.other cv, hv⟩
        refine ⟨nb_in4 hj, fun _ => fin, fun w => ⟨fun _ => fin, fun y => ?_⟩⟩
        rcases hM1.2.2.1 with q | q
        · exact absurd (nI_le q (by omega)) w
        · exact absurd (nI_le (a := 240) q (by omega)) y
      · rintro k i v hi ⟨hv, lv, cv⟩ ih
        show b5_write_38 _ _ v (nI a) (nI j) (nI i)
        unfold b5_write_38 f5_write_77
        have hsz2 : nw_gA v 60 j = nI (S.1 (16 + j)) := by rw [(hv.sh hj).2.2.1, (nb_wr1 _ _ _ _ _).1]
        rw [nI_clamp (show j < 2 ^ 31 by omega), hsz2, nI_add, nI_clamp (show a + i < 2 ^ 31 by omega), (lv.1 (a + i) (by omega)).2.2, nI_1 i]
        refine ⟨nb_in4 hj, fun w => absurd w (nI_ge (by omega) (by omega)), fun _ => ⟨fun w => absurd w (nI_ge (b := 240) (by omega) (by decide)), fun _ => ⟨vp_in_nI (by omega) (by decide), ?_⟩⟩⟩
        refine nb_keep5 (nb_wrOK hO i) hv hj (by omega) (fun v2 hv2 cv2 cv3 => ih v2 ⟨?_, ?_, cv.tr cv2⟩)
        · rw [(nb_wr1 _ _ _ _ _).1] at hv2; exact hv2
        · exact ⟨fun t ht => ⟨((cv3.2 51 (by decide)).1 t).trans (lv.1 t ht).1, ((cv3.2 52 (by decide)).1 t).trans (lv.1 t ht).2.1, ((cv3.2 53 (by decide)).1 t).trans (lv.1 t ht).2.2⟩, (cv3.1 37 25 (by decide)).trans lv.2.1, (cv3.1 37 26 (by decide)).trans lv.2.2⟩
    · rintro m i u hi ⟨hu, wu, cu⟩ ih
      show b4_write_50 _ _ u (nI a) (nI j) (nI M) (nI i)
      unfold b4_write_50
      obtain ⟨on, vn⟩ := nb_num4 hB wu (show a + i < 240 by omega)
      rw [nI_add, vn, nI_clamp (show j < 2 ^ 31 by omega), nI_1 i]
      refine ⟨fun w => absurd w (nI_ge hi (by omega)), fun _ => ⟨nb_in4 hj, on, nb_store4t (nb_wrOK hO i) hu hj (by omega) (fun u2 hu2 cu2 cu3 => ih u2 ⟨?_, ?_, cu.tr cu2⟩)⟩⟩
      · rw [(nb_wr1 _ _ _ _ _).1] at hu2; exact hu2
      · exact wu.ch cu3 (by decide) (by intro x hx y; simp only [List.mem_cons, List.not_mem_nil, or_false] at hx y; omega)
