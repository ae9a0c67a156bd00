/-! ===== fill, put, sheet ===== -/
theorem nb_fill {K : nw_ST → Prop} {σ : nw_ST} {q L : Nat} {v : Int32} (hL : nw_len q = L) (hb : L < 2 ^ 30) (hk : ∀ s, nb_Ch [] [q] σ s → (∀ i, i < L → nw_gA s q i = v) → K s) : fJ7_fill_53178 K σ q v := by
  unfold fJ7_fill_53178
  rw [hL]
  refine pk_loop (fun n i s => fJ7_fill_53178_5 K n s q v (nI i) (Int32.ofNat L)) (fun i s => nb_Ch [] [q] σ s ∧ ∀ j, j < i → nw_gA s q j = v) L 0 σ (Nat.zero_le _) ⟨nb_Ch.rf, fun j hj => absurd hj (Nat.not_lt_zero j)⟩ ?_ ?_
  · intro n s hs
    show bJ7_fill_53178_5 K _ s q v (nI L) (nI L)
    unfold bJ7_fill_53178_5
    exact ⟨fun _ => hk s hs.1 hs.2, fun w => absurd (nI_le (Nat.le_refl _) (by omega)) w⟩
  · intro n i s hi hs ih
    show bJ7_fill_53178_5 K _ s q v (nI i) (nI L)
    unfold bJ7_fill_53178_5
    refine ⟨fun w => absurd w (nI_ge hi (by omega)), fun _ => ⟨by rw [hL]; exact vp_in_nI hi (by omega), ?_⟩⟩
    rw [nI_clamp (by omega), nI_1]
    refine ih _ ⟨hs.1.sA _ _ (by simp), fun j hj => ?_⟩
    rw [nb_gAsA, if_pos rfl]
    by_cases e : j = i
    · rw [if_pos e]
    · rw [if_neg e]; exact hs.2 j (by omega)
theorem nb_q28 {j : Nat} (hj : j < 4) : nw_rf (27 + 2 * j) 0 = 28 + 2 * j ∧ nw_len (28 + 2 * j) = 48 := by
  rcases (show j = 0 ∨ j = 1 ∨ j = 2 ∨ j = 3 by omega) with rfl | rfl | rfl | rfl <;> exact ⟨rfl, rfl⟩
theorem nb_cS27 {j k : Nat} (hj : j < 4) (hk : k < 4) : (27 + 2 * j, k) ∈ nb_cS := by
  rcases (show j = 0 ∨ j = 1 ∨ j = 2 ∨ j = 3 by omega) with rfl | rfl | rfl | rfl <;> rcases (show k = 0 ∨ k = 1 ∨ k = 2 ∨ k = 3 by omega) with rfl | rfl | rfl | rfl <;> decide +kernel
theorem nb_cA28 {j : Nat} (hj : j < 4) : 28 + 2 * j ∈ nb_cA := by
  rcases (show j = 0 ∨ j = 1 ∨ j = 2 ∨ j = 3 by omega) with rfl | rfl | rfl | rfl <;> decide +kernel
/-- an item as a form keeps it -/
def nb_cut (f : Nat) (v : Int32) : Int32 := if f = 0 then nw_b v else if f = 1 then nw_s16 v else v
theorem nb_cutI {f : Nat} (hf : f ≤ 2) (v : Int32) : (if nI f = 0 then nw_b v else if nI f = 1 then nw_s16 v else v) = nb_cut f v := by
  rcases (show f = 0 ∨ f = 1 ∨ f = 2 by omega) with rfl | rfl | rfl <;> rfl
def nb_itS (S : nb_S) (j i : Nat) (v : Int32) : nb_S := nb_setI S j (fun x => if x = i then v else S.2.2 j x)
theorem nb_itSC {S : nb_S} {j i : Nat} {v : Int32} : nb_SC [8 + j, 12 + j, 16 + j] [] [j] S (nb_itS S j i v) := nb_SC.rf.sI _ (by simp)
theorem nb_itOK {S : nb_S} (hO : nb_OK S) (j i : Nat) (v : Int32) : nb_OK (nb_itS S j i v) := hO
/-- the class stores an item -/
theorem nb_store4 {S : nb_S} {σ : nw_ST} {K : nw_ST → Prop} {j i : Nat} {v : Int32} (hO : nb_OK S) (hC : nb_C S σ) (hj : j < 4) (hi : i < 48) (hk : ∀ s, nb_C (nb_itS S j i (nb_cut (S.1 (12 + j)) v)) s → nb_Ch nb_cS nb_cA σ s → K s) : f1_store K σ (27 + 2 * j) (nI i) v := by
  have hs := hC.1.sh hj
  have hb := hO.2.2.2.2.2.2.2 j hj
  have hq := nb_q28 hj
  unfold f1_store f1_store_31
  rw [hs.2.1, nb_cutI hb.2.1, hq.1, hq.2, nI_clamp (by omega)]
  have hch : nb_Ch [(27 + 2 * j, 1), (27 + 2 * j, 2), (27 + 2 * j, 3)] [28 + 2 * j] σ (nw_sA σ (28 + 2 * j) i (nb_cut (S.1 (12 + j)) v)) := nb_Ch.rf.sA _ _ (by simp)
  refine ⟨vp_in_nI hi (by decide), hk _ (hC.shU hj hch nb_itSC ⟨hs.1, hs.2.1, hs.2.2.1, fun x hx => ?_⟩) (nb_Ch.rf.sA _ _ (nb_cA28 hj))⟩
  rw [nb_gAsA, if_pos rfl, hs.2.2.2 x hx]
  show _ = (if j = j then (fun x => if x = i then _ else S.2.2 j x) else S.2.2 j) x
  rw [if_pos rfl]
/-- the reference keeps an item -/
theorem nb_keep5 {S : nb_S} {σ : nw_ST} {K : nw_ST → Prop} {j i : Nat} {v : Int32} (hO : nb_OK S) (hM : nb_MP S σ) (hj : j < 4) (hi : i < 48) (hk : ∀ s, nb_MP (nb_itS S j i (nb_cut (S.1 (12 + j)) v)) s → nb_Ch nb_mS nb_mA σ s → nb_Ch [] [61] σ s → K s) : f5_keep K σ (nI j) (nI i) v := by
  have hm := hM.sh hj
  have hb := hO.2.2.2.2.2.2.2 j hj
  unfold f5_keep f5_keep_40
  have ex : ((48 : Int32) * nI j) + nI i = nI (48 * j + i) := by rw [show (48 : Int32) = nI 48 from rfl, pk_mul, nI_add]
  rw [ex, nI_clamp (show j < 2 ^ 31 by omega), nI_clamp (show 48 * j + i < 2 ^ 31 by omega), hm.2.1, nb_cutI hb.2.1]
  have hch : nb_Ch [] [58, 59, 60, 61, 62] σ (nw_sA σ 61 (48 * j + i) (nb_cut (S.1 (12 + j)) v)) := nb_Ch.rf.sA _ _ (by simp)
  refine ⟨nb_in4 hj, ⟨fun _ => trivial, fun _ => nb_in4 hj⟩, vp_in_nI (by omega) (by decide), hk _ (hM.shU hj hch nb_itSC (fun k hk hkj => ⟨rfl, rfl, rfl, fun x hx => ?_⟩) ⟨hm.1, hm.2.1, hm.2.2.1, fun x hx => ?_⟩) (nb_Ch.rf.sA _ _ (by decide +kernel)) (nb_Ch.rf.sA _ _ (by simp))⟩
  · rw [nb_gAsA, if_pos rfl, if_neg]
    rcases Nat.lt_or_gt_of_ne hkj with h | h
    · have : 48 * k + 48 ≤ 48 * j := by omega
      omega
    · have : 48 * j + 48 ≤ 48 * k := by omega
      omega
  · rw [nb_gAsA, if_pos rfl, hm.2.2.2 x hx]
    show _ = (if j = j then (fun x => if x = i then _ else S.2.2 j x) else S.2.2 j) x
    rw [if_pos rfl]
    by_cases e : x = i
    · rw [if_pos (by omega), if_pos e]
    · rw [if_neg (by omega), if_neg e]
theorem nb_step32 : nl_S32 nb_Inv := by
  intro σ hI a1 a2 a3 a4
  obtain ⟨S, hO, hC, hM⟩ := hI
  have hInv : nb_Inv σ := ⟨S, hO, hC, hM⟩
  unfold f4_put
  refine nb_itR hO hC (fun z => ⟨fun w => absurd w (by decide), fun _ => ?_⟩) (fun j f v hj hf e1 e2 hv => ⟨fun w => ?_, fun _ => ?_⟩) (fun j f i hj hf hi e1 e2 e3 hl hfo => ⟨fun _ => ?_, fun w => absurd rfl w⟩)
  · unfold f5_put f5_put_16; rw [nb_isSheet]
    rcases z with z | z
    · exact ⟨fun _ => ⟨rfl, hInv⟩, fun w => absurd z w⟩
    · exact ⟨fun _ => ⟨rfl, hInv⟩, fun _ => ⟨fun _ => ⟨rfl, hInv⟩, fun w => absurd z w⟩⟩
  · exfalso
    rcases hv with ⟨-, rfl⟩ | ⟨-, -, rfl⟩ | ⟨-, -, -, rfl⟩ <;> exact absurd w (by decide)
  · have hv3 : v = 1 ∨ v = 2 ∨ v = 3 := by rcases hv with ⟨-, rfl⟩ | ⟨-, -, rfl⟩ | ⟨-, -, -, rfl⟩ <;> simp
    subst e1; subst e2
    have hM2 := nb_fdCo hM (nI v)
    have hb := hO.2.2.2.2.2.2.2 j hj
    obtain ⟨hlk, hol⟩ := nb_lack hM2 (f := f) hj a3
    have hvl : v5_lacks (nw_sS σ 0 11 (nI v)) (nI j) (nI f) a3 = nI v := by
      rw [hlk]
      rcases hv with ⟨h1, rfl⟩ | ⟨h1, h2, rfl⟩ | ⟨h1, h2, h3, rfl⟩
      · rw [if_pos (Or.inl h1)]; rfl
      · rw [if_neg (by omega), if_neg (fun w => h2 ((nI_eq (by omega) (by omega)).mp w))]; rfl
      · rw [if_neg (by omega), if_pos (by rw [h2]), if_pos ((nb_sz hb.2.2).mp h3)]; rfl
    show f5_put _ _ (nI j) (nI f) a3 a4
    unfold f5_put f5_put_16 f5_meets; rw [nb_isSheet, hvl]
    refine ⟨fun w => absurd w (nb_n03 hj), fun _ => ⟨fun w => absurd w (nb_nin (lo := 0) (hi := 2) (by omega) (by omega) (by decide)), fun _ => ⟨hol, fun w => ?_, fun _ => ⟨rfl, nb_fdI hO hC hM v (by omega)⟩⟩⟩⟩
    exfalso; rcases hv3 with rfl | rfl | rfl <;> exact absurd w (by decide)
  · subst e1; subst e2; subst e3
    have hb := hO.2.2.2.2.2.2.2 j hj
    rw [nI_clamp (by omega)]
    refine ⟨nb_in4 hj, nb_store4 hO hC hj (by omega) (fun s hCs hch => ?_)⟩
    have hM2 := hM.other hch
    obtain ⟨hlk, hol⟩ := nb_lack hM2 (f := f) hj (nI i)
    have hvl : v5_lacks s (nI j) (nI f) (nI i) = 0 := by
      rw [hlk, if_neg (by omega), if_pos (by rw [hfo]), if_neg]
      intro w
      have w2 := (nb_sz hb.2.2).mpr w
      rw [nb_below_iff] at w2
      exact w2 ⟨nI_pos' (by omega), (nI_ltI (by omega) (by omega)).mpr hi⟩
    show f5_put _ s (nI j) (nI f) (nI i) a4
    unfold f5_put f5_put_16; rw [nb_isSheet, hvl]
    refine ⟨fun w => absurd w (nb_n03 hj), fun _ => ⟨fun w => absurd w (nb_nin (lo := 0) (hi := 2) (by omega) (by omega) (by decide)), fun _ => ⟨hol, fun _ => ?_, fun w => absurd (by decide) w⟩⟩⟩
    exact nb_keep5 hO hM2 hj (by omega) (fun t hMt hcht _ => ⟨rfl, _, nb_itOK hO _ _ _, hCs.other hcht, hMt⟩)
def nb_nwS (S : nb_S) (j f n : Nat) : nb_S := nb_setI (nb_setN (nb_setN (nb_setN S (8 + j) 0) (12 + j) f) (16 + j) n) j (fun _ => 0)
theorem nb_nwSC {S : nb_S} {j f n : Nat} : nb_SC [8 + j, 12 + j, 16 + j] [] [j] S (nb_nwS S j f n) := (((nb_SC.rf.sN _ (by simp)).sN _ (by simp)).sN _ (by simp)).sI _ (by simp)
theorem nb_nwE {S : nb_S} {j f n : Nat} : (nb_nwS S j f n).1 (8 + j) = 0 ∧ (nb_nwS S j f n).1 (12 + j) = f ∧ (nb_nwS S j f n).1 (16 + j) = n ∧ ∀ x, (nb_nwS S j f n).2.2 j x = 0 := by
  refine ⟨?_, ?_, ?_, fun x => ?_⟩ <;> simp [nb_nwS, nb_setN, nb_setI]
theorem nb_shOK {S S' : nb_S} {j : Nat} (hj : j < 4) (hO : nb_OK S) (hS : nb_SC [8 + j, 12 + j, 16 + j] [] [j] S S') (h1 : S'.1 (8 + j) ≤ 1 ∧ S'.1 (12 + j) ≤ 2 ∧ S'.1 (16 + j) ≤ 48) : nb_OK S' := by
  obtain ⟨o1, o2, o3, o4, o5, o6, o7, o8⟩ := hO
  have ez : ∀ k, k < 8 → S'.1 k = S.1 k := fun k hk => hS.1 k (by simp; omega)
  have ea : ∀ k, S'.2.1 k = S.2.1 k := fun k => hS.2.1 k (by simp)
  refine ⟨?_, ?_, ?_, ?_, ?_, ?_, ?_, fun k hk => ?_⟩
  · rw [ez 0 (by decide), ez 1 (by decide), ea, ea]; exact o1
  · rw [ez 2 (by decide)]; exact o2
  · rw [ez 3 (by decide), ea, ea]; exact o3
  · rw [ez 4 (by decide), ea]; exact o4
  · rw [ez 5 (by decide), ea, ea]; exact o5
  · rw [ez 6 (by decide), ea, ea]; exact o6
  · rw [ez 7 (by decide)]; exact o7
  · by_cases e : k = j
    · subst e; exact h1
    · rw [hS.1 (8 + k) (by simp; omega), hS.1 (12 + k) (by simp; omega), hS.1 (16 + k) (by simp; omega)]; exact o8 k hk
theorem nb_step30 : nl_S30 nb_Inv := by
  intro σ hI a1 a2 a3
  obtain ⟨S, hO, hC, hM⟩ := hI
  have hInv : nb_Inv σ := ⟨S, hO, hC, hM⟩
  unfold f4_sheet f4_sheet_22
  by_cases z1 : v5_in a1 0 3 = 0
  · refine ⟨fun _ => ?_, fun w => absurd ((nb_below 3 (by decide)).mpr z1) w⟩
    unfold f5_sheet f5_sheet_22; rw [nb_isSheet]; exact ⟨fun _ => ⟨rfl, hInv⟩, fun w => absurd z1 w⟩
  refine ⟨fun w => absurd ((nb_below 3 (by decide)).mp w) z1, fun _ => ?_⟩
  by_cases z2 : v5_in a2 0 2 = 0
  · refine ⟨fun _ => ?_, fun w => absurd ((nb_below 2 (by decide)).mpr z2) w⟩
    unfold f5_sheet f5_sheet_22; rw [nb_isSheet]; exact ⟨fun w => absurd w z1, fun _ => ⟨fun _ => ⟨rfl, hInv⟩, fun w => absurd z2 w⟩⟩
  refine ⟨fun w => absurd ((nb_below 2 (by decide)).mp w) z2, fun _ => ⟨fun z3 => ⟨fun z4 => ?_, fun z4 => ?_⟩, fun z3 => ?_⟩⟩
  · obtain ⟨j, -, hj, rfl⟩ := nb_in 0 3 (by decide) (by decide) z1
    obtain ⟨f, -, hf, rfl⟩ := nb_in 0 2 (by decide) (by decide) z2
    obtain ⟨n, -, hn, rfl⟩ := nb_arg 0 48 (by decide) z4 z3 (by decide)
    have hj4 : j < 4 := by omega
    have hq := nb_q28 hj4
    refine ⟨nb_in4 hj4, ?_⟩
    rw [nI_clamp (by omega)]
    unfold f1_renew
    rw [hq.1]
    refine nb_fill hq.2 (by decide) (fun s hch hv => ?_)
    have hch2 : nb_Ch [(27 + 2 * j, 1), (27 + 2 * j, 2), (27 + 2 * j, 3)] [28 + 2 * j] σ (nw_sS (nw_sS (nw_sS s (27 + 2 * j) 1 (nI f)) (27 + 2 * j) 2 (nI n)) (27 + 2 * j) 3 0) := (((hch.up (by simp) (by simp)).sS _ (by simp)).sS _ (by simp)).sS _ (by simp)
    obtain ⟨e8, e12, e16, eI⟩ := nb_nwE (S := S) (j := j) (f := f) (n := n)
    have hC2 : nb_C (nb_nwS S j f n) (nw_sS (nw_sS (nw_sS s (27 + 2 * j) 1 (nI f)) (27 + 2 * j) 2 (nI n)) (27 + 2 * j) 3 0) := by
      refine hC.shU hj4 hch2 nb_nwSC ⟨?_, ?_, ?_, fun i hi => ?_⟩
      · rw [e8]; simp [nb_gSsS]; rfl
      · rw [e12]; simp [nb_gSsS]
      · rw [e16]; simp [nb_gSsS]
      · rw [eI]; exact hv i hi
    have hM2 := hM.other (hch2.up (LS' := nb_cS) (L' := nb_cA) (by
      intro x hx; simp only [List.mem_cons, List.not_mem_nil, or_false] at hx
      rcases hx with rfl | rfl | rfl <;> exact nb_cS27 hj4 (by decide)) (by
      intro x hx; simp only [List.mem_cons, List.not_mem_nil, or_false] at hx; subst hx; exact nb_cA28 hj4))
    generalize nw_sS (nw_sS (nw_sS s (27 + 2 * j) 1 (nI f)) (27 + 2 * j) 2 (nI n)) (27 + 2 * j) 3 0 = t at *
    show f5_sheet _ t (nI j) (nI f) (nI n)
    unfold f5_sheet f5_sheet_22; rw [nb_isSheet, nI_clamp (show j < 2 ^ 31 by omega)]
    refine ⟨fun w => absurd w z1, fun _ => ⟨fun w => absurd w z2, fun _ => ⟨fun _ => ⟨fun _ => ⟨nb_in4 hj4, nb_in4 hj4, nb_in4 hj4, ?_⟩, fun w => absurd z4 w⟩, fun w => absurd z3 w⟩⟩⟩
    generalize ht0 : nw_sA (nw_sA (nw_sA t 58 j 1) 59 j (nI f)) 60 j (nI n) = t0
    have hcht : nb_Ch [] [58, 59, 60, 61, 62] t t0 := by rw [← ht0]; exact ((nb_Ch.rf.sA _ _ (by simp)).sA _ _ (by simp)).sA _ _ (by simp)
    have g58 : ∀ k, nw_gA t0 58 k = if k = j then 1 else nw_gA t 58 k := fun k => by rw [← ht0]; simp [nb_gAsA]
    have g59 : ∀ k, nw_gA t0 59 k = if k = j then nI f else nw_gA t 59 k := fun k => by rw [← ht0]; simp [nb_gAsA]
    have g60 : ∀ k, nw_gA t0 60 k = if k = j then nI n else nw_gA t 60 k := fun k => by rw [← ht0]; simp [nb_gAsA]
    have g61 : ∀ k, nw_gA t0 61 k = nw_gA t 61 k := fun k => by rw [← ht0]; simp [nb_gAsA]
    clear ht0
    refine pk_loop (fun m i u => f5_sheet_59 (fun (r2 : Int32) (s2 : nw_ST) => nI n = r2 ∧ nb_Inv s2) m u (nI j) (nI n) (nI i)) (fun i u => nb_Ch [] [61] t0 u ∧ ∀ x, nw_gA u 61 x = if 48 * j ≤ x ∧ x < 48 * j + i then 0 else nw_gA t 61 x) 48 0 t0 (Nat.zero_le _) ⟨nb_Ch.rf, fun x => by rw [if_neg (by omega)]; exact g61 x⟩ ?_ ?_
    · intro m u hu
      show b5_sheet_59 _ _ u (nI j) (nI n) (nI 48)
      unfold b5_sheet_59
      refine ⟨fun _ => ⟨rfl, nb_nwS S j f n, nb_shOK hj4 hO nb_nwSC (by rw [e8, e12, e16]; omega), ?_, ?_⟩, fun w => absurd (by decide) w⟩
      · exact hC2.other ((hcht.tr (hu.1.up (by simp) (by simp))).up (by decide +kernel) (by decide +kernel))
      · have hu58 : ∀ k, nw_gA u 58 k = nw_gA t0 58 k := (hu.1.2 58 (by decide)).1
        have hu59 : ∀ k, nw_gA u 59 k = nw_gA t0 59 k := (hu.1.2 59 (by decide)).1
        have hu60 : ∀ k, nw_gA u 60 k = nw_gA t0 60 k := (hu.1.2 60 (by decide)).1
        refine hM2.shU hj4 (hcht.tr (hu.1.up (by simp) (by simp))) nb_nwSC (fun k hk hkj => ⟨?_, ?_, ?_, fun x hx => ?_⟩) ⟨?_, ?_, ?_, fun x hx => ?_⟩
        · rw [hu58, g58, if_neg hkj]
        · rw [hu59, g59, if_neg hkj]
        · rw [hu60, g60, if_neg hkj]
        · rw [hu.2, if_neg]
          rcases Nat.lt_or_gt_of_ne hkj with h | h
          · have : 48 * k + 48 ≤ 48 * j := by omega
            omega
          · have : 48 * j + 48 ≤ 48 * k := by omega
            omega
        · rw [hu58, g58, if_pos rfl, e8]; rfl
        · rw [hu59, g59, if_pos rfl, e12]
        · rw [hu60, g60, if_pos rfl, e16]
        · rw [hu.2, if_pos (by omega), eI]
    · intro m i u hi hu ih
      show b5_sheet_59 _ _ u (nI j) (nI n) (nI i)
      unfold b5_sheet_59
      have ex : ((48 : Int32) * nI j) + nI i = nI (48 * j + i) := by rw [show (48 : Int32) = nI 48 from rfl, pk_mul, nI_add]
      rw [ex, nI_clamp (by omega), nI_1]
      refine ⟨fun w => absurd w (nI_ge (b := 48) hi (by decide)), fun _ => ⟨vp_in_nI (by omega) (by decide), ih _ ⟨hu.1.sA _ _ (by simp), fun x => ?_⟩⟩⟩
      rw [nb_gAsA, if_pos rfl]
      by_cases e : x = 48 * j + i
      · rw [if_pos e, if_pos (by omega)]
      · rw [if_neg e, hu.2]
        by_cases e2 : 48 * j ≤ x ∧ x < 48 * j + i
        · rw [if_pos e2, if_pos (by omega)]
        · rw [if_neg e2, if_neg (by omega)]
  · unfold f4_finding f5_sheet f5_sheet_22 f5_meets; rw [nb_isSheet]
    exact ⟨fun w => absurd w z1, fun _ => ⟨fun w => absurd w z2, fun _ => ⟨fun _ => ⟨fun w => absurd w z4, fun _ => ⟨rfl, nb_fdI hO hC hM 5 (by decide)⟩⟩, fun w => absurd z3 w⟩⟩⟩
  · unfold f5_sheet f5_sheet_22; rw [nb_isSheet]
    exact ⟨fun w => absurd w z1, fun _ => ⟨fun w => absurd w z2, fun _ => ⟨fun w => absurd w z3, fun _ => ⟨rfl, hInv⟩⟩⟩⟩
