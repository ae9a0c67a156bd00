/-! ===== what is heard; skipped ===== -/
def nb_hd (V : nb_V) (S : nb_S) (n : Nat) : Bool := decide (∀ i, i < n → nb_at V (S.2.1 7 i) = S.2.1 8 i)
theorem nb_hd_iff {V : nb_V} {S : nb_S} {n : Nat} : nb_hd V S n = true ↔ ∀ i, i < n → nb_at V (S.2.1 7 i) = S.2.1 8 i := by unfold nb_hd; exact decide_eq_true_iff
theorem nb_hdS {V : nb_V} {S : nb_S} {n : Nat} : nb_hd V S (n + 1) = true ↔ nb_hd V S n = true ∧ nb_at V (S.2.1 7 n) = S.2.1 8 n := by
  rw [nb_hd_iff, nb_hd_iff]
  refine ⟨fun h => ⟨fun i hi => h i (by omega), h n (by omega)⟩, fun h i hi => ?_⟩
  by_cases e : i = n
  · rw [e]; exact h.2
  · exact h.1 i (by omega)
theorem nb_isHeard {K : Int32 → nw_ST → Prop} {V : nb_V} {S : nb_S} {σ : nw_ST} (hO : nb_OK S) (hM : nb_MP S σ) (hB : nb_VB V) (hL : nb_LV V σ) (hk : ∀ s, nb_Ch nb_lS nb_lA σ s → K (if nb_hd V S (S.1 6) then 1 else 0) s) : f5_isHeard K σ := by
  unfold f5_isHeard
  refine nb_lays hB hL (fun s hc hw => ?_)
  have hk := hk s hc
  have hm := (hM.ch hc (by decide +kernel) (by decide +kernel)).2.2.2.2.2.1
  have hb := hO.2.2.2.2.2.1
  have i0 : (if nb_hd V S 0 then (1 : Int32) else 0) = 1 := by rw [if_pos]; exact nb_hd_iff.mpr (fun i hi => absurd hi (Nat.not_lt_zero i))
  have key : ∃ n, f5_isHeard_8 K n s (if nb_hd V S 0 then 1 else 0) (nI 0) := by
    refine pk_loop (fun m i u => f5_isHeard_8 K m u (if nb_hd V S i then 1 else 0) (nI i)) (fun i u => u = s) (S.1 6) 0 s (Nat.zero_le _) rfl ?_ ?_
    · rintro m u rfl
      show b5_isHeard_8 K _ u _ (nI (S.1 6))
      unfold b5_isHeard_8
      rw [hm.1]
      refine ⟨fun _ => ⟨?_, hk⟩, fun w => absurd (nI_le (Nat.le_refl _) (by omega)) w⟩
      split
      · exact Or.inr rfl
      · exact Or.inl rfl
    · rintro m i u hi rfl ih
      show b5_isHeard_8 K _ u _ (nI i)
      unfold b5_isHeard_8 f5_isHeard_45
      have hbi := hb.2 i hi
      have hle := nb_at_le hB (S.2.1 7 i)
      rw [hm.1, nI_clamp (show i < 2 ^ 31 by omega), (hm.2 i hi).1, (hm.2 i hi).2, nI_clamp (show S.2.1 7 i < 2 ^ 31 by omega), (hw.1 _ hbi.1).2.2, nI_1 i]
      refine ⟨fun w => absurd w (nI_ge hi (by omega)), fun _ => ⟨⟨fun _ => trivial, fun _ => ⟨vp_in_nI (by omega) (by decide), vp_in_nI hbi.1 (by decide), vp_in_nI (by omega) (by decide)⟩⟩, ?_⟩⟩
      have := ih u rfl
      have e : (if nb_hd V S (i + 1) then (1 : Int32) else 0) = (if (if nb_hd V S i then (1 : Int32) else 0) = 0 then 0 else if nI (nb_at V (S.2.1 7 i)) = nI (S.2.1 8 i) then 1 else 0) := by
        by_cases q : nb_hd V S i = true
        · rw [if_pos q, if_neg (show ¬ (1 : Int32) = 0 by decide)]
          by_cases y : nb_at V (S.2.1 7 i) = S.2.1 8 i
          · rw [if_pos (nb_hdS.mpr ⟨q, y⟩), if_pos (by rw [y])]
          · rw [if_neg (fun w => y (nb_hdS.mp w).2), if_neg (fun w => y ((nI_eq (by omega) (by omega)).mp w))]
        · rw [if_neg q, if_pos rfl, if_neg (fun w => q (nb_hdS.mp w).1)]
      rw [e] at this
      exact this
  rw [i0] at key
  exact key
