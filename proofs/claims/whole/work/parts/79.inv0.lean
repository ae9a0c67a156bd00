/-! ===== the start, and all the steps ===== -/
def nb_S0 : nb_S := (fun k => if 8 ≤ k ∧ k < 12 then 1 else 0, fun _ _ => 0, fun _ _ => 0)
theorem nb_OK0 : nb_OK nb_S0 := by
  refine ⟨⟨by decide, by decide, fun i hi => absurd hi (Nat.not_lt_zero i), fun i hi => absurd hi (Nat.not_lt_zero i)⟩, by decide, ⟨by decide, fun i hi => absurd hi (Nat.not_lt_zero i)⟩, ⟨by decide, fun i hi => absurd hi (Nat.not_lt_zero i)⟩, ⟨by decide, fun i hi => absurd hi (Nat.not_lt_zero i)⟩, ⟨by decide, fun i hi => absurd hi (Nat.not_lt_zero i)⟩, by decide, fun j hj => ?_⟩
  rcases (show j = 0 ∨ j = 1 ∨ j = 2 ∨ j = 3 by omega) with rfl | rfl | rfl | rfl <;> decide
theorem nb_en00 (t : Nat) (f : Nat → Nat) : nb_en t f 0 = 0 := by
  unfold nb_en
  rw [if_pos (show nb_well t f 0 = true from decide_eq_true (Or.inl rfl))]
theorem nb_fl00 (t : Nat) (f : Nat → Nat) : nb_fl t f 0 = -1 := by
  unfold nb_fl
  rw [if_pos (show nb_well t f 0 = true from decide_eq_true (Or.inl rfl))]
theorem nb_Tx0 {q t : Nat} (hq : q = 1 ∨ q = 4) (f : Nat → Nat) : nb_Tx nw_s0 q t f 0 := by
  refine ⟨?_, fun i hi => absurd hi (Nat.not_lt_zero i), ?_, ?_, fun i hi => ?_⟩
  · rcases hq with rfl | rfl <;> rfl
  · rw [nb_fl00]; rcases hq with rfl | rfl <;> rfl
  · rw [nb_en00]; rcases hq with rfl | rfl <;> rfl
  · rw [nb_en00] at hi; exact absurd hi (Nat.not_lt_zero i)
theorem nb_inv0 : nb_Inv nw_s0 := by
  refine ⟨nb_S0, nb_OK0, ⟨⟨rfl, rfl, nb_Tx0 (Or.inl rfl) _, nb_Tx0 (Or.inr rfl) _, ⟨rfl, fun i hi => absurd hi (Nat.not_lt_zero i)⟩, ⟨rfl, fun i hi => absurd hi (Nat.not_lt_zero i)⟩, ⟨rfl, fun i hi => absurd hi (Nat.not_lt_zero i)⟩, ⟨rfl, fun i hi => absurd hi (Nat.not_lt_zero i)⟩, ⟨rfl, rfl, rfl, fun _ _ => rfl⟩, ⟨rfl, rfl, rfl, fun _ _ => rfl⟩, ⟨rfl, rfl, rfl, fun _ _ => rfl⟩, ⟨rfl, rfl, rfl, fun _ _ => rfl⟩⟩, Or.inl rfl⟩, ?_⟩
  exact ⟨⟨rfl, rfl, fun i hi => absurd hi (Nat.not_lt_zero i), fun i hi => absurd hi (Nat.not_lt_zero i)⟩, rfl, ⟨rfl, fun i hi => absurd hi (Nat.not_lt_zero i)⟩, ⟨rfl, fun i hi => absurd hi (Nat.not_lt_zero i)⟩, ⟨rfl, fun i hi => absurd hi (Nat.not_lt_zero i)⟩, ⟨rfl, fun i hi => absurd hi (Nat.not_lt_zero i)⟩, rfl, ⟨rfl, rfl, rfl, fun _ _ => rfl⟩, ⟨rfl, rfl, rfl, fun _ _ => rfl⟩, ⟨rfl, rfl, rfl, fun _ _ => rfl⟩, ⟨rfl, rfl, rfl, fun _ _ => rfl⟩⟩
theorem nb_steps : nl_Step nb_Inv := ⟨nb_step0, nb_step1, nb_step2, nb_step3, nb_step4, nb_step5, nb_step6, nb_step7, nb_step8, nb_step9, nb_step10, nb_step11, nb_step12, nb_step13, nb_step14, nb_step15, nb_step16, nb_step17, nb_step18, nb_step19, nb_step20, nb_step21, nb_step22, nb_step23, nb_step24, nb_step25, nb_step26, nb_step27, nb_step28, nb_step29, nb_step30, nb_step31, nb_step32, nb_step33, nb_step34, nb_step35, nb_step36, nb_step37⟩
