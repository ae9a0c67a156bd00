/-- the step of type: class, then reference, one answer, the invariant again -/
def nl_S0 (Inv : nw_ST → Prop) : Prop := ∀ (σ : nw_ST), Inv σ → ∀ (a1 a2 : Int32), (f4_type (fun (r1 : Int32) (s1 : nw_ST) => (f5_type (fun (r2 : Int32) (s2 : nw_ST) => r1 = r2 ∧ Inv s2) s1 a1 a2)) σ a1 a2)
/-- the step of wipe: class, then reference, one answer, the invariant again -/
def nl_S1 (Inv : nw_ST → Prop) : Prop := ∀ (σ : nw_ST), Inv σ → ∀ (a1 : Int32), (f4_wipe (fun (r1 : Int32) (s1 : nw_ST) => (f5_wipe (fun (r2 : Int32) (s2 : nw_ST) => r1 = r2 ∧ Inv s2) s1 a1)) σ a1)
/-- the step of undo: class, then reference, one answer, the invariant again -/
def nl_S2 (Inv : nw_ST → Prop) : Prop := ∀ (σ : nw_ST), Inv σ → ∀ (a1 : Int32), (f4_undo (fun (r1 : Int32) (s1 : nw_ST) => (f5_undo (fun (r2 : Int32) (s2 : nw_ST) => r1 = r2 ∧ Inv s2) s1 a1)) σ a1)
/-- the step of fault: class, then reference, one answer, the invariant again -/
def nl_S3 (Inv : nw_ST → Prop) : Prop := ∀ (σ : nw_ST), Inv σ → ∀ (a1 : Int32), ((fun (r1 : Int32) (s1 : nw_ST) => (f5_fault (fun (r2 : Int32) (s2 : nw_ST) => r1 = r2 ∧ Inv s2) s1 a1)) (v4_fault σ a1) σ)
/-- the step of swell: class, then reference, one answer, the invariant again -/
def nl_S4 (Inv : nw_ST → Prop) : Prop := ∀ (σ : nw_ST), Inv σ → ∀ (a1 a2 : Int32), ((o4_swell σ a1 a2) ∧ ((fun (r1 : Int32) (s1 : nw_ST) => (f5_swell (fun (r2 : Int32) (s2 : nw_ST) => r1 = r2 ∧ Inv s2) s1 a1 a2)) (v4_swell σ a1 a2) σ))
/-- the step of find: class, then reference, one answer, the invariant again -/
def nl_S5 (Inv : nw_ST → Prop) : Prop := ∀ (σ : nw_ST), Inv σ → ∀ (a1 a2 : Int32), ((o4_find σ a1 a2) ∧ ((fun (r1 : Int32) (s1 : nw_ST) => (f5_find (fun (r2 : Int32) (s2 : nw_ST) => r1 = r2 ∧ Inv s2) s1 a1 a2)) (v4_find σ a1 a2) σ))
/-- the step of depth: class, then reference, one answer, the invariant again -/
def nl_S6 (Inv : nw_ST → Prop) : Prop := ∀ (σ : nw_ST), Inv σ → ∀ (a1 : Int32), (f4_depth (fun (r1 : Int32) (s1 : nw_ST) => (f5_depth (fun (r2 : Int32) (s2 : nw_ST) => r1 = r2 ∧ Inv s2) s1 a1)) σ a1)
/-- the step of slip: class, then reference, one answer, the invariant again -/
def nl_S7 (Inv : nw_ST → Prop) : Prop := ∀ (σ : nw_ST), Inv σ → ∀ (a1 a2 : Int32), (f4_slip (fun (r1 : Int32) (s1 : nw_ST) => (f5_slip (fun (r2 : Int32) (s2 : nw_ST) => r1 = r2 ∧ Inv s2) s1 a1 a2)) σ a1 a2)
/-- the step of wake: class, then reference, one answer, the invariant again -/
def nl_S8 (Inv : nw_ST → Prop) : Prop := ∀ (σ : nw_ST), Inv σ → ∀ (a1 : Int32), (f4_wake (fun (r1 : Int32) (s1 : nw_ST) => (f5_wake (fun (r2 : Int32) (s2 : nw_ST) => r1 = r2 ∧ Inv s2) s1 a1)) σ a1)
/-- the step of ticket: class, then reference, one answer, the invariant again -/
def nl_S9 (Inv : nw_ST → Prop) : Prop := ∀ (σ : nw_ST), Inv σ → ∀ (a1 a2 : Int32), (f4_ticket (fun (r1 : Int32) (s1 : nw_ST) => (f5_ticket (fun (r2 : Int32) (s2 : nw_ST) => r1 = r2 ∧ Inv s2) s1 a1 a2)) σ a1 a2)
/-- the step of back: class, then reference, one answer, the invariant again -/
def nl_S10 (Inv : nw_ST → Prop) : Prop := ∀ (σ : nw_ST), Inv σ → ∀ (a1 : Int32), (f4_back (fun (r1 : Int32) (s1 : nw_ST) => (f5_back (fun (r2 : Int32) (s2 : nw_ST) => r1 = r2 ∧ Inv s2) s1 a1)) σ a1)
/-- the step of read: class, then reference, one answer, the invariant again -/
def nl_S11 (Inv : nw_ST → Prop) : Prop := ∀ (σ : nw_ST), Inv σ → ∀ (a1 : Int32), (f4_read (fun (r1 : Int32) (s1 : nw_ST) => (f5_read (fun (r2 : Int32) (s2 : nw_ST) => r1 = r2 ∧ Inv s2) s1 a1)) σ a1)
/-- the step of high: class, then reference, one answer, the invariant again -/
def nl_S12 (Inv : nw_ST → Prop) : Prop := ∀ (σ : nw_ST), Inv σ → ∀ (a1 : Int32), (f4_high (fun (r1 : Int32) (s1 : nw_ST) => (f5_high (fun (r2 : Int32) (s2 : nw_ST) => r1 = r2 ∧ Inv s2) s1 a1)) σ a1)
/-- the step of wave: class, then reference, one answer, the invariant again -/
def nl_S13 (Inv : nw_ST → Prop) : Prop := ∀ (σ : nw_ST), Inv σ → ∀ (a1 a2 : Int32), (f4_wave (fun (r1 : Int32) (s1 : nw_ST) => (f5_wave (fun (r2 : Int32) (s2 : nw_ST) => r1 = r2 ∧ Inv s2) s1 a1 a2)) σ a1 a2)
/-- the step of when: class, then reference, one answer, the invariant again -/
def nl_S14 (Inv : nw_ST → Prop) : Prop := ∀ (σ : nw_ST), Inv σ → ∀ (a1 : Int32), (f4_when (fun (r1 : Int32) (s1 : nw_ST) => (f5_when (fun (r2 : Int32) (s2 : nw_ST) => r1 = r2 ∧ Inv s2) s1 a1)) σ a1)
/-- the step of called: class, then reference, one answer, the invariant again -/
def nl_S15 (Inv : nw_ST → Prop) : Prop := ∀ (σ : nw_ST), Inv σ → ∀ (a1 a2 : Int32), (f4_called (fun (r1 : Int32) (s1 : nw_ST) => (f5_called (fun (r2 : Int32) (s2 : nw_ST) => r1 = r2 ∧ Inv s2) s1 a1 a2)) σ a1 a2)
/-- the step of brings: class, then reference, one answer, the invariant again -/
def nl_S16 (Inv : nw_ST → Prop) : Prop := ∀ (σ : nw_ST), Inv σ → ∀ (a1 : Int32), (f4_brings (fun (r1 : Int32) (s1 : nw_ST) => (f5_brings (fun (r2 : Int32) (s2 : nw_ST) => r1 = r2 ∧ Inv s2) s1 a1)) σ a1)
/-- the step of claims: class, then reference, one answer, the invariant again -/
def nl_S17 (Inv : nw_ST → Prop) : Prop := ∀ (σ : nw_ST), Inv σ → ∀ (a1 : Int32), (f4_claims (fun (r1 : Int32) (s1 : nw_ST) => (f5_claims (fun (r2 : Int32) (s2 : nw_ST) => r1 = r2 ∧ Inv s2) s1 a1)) σ a1)
/-- the step of good: class, then reference, one answer, the invariant again -/
def nl_S18 (Inv : nw_ST → Prop) : Prop := ∀ (σ : nw_ST), Inv σ → ∀ (a1 : Int32), (f4_good (fun (r1 : Int32) (s1 : nw_ST) => (f5_good (fun (r2 : Int32) (s2 : nw_ST) => r1 = r2 ∧ Inv s2) s1 a1)) σ a1)
/-- the step of agree: class, then reference, one answer, the invariant again -/
def nl_S19 (Inv : nw_ST → Prop) : Prop := ∀ (σ : nw_ST), Inv σ → ∀ (a1 a2 a3 a4 : Int32), (f4_agree (fun (r1 : Int32) (s1 : nw_ST) => (f5_agree (fun (r2 : Int32) (s2 : nw_ST) => r1 = r2 ∧ Inv s2) s1 a1 a2 a3 a4)) σ a1 a2 a3 a4)
/-- the step of run: class, then reference, one answer, the invariant again -/
def nl_S20 (Inv : nw_ST → Prop) : Prop := ∀ (σ : nw_ST), Inv σ → ∀ (a1 a2 : Int32), (f4_run (fun (r1 : Int32) (s1 : nw_ST) => (f5_run (fun (r2 : Int32) (s2 : nw_ST) => r1 = r2 ∧ Inv s2) s1 a1 a2)) σ a1 a2)
/-- the step of bar: class, then reference, one answer, the invariant again -/
def nl_S21 (Inv : nw_ST → Prop) : Prop := ∀ (σ : nw_ST), Inv σ → ∀ (a1 : Int32), (f4_bar (fun (r1 : Int32) (s1 : nw_ST) => (f5_bar (fun (r2 : Int32) (s2 : nw_ST) => r1 = r2 ∧ Inv s2) s1 a1)) σ a1)
/-- the step of earn: class, then reference, one answer, the invariant again -/
def nl_S22 (Inv : nw_ST → Prop) : Prop := ∀ (σ : nw_ST), Inv σ → ∀ (a1 a2 : Int32), (f4_earn (fun (r1 : Int32) (s1 : nw_ST) => (f5_earn (fun (r2 : Int32) (s2 : nw_ST) => r1 = r2 ∧ Inv s2) s1 a1 a2)) σ a1 a2)
/-- the step of heard: class, then reference, one answer, the invariant again -/
def nl_S23 (Inv : nw_ST → Prop) : Prop := ∀ (σ : nw_ST), Inv σ → ∀ (a1 a2 : Int32), (f4_heard (fun (r1 : Int32) (s1 : nw_ST) => (f5_heard (fun (r2 : Int32) (s2 : nw_ST) => r1 = r2 ∧ Inv s2) s1 a1 a2)) σ a1 a2)
/-- the step of forget: class, then reference, one answer, the invariant again -/
def nl_S24 (Inv : nw_ST → Prop) : Prop := ∀ (σ : nw_ST), Inv σ → (f4_forget (fun (r1 : Int32) (s1 : nw_ST) => (f5_forget (fun (r2 : Int32) (s2 : nw_ST) => r1 = r2 ∧ Inv s2) s1)) σ)
/-- the step of skipped: class, then reference, one answer, the invariant again -/
def nl_S25 (Inv : nw_ST → Prop) : Prop := ∀ (σ : nw_ST), Inv σ → ∀ (a1 : Int32), (f4_skipped (fun (r1 : Int32) (s1 : nw_ST) => (f5_skipped (fun (r2 : Int32) (s2 : nw_ST) => r1 = r2 ∧ Inv s2) s1 a1)) σ a1)
/-- the step of voids: class, then reference, one answer, the invariant again -/
def nl_S26 (Inv : nw_ST → Prop) : Prop := ∀ (σ : nw_ST), Inv σ → ∀ (a1 : Int32), (f4_voids (fun (r1 : Int32) (s1 : nw_ST) => (f5_voids (fun (r2 : Int32) (s2 : nw_ST) => r1 = r2 ∧ Inv s2) s1 a1)) σ a1)
/-- the step of often: class, then reference, one answer, the invariant again -/
def nl_S27 (Inv : nw_ST → Prop) : Prop := ∀ (σ : nw_ST), Inv σ → ∀ (a1 a2 : Int32), (f4_often (fun (r1 : Int32) (s1 : nw_ST) => (f5_often (fun (r2 : Int32) (s2 : nw_ST) => r1 = r2 ∧ Inv s2) s1 a1 a2)) σ a1 a2)
/-- the step of hoarse: class, then reference, one answer, the invariant again -/
def nl_S28 (Inv : nw_ST → Prop) : Prop := ∀ (σ : nw_ST), Inv σ → ∀ (a1 a2 a3 : Int32), (f4_hoarse (fun (r1 : Int64) (s1 : nw_ST) => (f5_hoarse (fun (r2 : Int64) (s2 : nw_ST) => r1 = r2 ∧ Inv s2) s1 a1 a2 a3)) σ a1 a2 a3)
/-- the step of storm: class, then reference, one answer, the invariant again -/
def nl_S29 (Inv : nw_ST → Prop) : Prop := ∀ (σ : nw_ST), Inv σ → ∀ (a1 a2 a3 : Int32), (f4_storm (fun (r1 : Int32) (s1 : nw_ST) => (f5_storm (fun (r2 : Int32) (s2 : nw_ST) => r1 = r2 ∧ Inv s2) s1 a1 a2 a3)) σ a1 a2 a3)
/-- the step of sheet: class, then reference, one answer, the invariant again -/
def nl_S30 (Inv : nw_ST → Prop) : Prop := ∀ (σ : nw_ST), Inv σ → ∀ (a1 a2 a3 : Int32), (f4_sheet (fun (r1 : Int32) (s1 : nw_ST) => (f5_sheet (fun (r2 : Int32) (s2 : nw_ST) => r1 = r2 ∧ Inv s2) s1 a1 a2 a3)) σ a1 a2 a3)
/-- the step of lose: class, then reference, one answer, the invariant again -/
def nl_S31 (Inv : nw_ST → Prop) : Prop := ∀ (σ : nw_ST), Inv σ → ∀ (a1 : Int32), (f4_lose (fun (r1 : Int32) (s1 : nw_ST) => (f5_lose (fun (r2 : Int32) (s2 : nw_ST) => r1 = r2 ∧ Inv s2) s1 a1)) σ a1)
/-- the step of put: class, then reference, one answer, the invariant again -/
def nl_S32 (Inv : nw_ST → Prop) : Prop := ∀ (σ : nw_ST), Inv σ → ∀ (a1 a2 a3 a4 : Int32), (f4_put (fun (r1 : Int32) (s1 : nw_ST) => (f5_put (fun (r2 : Int32) (s2 : nw_ST) => r1 = r2 ∧ Inv s2) s1 a1 a2 a3 a4)) σ a1 a2 a3 a4)
/-- the step of get: class, then reference, one answer, the invariant again -/
def nl_S33 (Inv : nw_ST → Prop) : Prop := ∀ (σ : nw_ST), Inv σ → ∀ (a1 a2 a3 : Int32), (f4_get (fun (r1 : Int32) (s1 : nw_ST) => (f5_get (fun (r2 : Int32) (s2 : nw_ST) => r1 = r2 ∧ Inv s2) s1 a1 a2 a3)) σ a1 a2 a3)
/-- the step of copy: class, then reference, one answer, the invariant again -/
def nl_S34 (Inv : nw_ST → Prop) : Prop := ∀ (σ : nw_ST), Inv σ → ∀ (a1 a2 a3 a4 a5 : Int32), (f4_copy (fun (r1 : Int32) (s1 : nw_ST) => (f5_copy (fun (r2 : Int32) (s2 : nw_ST) => r1 = r2 ∧ Inv s2) s1 a1 a2 a3 a4 a5)) σ a1 a2 a3 a4 a5)
/-- the step of write: class, then reference, one answer, the invariant again -/
def nl_S35 (Inv : nw_ST → Prop) : Prop := ∀ (σ : nw_ST), Inv σ → ∀ (a1 a2 : Int32), (f4_write (fun (r1 : Int32) (s1 : nw_ST) => (f5_write (fun (r2 : Int32) (s2 : nw_ST) => r1 = r2 ∧ Inv s2) s1 a1 a2)) σ a1 a2)
/-- the step of count: class, then reference, one answer, the invariant again -/
def nl_S36 (Inv : nw_ST → Prop) : Prop := ∀ (σ : nw_ST), Inv σ → ∀ (a1 : Int32), (f4_count (fun (r1 : Int32) (s1 : nw_ST) => (f5_count (fun (r2 : Int32) (s2 : nw_ST) => r1 = r2 ∧ Inv s2) s1 a1)) σ a1)
/-- the step of digest: class, then reference, one answer, the invariant again -/
def nl_S37 (Inv : nw_ST → Prop) : Prop := ∀ (σ : nw_ST), Inv σ → (f4_digest (fun (r1 : Int64) (s1 : nw_ST) => (f5_digest (fun (r2 : Int64) (s2 : nw_ST) => r1 = r2 ∧ Inv s2) s1)) σ)
theorem nl_cmp (x : Int64) : lg_cmp x x = 0 := by simp [lg_cmp]
theorem ll_13 {P : nw_PT} {X : nw_EX} {cc : ByteArray} {nL : Nat} {σ : nw_ST} {lv : List (Nat × Value)} {pc : Nat} {rest : List Value} {a1 : Int32} {a2 : Int32} (h : nw_ok P X cc RL nL) (hR : X.2.2.2.1 = room_1) {K : Int32 → nw_ST → Prop} (hf : (f4_type K σ a1 a2)) (hst : (rest.map fun v => v.category).sum ≤ 8) (hd : decode cc pc = .ok (.invokevirtual 13, 3)) (k : ∀ (r : Int32) (s2 : nw_ST), K r s2 → nl_G P X nL s2 lv (pc + 3) (.int r :: rest)) : nl_G P X nL σ lv pc (.int a2 :: .int a1 :: .ref (P.2.1 0) :: rest) :=
  nl_callV (As := [.int a1, .int a2]) (rest := rest) (C := RX4) (ci := 4) h (ct4_type _ P h.2.2 σ a1 a2 K hf) (nw_goodV nw_w601 nw_w602 nw_w603 nw_w24 nw_w604) yd4_type rfl (by rw [hR]; decide) (by rw [hR]; decide) ⟨rfl, rfl⟩ rfl (by decide) rfl rfl hst rfl hd (fun v s2 z => by obtain ⟨r, rfl, z⟩ := z; exact k r s2 z)
theorem ll_17 {P : nw_PT} {X : nw_EX} {cc : ByteArray} {nL : Nat} {σ : nw_ST} {lv : List (Nat × Value)} {pc : Nat} {rest : List Value} {a1 : Int32} {a2 : Int32} (h : nw_ok P X cc RL nL) (hR : X.2.2.2.1 = room_1) {K : Int32 → nw_ST → Prop} (hf : (f5_type K σ a1 a2)) (hst : (rest.map fun v => v.category).sum ≤ 8) (hd : decode cc pc = .ok (.invokevirtual 17, 3)) (k : ∀ (r : Int32) (s2 : nw_ST), K r s2 → nl_G P X nL s2 lv (pc + 3) (.int r :: rest)) : nl_G P X nL σ lv pc (.int a2 :: .int a1 :: .ref (P.2.1 37) :: rest) :=
  nl_callV (As := [.int a1, .int a2]) (rest := rest) (C := RX5) (ci := 5) h (ct5_type _ P h.2.2 σ a1 a2 K hf) (nw_goodV nw_w605 nw_w606 nw_w607 nw_w342 nw_w608) yd5_type rfl (by rw [hR]; decide) (by rw [hR]; decide) ⟨rfl, rfl⟩ rfl (by decide) rfl rfl hst rfl hd (fun v s2 z => by obtain ⟨r, rfl, z⟩ := z; exact k r s2 z)
theorem ll_18 {P : nw_PT} {X : nw_EX} {cc : ByteArray} {nL : Nat} {σ : nw_ST} {lv : List (Nat × Value)} {pc : Nat} {rest : List Value} {a1 : Int32} (h : nw_ok P X cc RL nL) (hR : X.2.2.2.1 = room_1) {K : Int32 → nw_ST → Prop} (hf : (f4_wipe K σ a1)) (hst : (rest.map fun v => v.category).sum ≤ 8) (hd : decode cc pc = .ok (.invokevirtual 18, 3)) (k : ∀ (r : Int32) (s2 : nw_ST), K r s2 → nl_G P X nL s2 lv (pc + 3) (.int r :: rest)) : nl_G P X nL σ lv pc (.int a1 :: .ref (P.2.1 0) :: rest) :=
  nl_callV (As := [.int a1]) (rest := rest) (C := RX4) (ci := 4) h (ct4_wipe _ P h.2.2 σ a1 K hf) (nw_goodV nw_w609 nw_w610 nw_w611 nw_w24 nw_w612) yd4_wipe rfl (by rw [hR]; decide) (by rw [hR]; decide) ⟨rfl, rfl⟩ rfl (by decide) rfl rfl hst rfl hd (fun v s2 z => by obtain ⟨r, rfl, z⟩ := z; exact k r s2 z)
theorem ll_22 {P : nw_PT} {X : nw_EX} {cc : ByteArray} {nL : Nat} {σ : nw_ST} {lv : List (Nat × Value)} {pc : Nat} {rest : List Value} {a1 : Int32} (h : nw_ok P X cc RL nL) (hR : X.2.2.2.1 = room_1) {K : Int32 → nw_ST → Prop} (hf : (f5_wipe K σ a1)) (hst : (rest.map fun v => v.category).sum ≤ 8) (hd : decode cc pc = .ok (.invokevirtual 22, 3)) (k : ∀ (r : Int32) (s2 : nw_ST), K r s2 → nl_G P X nL s2 lv (pc + 3) (.int r :: rest)) : nl_G P X nL σ lv pc (.int a1 :: .ref (P.2.1 37) :: rest) :=
  nl_callV (As := [.int a1]) (rest := rest) (C := RX5) (ci := 5) h (ct5_wipe _ P h.2.2 σ a1 K hf) (nw_goodV nw_w613 nw_w614 nw_w615 nw_w342 nw_w616) yd5_wipe rfl (by rw [hR]; decide) (by rw [hR]; decide) ⟨rfl, rfl⟩ rfl (by decide) rfl rfl hst rfl hd (fun v s2 z => by obtain ⟨r, rfl, z⟩ := z; exact k r s2 z)
theorem ll_23 {P : nw_PT} {X : nw_EX} {cc : ByteArray} {nL : Nat} {σ : nw_ST} {lv : List (Nat × Value)} {pc : Nat} {rest : List Value} {a1 : Int32} (h : nw_ok P X cc RL nL) (hR : X.2.2.2.1 = room_1) {K : Int32 → nw_ST → Prop} (hf : (f4_undo K σ a1)) (hst : (rest.map fun v => v.category).sum ≤ 8) (hd : decode cc pc = .ok (.invokevirtual 23, 3)) (k : ∀ (r : Int32) (s2 : nw_ST), K r s2 → nl_G P X nL s2 lv (pc + 3) (.int r :: rest)) : nl_G P X nL σ lv pc (.int a1 :: .ref (P.2.1 0) :: rest) :=
  nl_callV (As := [.int a1]) (rest := rest) (C := RX4) (ci := 4) h (ct4_undo _ P h.2.2 σ a1 K hf) (nw_goodV nw_w617 nw_w618 nw_w619 nw_w24 nw_w620) yd4_undo rfl (by rw [hR]; decide) (by rw [hR]; decide) ⟨rfl, rfl⟩ rfl (by decide) rfl rfl hst rfl hd (fun v s2 z => by obtain ⟨r, rfl, z⟩ := z; exact k r s2 z)
theorem ll_26 {P : nw_PT} {X : nw_EX} {cc : ByteArray} {nL : Nat} {σ : nw_ST} {lv : List (Nat × Value)} {pc : Nat} {rest : List Value} {a1 : Int32} (h : nw_ok P X cc RL nL) (hR : X.2.2.2.1 = room_1) {K : Int32 → nw_ST → Prop} (hf : (f5_undo K σ a1)) (hst : (rest.map fun v => v.category).sum ≤ 8) (hd : decode cc pc = .ok (.invokevirtual 26, 3)) (k : ∀ (r : Int32) (s2 : nw_ST), K r s2 → nl_G P X nL s2 lv (pc + 3) (.int r :: rest)) : nl_G P X nL σ lv pc (.int a1 :: .ref (P.2.1 37) :: rest) :=
  nl_callV (As := [.int a1]) (rest := rest) (C := RX5) (ci := 5) h (ct5_undo _ P h.2.2 σ a1 K hf) (nw_goodV nw_w621 nw_w622 nw_w623 nw_w342 nw_w624) yd5_undo rfl (by rw [hR]; decide) (by rw [hR]; decide) ⟨rfl, rfl⟩ rfl (by decide) rfl rfl hst rfl hd (fun v s2 z => by obtain ⟨r, rfl, z⟩ := z; exact k r s2 z)
theorem ll_27 {P : nw_PT} {X : nw_EX} {cc : ByteArray} {nL : Nat} {σ : nw_ST} {lv : List (Nat × Value)} {pc : Nat} {rest : List Value} {a1 : Int32} (h : nw_ok P X cc RL nL) (hR : X.2.2.2.1 = room_1) {K : Int32 → nw_ST → Prop} (hf : (K (v4_fault σ a1) σ)) (hst : (rest.map fun v => v.category).sum ≤ 8) (hd : decode cc pc = .ok (.invokevirtual 27, 3)) (k : ∀ (r : Int32) (s2 : nw_ST), K r s2 → nl_G P X nL s2 lv (pc + 3) (.int r :: rest)) : nl_G P X nL σ lv pc (.int a1 :: .ref (P.2.1 0) :: rest) :=
  nl_callV (As := [.int a1]) (rest := rest) (C := RX4) (ci := 4) h (ct4_fault _ P h.2.2 σ a1) (nw_goodV nw_w625 nw_w308 nw_w309 nw_w24 nw_w310) yd4_fault rfl (by rw [hR]; decide) (by rw [hR]; decide) ⟨rfl, rfl⟩ rfl (by decide) rfl rfl hst rfl hd (fun v s2 z => by obtain ⟨r, rfl, rfl, rfl⟩ := z; exact k _ _ hf)
theorem ll_30 {P : nw_PT} {X : nw_EX} {cc : ByteArray} {nL : Nat} {σ : nw_ST} {lv : List (Nat × Value)} {pc : Nat} {rest : List Value} {a1 : Int32} (h : nw_ok P X cc RL nL) (hR : X.2.2.2.1 = room_1) {K : Int32 → nw_ST → Prop} (hf : (f5_fault K σ a1)) (hst : (rest.map fun v => v.category).sum ≤ 8) (hd : decode cc pc = .ok (.invokevirtual 30, 3)) (k : ∀ (r : Int32) (s2 : nw_ST), K r s2 → nl_G P X nL s2 lv (pc + 3) (.int r :: rest)) : nl_G P X nL σ lv pc (.int a1 :: .ref (P.2.1 37) :: rest) :=
  nl_callV (As := [.int a1]) (rest := rest) (C := RX5) (ci := 5) h (ct5_fault _ P h.2.2 σ a1 K hf) (nw_goodV nw_w626 nw_w627 nw_w628 nw_w342 nw_w629) yd5_fault rfl (by rw [hR]; decide) (by rw [hR]; decide) ⟨rfl, rfl⟩ rfl (by decide) rfl rfl hst rfl hd (fun v s2 z => by obtain ⟨r, rfl, z⟩ := z; exact k r s2 z)
theorem ll_31 {P : nw_PT} {X : nw_EX} {cc : ByteArray} {nL : Nat} {σ : nw_ST} {lv : List (Nat × Value)} {pc : Nat} {rest : List Value} {a1 : Int32} {a2 : Int32} (h : nw_ok P X cc RL nL) (hR : X.2.2.2.1 = room_1) {K : Int32 → nw_ST → Prop} (hf : ((o4_swell σ a1 a2) ∧ (K (v4_swell σ a1 a2) σ))) (hst : (rest.map fun v => v.category).sum ≤ 8) (hd : decode cc pc = .ok (.invokevirtual 31, 3)) (k : ∀ (r : Int32) (s2 : nw_ST), K r s2 → nl_G P X nL s2 lv (pc + 3) (.int r :: rest)) : nl_G P X nL σ lv pc (.int a2 :: .int a1 :: .ref (P.2.1 0) :: rest) :=
  nl_callV (As := [.int a1, .int a2]) (rest := rest) (C := RX4) (ci := 4) h (ct4_swell _ P h.2.2 σ a1 a2 hf.1) (nw_goodV nw_w630 nw_w241 nw_w242 nw_w24 nw_w243) yd4_swell rfl (by rw [hR]; decide) (by rw [hR]; decide) ⟨rfl, rfl⟩ rfl (by decide) rfl rfl hst rfl hd (fun v s2 z => by obtain ⟨r, rfl, rfl, rfl⟩ := z; exact k _ _ hf.2)
theorem ll_34 {P : nw_PT} {X : nw_EX} {cc : ByteArray} {nL : Nat} {σ : nw_ST} {lv : List (Nat × Value)} {pc : Nat} {rest : List Value} {a1 : Int32} {a2 : Int32} (h : nw_ok P X cc RL nL) (hR : X.2.2.2.1 = room_1) {K : Int32 → nw_ST → Prop} (hf : (f5_swell K σ a1 a2)) (hst : (rest.map fun v => v.category).sum ≤ 8) (hd : decode cc pc = .ok (.invokevirtual 34, 3)) (k : ∀ (r : Int32) (s2 : nw_ST), K r s2 → nl_G P X nL s2 lv (pc + 3) (.int r :: rest)) : nl_G P X nL σ lv pc (.int a2 :: .int a1 :: .ref (P.2.1 37) :: rest) :=
  nl_callV (As := [.int a1, .int a2]) (rest := rest) (C := RX5) (ci := 5) h (ct5_swell _ P h.2.2 σ a1 a2 K hf) (nw_goodV nw_w631 nw_w632 nw_w633 nw_w342 nw_w634) yd5_swell rfl (by rw [hR]; decide) (by rw [hR]; decide) ⟨rfl, rfl⟩ rfl (by decide) rfl rfl hst rfl hd (fun v s2 z => by obtain ⟨r, rfl, z⟩ := z; exact k r s2 z)
theorem ll_35 {P : nw_PT} {X : nw_EX} {cc : ByteArray} {nL : Nat} {σ : nw_ST} {lv : List (Nat × Value)} {pc : Nat} {rest : List Value} {a1 : Int32} {a2 : Int32} (h : nw_ok P X cc RL nL) (hR : X.2.2.2.1 = room_1) {K : Int32 → nw_ST → Prop} (hf : ((o4_find σ a1 a2) ∧ (K (v4_find σ a1 a2) σ))) (hst : (rest.map fun v => v.category).sum ≤ 8) (hd : decode cc pc = .ok (.invokevirtual 35, 3)) (k : ∀ (r : Int32) (s2 : nw_ST), K r s2 → nl_G P X nL s2 lv (pc + 3) (.int r :: rest)) : nl_G P X nL σ lv pc (.int a2 :: .int a1 :: .ref (P.2.1 0) :: rest) :=
  nl_callV (As := [.int a1, .int a2]) (rest := rest) (C := RX4) (ci := 4) h (ct4_find _ P h.2.2 σ a1 a2 hf.1) (nw_goodV nw_w635 nw_w245 nw_w246 nw_w24 nw_w247) yd4_find rfl (by rw [hR]; decide) (by rw [hR]; decide) ⟨rfl, rfl⟩ rfl (by decide) rfl rfl hst rfl hd (fun v s2 z => by obtain ⟨r, rfl, rfl, rfl⟩ := z; exact k _ _ hf.2)
theorem ll_38 {P : nw_PT} {X : nw_EX} {cc : ByteArray} {nL : Nat} {σ : nw_ST} {lv : List (Nat × Value)} {pc : Nat} {rest : List Value} {a1 : Int32} {a2 : Int32} (h : nw_ok P X cc RL nL) (hR : X.2.2.2.1 = room_1) {K : Int32 → nw_ST → Prop} (hf : (f5_find K σ a1 a2)) (hst : (rest.map fun v => v.category).sum ≤ 8) (hd : decode cc pc = .ok (.invokevirtual 38, 3)) (k : ∀ (r : Int32) (s2 : nw_ST), K r s2 → nl_G P X nL s2 lv (pc + 3) (.int r :: rest)) : nl_G P X nL σ lv pc (.int a2 :: .int a1 :: .ref (P.2.1 37) :: rest) :=
  nl_callV (As := [.int a1, .int a2]) (rest := rest) (C := RX5) (ci := 5) h (ct5_find _ P h.2.2 σ a1 a2 K hf) (nw_goodV nw_w636 nw_w637 nw_w638 nw_w342 nw_w639) yd5_find rfl (by rw [hR]; decide) (by rw [hR]; decide) ⟨rfl, rfl⟩ rfl (by decide) rfl rfl hst rfl hd (fun v s2 z => by obtain ⟨r, rfl, z⟩ := z; exact k r s2 z)
theorem ll_39 {P : nw_PT} {X : nw_EX} {cc : ByteArray} {nL : Nat} {σ : nw_ST} {lv : List (Nat × Value)} {pc : Nat} {rest : List Value} {a1 : Int32} (h : nw_ok P X cc RL nL) (hR : X.2.2.2.1 = room_1) {K : Int32 → nw_ST → Prop} (hf : (f4_depth K σ a1)) (hst : (rest.map fun v => v.category).sum ≤ 8) (hd : decode cc pc = .ok (.invokevirtual 39, 3)) (k : ∀ (r : Int32) (s2 : nw_ST), K r s2 → nl_G P X nL s2 lv (pc + 3) (.int r :: rest)) : nl_G P X nL σ lv pc (.int a1 :: .ref (P.2.1 0) :: rest) :=
  nl_callV (As := [.int a1]) (rest := rest) (C := RX4) (ci := 4) h (ct4_depth _ P h.2.2 σ a1 K hf) (nw_goodV nw_w640 nw_w641 nw_w642 nw_w24 nw_w643) yd4_depth rfl (by rw [hR]; decide) (by rw [hR]; decide) ⟨rfl, rfl⟩ rfl (by decide) rfl rfl hst rfl hd (fun v s2 z => by obtain ⟨r, rfl, z⟩ := z; exact k r s2 z)
theorem ll_42 {P : nw_PT} {X : nw_EX} {cc : ByteArray} {nL : Nat} {σ : nw_ST} {lv : List (Nat × Value)} {pc : Nat} {rest : List Value} {a1 : Int32} (h : nw_ok P X cc RL nL) (hR : X.2.2.2.1 = room_1) {K : Int32 → nw_ST → Prop} (hf : (f5_depth K σ a1)) (hst : (rest.map fun v => v.category).sum ≤ 8) (hd : decode cc pc = .ok (.invokevirtual 42, 3)) (k : ∀ (r : Int32) (s2 : nw_ST), K r s2 → nl_G P X nL s2 lv (pc + 3) (.int r :: rest)) : nl_G P X nL σ lv pc (.int a1 :: .ref (P.2.1 37) :: rest) :=
  nl_callV (As := [.int a1]) (rest := rest) (C := RX5) (ci := 5) h (ct5_depth _ P h.2.2 σ a1 K hf) (nw_goodV nw_w644 nw_w645 nw_w646 nw_w342 nw_w647) yd5_depth rfl (by rw [hR]; decide) (by rw [hR]; decide) ⟨rfl, rfl⟩ rfl (by decide) rfl rfl hst rfl hd (fun v s2 z => by obtain ⟨r, rfl, z⟩ := z; exact k r s2 z)
theorem ll_43 {P : nw_PT} {X : nw_EX} {cc : ByteArray} {nL : Nat} {σ : nw_ST} {lv : List (Nat × Value)} {pc : Nat} {rest : List Value} {a1 : Int32} {a2 : Int32} (h : nw_ok P X cc RL nL) (hR : X.2.2.2.1 = room_1) {K : Int32 → nw_ST → Prop} (hf : (f4_slip K σ a1 a2)) (hst : (rest.map fun v => v.category).sum ≤ 8) (hd : decode cc pc = .ok (.invokevirtual 43, 3)) (k : ∀ (r : Int32) (s2 : nw_ST), K r s2 → nl_G P X nL s2 lv (pc + 3) (.int r :: rest)) : nl_G P X nL σ lv pc (.int a2 :: .int a1 :: .ref (P.2.1 0) :: rest) :=
  nl_callV (As := [.int a1, .int a2]) (rest := rest) (C := RX4) (ci := 4) h (ct4_slip _ P h.2.2 σ a1 a2 K hf) (nw_goodV nw_w648 nw_w649 nw_w650 nw_w24 nw_w651) yd4_slip rfl (by rw [hR]; decide) (by rw [hR]; decide) ⟨rfl, rfl⟩ rfl (by decide) rfl rfl hst rfl hd (fun v s2 z => by obtain ⟨r, rfl, z⟩ := z; exact k r s2 z)
theorem ll_46 {P : nw_PT} {X : nw_EX} {cc : ByteArray} {nL : Nat} {σ : nw_ST} {lv : List (Nat × Value)} {pc : Nat} {rest : List Value} {a1 : Int32} {a2 : Int32} (h : nw_ok P X cc RL nL) (hR : X.2.2.2.1 = room_1) {K : Int32 → nw_ST → Prop} (hf : (f5_slip K σ a1 a2)) (hst : (rest.map fun v => v.category).sum ≤ 8) (hd : decode cc pc = .ok (.invokevirtual 46, 3)) (k : ∀ (r : Int32) (s2 : nw_ST), K r s2 → nl_G P X nL s2 lv (pc + 3) (.int r :: rest)) : nl_G P X nL σ lv pc (.int a2 :: .int a1 :: .ref (P.2.1 37) :: rest) :=
  nl_callV (As := [.int a1, .int a2]) (rest := rest) (C := RX5) (ci := 5) h (ct5_slip _ P h.2.2 σ a1 a2 K hf) (nw_goodV nw_w652 nw_w653 nw_w654 nw_w342 nw_w655) yd5_slip rfl (by rw [hR]; decide) (by rw [hR]; decide) ⟨rfl, rfl⟩ rfl (by decide) rfl rfl hst rfl hd (fun v s2 z => by obtain ⟨r, rfl, z⟩ := z; exact k r s2 z)
theorem ll_47 {P : nw_PT} {X : nw_EX} {cc : ByteArray} {nL : Nat} {σ : nw_ST} {lv : List (Nat × Value)} {pc : Nat} {rest : List Value} {a1 : Int32} (h : nw_ok P X cc RL nL) (hR : X.2.2.2.1 = room_1) {K : Int32 → nw_ST → Prop} (hf : (f4_wake K σ a1)) (hst : (rest.map fun v => v.category).sum ≤ 8) (hd : decode cc pc = .ok (.invokevirtual 47, 3)) (k : ∀ (r : Int32) (s2 : nw_ST), K r s2 → nl_G P X nL s2 lv (pc + 3) (.int r :: rest)) : nl_G P X nL σ lv pc (.int a1 :: .ref (P.2.1 0) :: rest) :=
  nl_callV (As := [.int a1]) (rest := rest) (C := RX4) (ci := 4) h (ct4_wake _ P h.2.2 σ a1 K hf) (nw_goodV nw_w656 nw_w657 nw_w658 nw_w24 nw_w659) yd4_wake rfl (by rw [hR]; decide) (by rw [hR]; decide) ⟨rfl, rfl⟩ rfl (by decide) rfl rfl hst rfl hd (fun v s2 z => by obtain ⟨r, rfl, z⟩ := z; exact k r s2 z)
theorem ll_50 {P : nw_PT} {X : nw_EX} {cc : ByteArray} {nL : Nat} {σ : nw_ST} {lv : List (Nat × Value)} {pc : Nat} {rest : List Value} {a1 : Int32} (h : nw_ok P X cc RL nL) (hR : X.2.2.2.1 = room_1) {K : Int32 → nw_ST → Prop} (hf : (f5_wake K σ a1)) (hst : (rest.map fun v => v.category).sum ≤ 8) (hd : decode cc pc = .ok (.invokevirtual 50, 3)) (k : ∀ (r : Int32) (s2 : nw_ST), K r s2 → nl_G P X nL s2 lv (pc + 3) (.int r :: rest)) : nl_G P X nL σ lv pc (.int a1 :: .ref (P.2.1 37) :: rest) :=
  nl_callV (As := [.int a1]) (rest := rest) (C := RX5) (ci := 5) h (ct5_wake _ P h.2.2 σ a1 K hf) (nw_goodV nw_w660 nw_w661 nw_w662 nw_w342 nw_w663) yd5_wake rfl (by rw [hR]; decide) (by rw [hR]; decide) ⟨rfl, rfl⟩ rfl (by decide) rfl rfl hst rfl hd (fun v s2 z => by obtain ⟨r, rfl, z⟩ := z; exact k r s2 z)
theorem ll_51 {P : nw_PT} {X : nw_EX} {cc : ByteArray} {nL : Nat} {σ : nw_ST} {lv : List (Nat × Value)} {pc : Nat} {rest : List Value} {a1 : Int32} {a2 : Int32} (h : nw_ok P X cc RL nL) (hR : X.2.2.2.1 = room_1) {K : Int32 → nw_ST → Prop} (hf : (f4_ticket K σ a1 a2)) (hst : (rest.map fun v => v.category).sum ≤ 8) (hd : decode cc pc = .ok (.invokevirtual 51, 3)) (k : ∀ (r : Int32) (s2 : nw_ST), K r s2 → nl_G P X nL s2 lv (pc + 3) (.int r :: rest)) : nl_G P X nL σ lv pc (.int a2 :: .int a1 :: .ref (P.2.1 0) :: rest) :=
  nl_callV (As := [.int a1, .int a2]) (rest := rest) (C := RX4) (ci := 4) h (ct4_ticket _ P h.2.2 σ a1 a2 K hf) (nw_goodV nw_w664 nw_w665 nw_w666 nw_w24 nw_w667) yd4_ticket rfl (by rw [hR]; decide) (by rw [hR]; decide) ⟨rfl, rfl⟩ rfl (by decide) rfl rfl hst rfl hd (fun v s2 z => by obtain ⟨r, rfl, z⟩ := z; exact k r s2 z)
theorem ll_54 {P : nw_PT} {X : nw_EX} {cc : ByteArray} {nL : Nat} {σ : nw_ST} {lv : List (Nat × Value)} {pc : Nat} {rest : List Value} {a1 : Int32} {a2 : Int32} (h : nw_ok P X cc RL nL) (hR : X.2.2.2.1 = room_1) {K : Int32 → nw_ST → Prop} (hf : (f5_ticket K σ a1 a2)) (hst : (rest.map fun v => v.category).sum ≤ 8) (hd : decode cc pc = .ok (.invokevirtual 54, 3)) (k : ∀ (r : Int32) (s2 : nw_ST), K r s2 → nl_G P X nL s2 lv (pc + 3) (.int r :: rest)) : nl_G P X nL σ lv pc (.int a2 :: .int a1 :: .ref (P.2.1 37) :: rest) :=
  nl_callV (As := [.int a1, .int a2]) (rest := rest) (C := RX5) (ci := 5) h (ct5_ticket _ P h.2.2 σ a1 a2 K hf) (nw_goodV nw_w668 nw_w420 nw_w421 nw_w342 nw_w422) yd5_ticket rfl (by rw [hR]; decide) (by rw [hR]; decide) ⟨rfl, rfl⟩ rfl (by decide) rfl rfl hst rfl hd (fun v s2 z => by obtain ⟨r, rfl, z⟩ := z; exact k r s2 z)
theorem ll_55 {P : nw_PT} {X : nw_EX} {cc : ByteArray} {nL : Nat} {σ : nw_ST} {lv : List (Nat × Value)} {pc : Nat} {rest : List Value} {a1 : Int32} (h : nw_ok P X cc RL nL) (hR : X.2.2.2.1 = room_1) {K : Int32 → nw_ST → Prop} (hf : (f4_back K σ a1)) (hst : (rest.map fun v => v.category).sum ≤ 8) (hd : decode cc pc = .ok (.invokevirtual 55, 3)) (k : ∀ (r : Int32) (s2 : nw_ST), K r s2 → nl_G P X nL s2 lv (pc + 3) (.int r :: rest)) : nl_G P X nL σ lv pc (.int a1 :: .ref (P.2.1 0) :: rest) :=
  nl_callV (As := [.int a1]) (rest := rest) (C := RX4) (ci := 4) h (ct4_back _ P h.2.2 σ a1 K hf) (nw_goodV nw_w669 nw_w670 nw_w671 nw_w24 nw_w672) yd4_back rfl (by rw [hR]; decide) (by rw [hR]; decide) ⟨rfl, rfl⟩ rfl (by decide) rfl rfl hst rfl hd (fun v s2 z => by obtain ⟨r, rfl, z⟩ := z; exact k r s2 z)
theorem ll_58 {P : nw_PT} {X : nw_EX} {cc : ByteArray} {nL : Nat} {σ : nw_ST} {lv : List (Nat × Value)} {pc : Nat} {rest : List Value} {a1 : Int32} (h : nw_ok P X cc RL nL) (hR : X.2.2.2.1 = room_1) {K : Int32 → nw_ST → Prop} (hf : (f5_back K σ a1)) (hst : (rest.map fun v => v.category).sum ≤ 8) (hd : decode cc pc = .ok (.invokevirtual 58, 3)) (k : ∀ (r : Int32) (s2 : nw_ST), K r s2 → nl_G P X nL s2 lv (pc + 3) (.int r :: rest)) : nl_G P X nL σ lv pc (.int a1 :: .ref (P.2.1 37) :: rest) :=
  nl_callV (As := [.int a1]) (rest := rest) (C := RX5) (ci := 5) h (ct5_back _ P h.2.2 σ a1 K hf) (nw_goodV nw_w673 nw_w674 nw_w675 nw_w342 nw_w676) yd5_back rfl (by rw [hR]; decide) (by rw [hR]; decide) ⟨rfl, rfl⟩ rfl (by decide) rfl rfl hst rfl hd (fun v s2 z => by obtain ⟨r, rfl, z⟩ := z; exact k r s2 z)
theorem ll_59 {P : nw_PT} {X : nw_EX} {cc : ByteArray} {nL : Nat} {σ : nw_ST} {lv : List (Nat × Value)} {pc : Nat} {rest : List Value} {a1 : Int32} (h : nw_ok P X cc RL nL) (hR : X.2.2.2.1 = room_1) {K : Int32 → nw_ST → Prop} (hf : (f4_read K σ a1)) (hst : (rest.map fun v => v.category).sum ≤ 8) (hd : decode cc pc = .ok (.invokevirtual 59, 3)) (k : ∀ (r : Int32) (s2 : nw_ST), K r s2 → nl_G P X nL s2 lv (pc + 3) (.int r :: rest)) : nl_G P X nL σ lv pc (.int a1 :: .ref (P.2.1 0) :: rest) :=
  nl_callV (As := [.int a1]) (rest := rest) (C := RX4) (ci := 4) h (ct4_read _ P h.2.2 σ a1 K hf) (nw_goodV nw_w677 nw_w678 nw_w679 nw_w24 nw_w680) yd4_read rfl (by rw [hR]; decide) (by rw [hR]; decide) ⟨rfl, rfl⟩ rfl (by decide) rfl rfl hst rfl hd (fun v s2 z => by obtain ⟨r, rfl, z⟩ := z; exact k r s2 z)
theorem ll_62 {P : nw_PT} {X : nw_EX} {cc : ByteArray} {nL : Nat} {σ : nw_ST} {lv : List (Nat × Value)} {pc : Nat} {rest : List Value} {a1 : Int32} (h : nw_ok P X cc RL nL) (hR : X.2.2.2.1 = room_1) {K : Int32 → nw_ST → Prop} (hf : (f5_read K σ a1)) (hst : (rest.map fun v => v.category).sum ≤ 8) (hd : decode cc pc = .ok (.invokevirtual 62, 3)) (k : ∀ (r : Int32) (s2 : nw_ST), K r s2 → nl_G P X nL s2 lv (pc + 3) (.int r :: rest)) : nl_G P X nL σ lv pc (.int a1 :: .ref (P.2.1 37) :: rest) :=
  nl_callV (As := [.int a1]) (rest := rest) (C := RX5) (ci := 5) h (ct5_read _ P h.2.2 σ a1 K hf) (nw_goodV nw_w681 nw_w682 nw_w683 nw_w342 nw_w684) yd5_read rfl (by rw [hR]; decide) (by rw [hR]; decide) ⟨rfl, rfl⟩ rfl (by decide) rfl rfl hst rfl hd (fun v s2 z => by obtain ⟨r, rfl, z⟩ := z; exact k r s2 z)
theorem ll_63 {P : nw_PT} {X : nw_EX} {cc : ByteArray} {nL : Nat} {σ : nw_ST} {lv : List (Nat × Value)} {pc : Nat} {rest : List Value} {a1 : Int32} (h : nw_ok P X cc RL nL) (hR : X.2.2.2.1 = room_1) {K : Int32 → nw_ST → Prop} (hf : (f4_high K σ a1)) (hst : (rest.map fun v => v.category).sum ≤ 8) (hd : decode cc pc = .ok (.invokevirtual 63, 3)) (k : ∀ (r : Int32) (s2 : nw_ST), K r s2 → nl_G P X nL s2 lv (pc + 3) (.int r :: rest)) : nl_G P X nL σ lv pc (.int a1 :: .ref (P.2.1 0) :: rest) :=
  nl_callV (As := [.int a1]) (rest := rest) (C := RX4) (ci := 4) h (ct4_high _ P h.2.2 σ a1 K hf) (nw_goodV nw_w685 nw_w250 nw_w251 nw_w24 nw_w252) yd4_high rfl (by rw [hR]; decide) (by rw [hR]; decide) ⟨rfl, rfl⟩ rfl (by decide) rfl rfl hst rfl hd (fun v s2 z => by obtain ⟨r, rfl, z⟩ := z; exact k r s2 z)
theorem ll_66 {P : nw_PT} {X : nw_EX} {cc : ByteArray} {nL : Nat} {σ : nw_ST} {lv : List (Nat × Value)} {pc : Nat} {rest : List Value} {a1 : Int32} (h : nw_ok P X cc RL nL) (hR : X.2.2.2.1 = room_1) {K : Int32 → nw_ST → Prop} (hf : (f5_high K σ a1)) (hst : (rest.map fun v => v.category).sum ≤ 8) (hd : decode cc pc = .ok (.invokevirtual 66, 3)) (k : ∀ (r : Int32) (s2 : nw_ST), K r s2 → nl_G P X nL s2 lv (pc + 3) (.int r :: rest)) : nl_G P X nL σ lv pc (.int a1 :: .ref (P.2.1 37) :: rest) :=
  nl_callV (As := [.int a1]) (rest := rest) (C := RX5) (ci := 5) h (ct5_high _ P h.2.2 σ a1 K hf) (nw_goodV nw_w686 nw_w687 nw_w688 nw_w342 nw_w689) yd5_high rfl (by rw [hR]; decide) (by rw [hR]; decide) ⟨rfl, rfl⟩ rfl (by decide) rfl rfl hst rfl hd (fun v s2 z => by obtain ⟨r, rfl, z⟩ := z; exact k r s2 z)
theorem ll_67 {P : nw_PT} {X : nw_EX} {cc : ByteArray} {nL : Nat} {σ : nw_ST} {lv : List (Nat × Value)} {pc : Nat} {rest : List Value} {a1 : Int32} {a2 : Int32} (h : nw_ok P X cc RL nL) (hR : X.2.2.2.1 = room_1) {K : Int32 → nw_ST → Prop} (hf : (f4_wave K σ a1 a2)) (hst : (rest.map fun v => v.category).sum ≤ 8) (hd : decode cc pc = .ok (.invokevirtual 67, 3)) (k : ∀ (r : Int32) (s2 : nw_ST), K r s2 → nl_G P X nL s2 lv (pc + 3) (.int r :: rest)) : nl_G P X nL σ lv pc (.int a2 :: .int a1 :: .ref (P.2.1 0) :: rest) :=
  nl_callV (As := [.int a1, .int a2]) (rest := rest) (C := RX4) (ci := 4) h (ct4_wave _ P h.2.2 σ a1 a2 K hf) (nw_goodV nw_w690 nw_w258 nw_w259 nw_w24 nw_w260) yd4_wave rfl (by rw [hR]; decide) (by rw [hR]; decide) ⟨rfl, rfl⟩ rfl (by decide) rfl rfl hst rfl hd (fun v s2 z => by obtain ⟨r, rfl, z⟩ := z; exact k r s2 z)
theorem ll_70 {P : nw_PT} {X : nw_EX} {cc : ByteArray} {nL : Nat} {σ : nw_ST} {lv : List (Nat × Value)} {pc : Nat} {rest : List Value} {a1 : Int32} {a2 : Int32} (h : nw_ok P X cc RL nL) (hR : X.2.2.2.1 = room_1) {K : Int32 → nw_ST → Prop} (hf : (f5_wave K σ a1 a2)) (hst : (rest.map fun v => v.category).sum ≤ 8) (hd : decode cc pc = .ok (.invokevirtual 70, 3)) (k : ∀ (r : Int32) (s2 : nw_ST), K r s2 → nl_G P X nL s2 lv (pc + 3) (.int r :: rest)) : nl_G P X nL σ lv pc (.int a2 :: .int a1 :: .ref (P.2.1 37) :: rest) :=
  nl_callV (As := [.int a1, .int a2]) (rest := rest) (C := RX5) (ci := 5) h (ct5_wave _ P h.2.2 σ a1 a2 K hf) (nw_goodV nw_w691 nw_w692 nw_w693 nw_w342 nw_w694) yd5_wave rfl (by rw [hR]; decide) (by rw [hR]; decide) ⟨rfl, rfl⟩ rfl (by decide) rfl rfl hst rfl hd (fun v s2 z => by obtain ⟨r, rfl, z⟩ := z; exact k r s2 z)
theorem ll_71 {P : nw_PT} {X : nw_EX} {cc : ByteArray} {nL : Nat} {σ : nw_ST} {lv : List (Nat × Value)} {pc : Nat} {rest : List Value} {a1 : Int32} (h : nw_ok P X cc RL nL) (hR : X.2.2.2.1 = room_1) {K : Int32 → nw_ST → Prop} (hf : (f4_when K σ a1)) (hst : (rest.map fun v => v.category).sum ≤ 8) (hd : decode cc pc = .ok (.invokevirtual 71, 3)) (k : ∀ (r : Int32) (s2 : nw_ST), K r s2 → nl_G P X nL s2 lv (pc + 3) (.int r :: rest)) : nl_G P X nL σ lv pc (.int a1 :: .ref (P.2.1 0) :: rest) :=
  nl_callV (As := [.int a1]) (rest := rest) (C := RX4) (ci := 4) h (ct4_when _ P h.2.2 σ a1 K hf) (nw_goodV nw_w695 nw_w263 nw_w264 nw_w24 nw_w265) yd4_when rfl (by rw [hR]; decide) (by rw [hR]; decide) ⟨rfl, rfl⟩ rfl (by decide) rfl rfl hst rfl hd (fun v s2 z => by obtain ⟨r, rfl, z⟩ := z; exact k r s2 z)
theorem ll_74 {P : nw_PT} {X : nw_EX} {cc : ByteArray} {nL : Nat} {σ : nw_ST} {lv : List (Nat × Value)} {pc : Nat} {rest : List Value} {a1 : Int32} (h : nw_ok P X cc RL nL) (hR : X.2.2.2.1 = room_1) {K : Int32 → nw_ST → Prop} (hf : (f5_when K σ a1)) (hst : (rest.map fun v => v.category).sum ≤ 8) (hd : decode cc pc = .ok (.invokevirtual 74, 3)) (k : ∀ (r : Int32) (s2 : nw_ST), K r s2 → nl_G P X nL s2 lv (pc + 3) (.int r :: rest)) : nl_G P X nL σ lv pc (.int a1 :: .ref (P.2.1 37) :: rest) :=
  nl_callV (As := [.int a1]) (rest := rest) (C := RX5) (ci := 5) h (ct5_when _ P h.2.2 σ a1 K hf) (nw_goodV nw_w696 nw_w697 nw_w698 nw_w342 nw_w699) yd5_when rfl (by rw [hR]; decide) (by rw [hR]; decide) ⟨rfl, rfl⟩ rfl (by decide) rfl rfl hst rfl hd (fun v s2 z => by obtain ⟨r, rfl, z⟩ := z; exact k r s2 z)
theorem ll_75 {P : nw_PT} {X : nw_EX} {cc : ByteArray} {nL : Nat} {σ : nw_ST} {lv : List (Nat × Value)} {pc : Nat} {rest : List Value} {a1 : Int32} {a2 : Int32} (h : nw_ok P X cc RL nL) (hR : X.2.2.2.1 = room_1) {K : Int32 → nw_ST → Prop} (hf : (f4_called K σ a1 a2)) (hst : (rest.map fun v => v.category).sum ≤ 8) (hd : decode cc pc = .ok (.invokevirtual 75, 3)) (k : ∀ (r : Int32) (s2 : nw_ST), K r s2 → nl_G P X nL s2 lv (pc + 3) (.int r :: rest)) : nl_G P X nL σ lv pc (.int a2 :: .int a1 :: .ref (P.2.1 0) :: rest) :=
  nl_callV (As := [.int a1, .int a2]) (rest := rest) (C := RX4) (ci := 4) h (ct4_called _ P h.2.2 σ a1 a2 K hf) (nw_goodV nw_w700 nw_w254 nw_w255 nw_w24 nw_w256) yd4_called rfl (by rw [hR]; decide) (by rw [hR]; decide) ⟨rfl, rfl⟩ rfl (by decide) rfl rfl hst rfl hd (fun v s2 z => by obtain ⟨r, rfl, z⟩ := z; exact k r s2 z)
theorem ll_78 {P : nw_PT} {X : nw_EX} {cc : ByteArray} {nL : Nat} {σ : nw_ST} {lv : List (Nat × Value)} {pc : Nat} {rest : List Value} {a1 : Int32} {a2 : Int32} (h : nw_ok P X cc RL nL) (hR : X.2.2.2.1 = room_1) {K : Int32 → nw_ST → Prop} (hf : (f5_called K σ a1 a2)) (hst : (rest.map fun v => v.category).sum ≤ 8) (hd : decode cc pc = .ok (.invokevirtual 78, 3)) (k : ∀ (r : Int32) (s2 : nw_ST), K r s2 → nl_G P X nL s2 lv (pc + 3) (.int r :: rest)) : nl_G P X nL σ lv pc (.int a2 :: .int a1 :: .ref (P.2.1 37) :: rest) :=
  nl_callV (As := [.int a1, .int a2]) (rest := rest) (C := RX5) (ci := 5) h (ct5_called _ P h.2.2 σ a1 a2 K hf) (nw_goodV nw_w701 nw_w702 nw_w703 nw_w342 nw_w704) yd5_called rfl (by rw [hR]; decide) (by rw [hR]; decide) ⟨rfl, rfl⟩ rfl (by decide) rfl rfl hst rfl hd (fun v s2 z => by obtain ⟨r, rfl, z⟩ := z; exact k r s2 z)
theorem ll_79 {P : nw_PT} {X : nw_EX} {cc : ByteArray} {nL : Nat} {σ : nw_ST} {lv : List (Nat × Value)} {pc : Nat} {rest : List Value} {a1 : Int32} (h : nw_ok P X cc RL nL) (hR : X.2.2.2.1 = room_1) {K : Int32 → nw_ST → Prop} (hf : (f4_brings K σ a1)) (hst : (rest.map fun v => v.category).sum ≤ 8) (hd : decode cc pc = .ok (.invokevirtual 79, 3)) (k : ∀ (r : Int32) (s2 : nw_ST), K r s2 → nl_G P X nL s2 lv (pc + 3) (.int r :: rest)) : nl_G P X nL σ lv pc (.int a1 :: .ref (P.2.1 0) :: rest) :=
  nl_callV (As := [.int a1]) (rest := rest) (C := RX4) (ci := 4) h (ct4_brings _ P h.2.2 σ a1 K hf) (nw_goodV nw_w705 nw_w267 nw_w268 nw_w24 nw_w269) yd4_brings rfl (by rw [hR]; decide) (by rw [hR]; decide) ⟨rfl, rfl⟩ rfl (by decide) rfl rfl hst rfl hd (fun v s2 z => by obtain ⟨r, rfl, z⟩ := z; exact k r s2 z)
theorem ll_82 {P : nw_PT} {X : nw_EX} {cc : ByteArray} {nL : Nat} {σ : nw_ST} {lv : List (Nat × Value)} {pc : Nat} {rest : List Value} {a1 : Int32} (h : nw_ok P X cc RL nL) (hR : X.2.2.2.1 = room_1) {K : Int32 → nw_ST → Prop} (hf : (f5_brings K σ a1)) (hst : (rest.map fun v => v.category).sum ≤ 8) (hd : decode cc pc = .ok (.invokevirtual 82, 3)) (k : ∀ (r : Int32) (s2 : nw_ST), K r s2 → nl_G P X nL s2 lv (pc + 3) (.int r :: rest)) : nl_G P X nL σ lv pc (.int a1 :: .ref (P.2.1 37) :: rest) :=
  nl_callV (As := [.int a1]) (rest := rest) (C := RX5) (ci := 5) h (ct5_brings _ P h.2.2 σ a1 K hf) (nw_goodV nw_w706 nw_w707 nw_w708 nw_w342 nw_w709) yd5_brings rfl (by rw [hR]; decide) (by rw [hR]; decide) ⟨rfl, rfl⟩ rfl (by decide) rfl rfl hst rfl hd (fun v s2 z => by obtain ⟨r, rfl, z⟩ := z; exact k r s2 z)
theorem ll_83 {P : nw_PT} {X : nw_EX} {cc : ByteArray} {nL : Nat} {σ : nw_ST} {lv : List (Nat × Value)} {pc : Nat} {rest : List Value} {a1 : Int32} (h : nw_ok P X cc RL nL) (hR : X.2.2.2.1 = room_1) {K : Int32 → nw_ST → Prop} (hf : (f4_claims K σ a1)) (hst : (rest.map fun v => v.category).sum ≤ 8) (hd : decode cc pc = .ok (.invokevirtual 83, 3)) (k : ∀ (r : Int32) (s2 : nw_ST), K r s2 → nl_G P X nL s2 lv (pc + 3) (.int r :: rest)) : nl_G P X nL σ lv pc (.int a1 :: .ref (P.2.1 0) :: rest) :=
  nl_callV (As := [.int a1]) (rest := rest) (C := RX4) (ci := 4) h (ct4_claims _ P h.2.2 σ a1 K hf) (nw_goodV nw_w710 nw_w275 nw_w276 nw_w24 nw_w277) yd4_claims rfl (by rw [hR]; decide) (by rw [hR]; decide) ⟨rfl, rfl⟩ rfl (by decide) rfl rfl hst rfl hd (fun v s2 z => by obtain ⟨r, rfl, z⟩ := z; exact k r s2 z)
theorem ll_86 {P : nw_PT} {X : nw_EX} {cc : ByteArray} {nL : Nat} {σ : nw_ST} {lv : List (Nat × Value)} {pc : Nat} {rest : List Value} {a1 : Int32} (h : nw_ok P X cc RL nL) (hR : X.2.2.2.1 = room_1) {K : Int32 → nw_ST → Prop} (hf : (f5_claims K σ a1)) (hst : (rest.map fun v => v.category).sum ≤ 8) (hd : decode cc pc = .ok (.invokevirtual 86, 3)) (k : ∀ (r : Int32) (s2 : nw_ST), K r s2 → nl_G P X nL s2 lv (pc + 3) (.int r :: rest)) : nl_G P X nL σ lv pc (.int a1 :: .ref (P.2.1 37) :: rest) :=
  nl_callV (As := [.int a1]) (rest := rest) (C := RX5) (ci := 5) h (ct5_claims _ P h.2.2 σ a1 K hf) (nw_goodV nw_w711 nw_w712 nw_w713 nw_w342 nw_w714) yd5_claims rfl (by rw [hR]; decide) (by rw [hR]; decide) ⟨rfl, rfl⟩ rfl (by decide) rfl rfl hst rfl hd (fun v s2 z => by obtain ⟨r, rfl, z⟩ := z; exact k r s2 z)
theorem ll_87 {P : nw_PT} {X : nw_EX} {cc : ByteArray} {nL : Nat} {σ : nw_ST} {lv : List (Nat × Value)} {pc : Nat} {rest : List Value} {a1 : Int32} (h : nw_ok P X cc RL nL) (hR : X.2.2.2.1 = room_1) {K : Int32 → nw_ST → Prop} (hf : (f4_good K σ a1)) (hst : (rest.map fun v => v.category).sum ≤ 8) (hd : decode cc pc = .ok (.invokevirtual 87, 3)) (k : ∀ (r : Int32) (s2 : nw_ST), K r s2 → nl_G P X nL s2 lv (pc + 3) (.int r :: rest)) : nl_G P X nL σ lv pc (.int a1 :: .ref (P.2.1 0) :: rest) :=
  nl_callV (As := [.int a1]) (rest := rest) (C := RX4) (ci := 4) h (ct4_good _ P h.2.2 σ a1 K hf) (nw_goodV nw_w715 nw_w271 nw_w272 nw_w24 nw_w273) yd4_good rfl (by rw [hR]; decide) (by rw [hR]; decide) ⟨rfl, rfl⟩ rfl (by decide) rfl rfl hst rfl hd (fun v s2 z => by obtain ⟨r, rfl, z⟩ := z; exact k r s2 z)
theorem ll_90 {P : nw_PT} {X : nw_EX} {cc : ByteArray} {nL : Nat} {σ : nw_ST} {lv : List (Nat × Value)} {pc : Nat} {rest : List Value} {a1 : Int32} (h : nw_ok P X cc RL nL) (hR : X.2.2.2.1 = room_1) {K : Int32 → nw_ST → Prop} (hf : (f5_good K σ a1)) (hst : (rest.map fun v => v.category).sum ≤ 8) (hd : decode cc pc = .ok (.invokevirtual 90, 3)) (k : ∀ (r : Int32) (s2 : nw_ST), K r s2 → nl_G P X nL s2 lv (pc + 3) (.int r :: rest)) : nl_G P X nL σ lv pc (.int a1 :: .ref (P.2.1 37) :: rest) :=
  nl_callV (As := [.int a1]) (rest := rest) (C := RX5) (ci := 5) h (ct5_good _ P h.2.2 σ a1 K hf) (nw_goodV nw_w716 nw_w717 nw_w718 nw_w342 nw_w719) yd5_good rfl (by rw [hR]; decide) (by rw [hR]; decide) ⟨rfl, rfl⟩ rfl (by decide) rfl rfl hst rfl hd (fun v s2 z => by obtain ⟨r, rfl, z⟩ := z; exact k r s2 z)
theorem ll_91 {P : nw_PT} {X : nw_EX} {cc : ByteArray} {nL : Nat} {σ : nw_ST} {lv : List (Nat × Value)} {pc : Nat} {rest : List Value} {a1 : Int32} {a2 : Int32} {a3 : Int32} {a4 : Int32} (h : nw_ok P X cc RL nL) (hR : X.2.2.2.1 = room_1) {K : Int32 → nw_ST → Prop} (hf : (f4_agree K σ a1 a2 a3 a4)) (hst : (rest.map fun v => v.category).sum ≤ 8) (hd : decode cc pc = .ok (.invokevirtual 91, 3)) (k : ∀ (r : Int32) (s2 : nw_ST), K r s2 → nl_G P X nL s2 lv (pc + 3) (.int r :: rest)) : nl_G P X nL σ lv pc (.int a4 :: .int a3 :: .int a2 :: .int a1 :: .ref (P.2.1 0) :: rest) :=
  nl_callV (As := [.int a1, .int a2, .int a3, .int a4]) (rest := rest) (C := RX4) (ci := 4) h (ct4_agree _ P h.2.2 σ a1 a2 a3 a4 K hf) (nw_goodV nw_w720 nw_w233 nw_w234 nw_w24 nw_w235) yd4_agree rfl (by rw [hR]; decide) (by rw [hR]; decide) ⟨rfl, rfl⟩ rfl (by decide) rfl rfl hst rfl hd (fun v s2 z => by obtain ⟨r, rfl, z⟩ := z; exact k r s2 z)
theorem ll_95 {P : nw_PT} {X : nw_EX} {cc : ByteArray} {nL : Nat} {σ : nw_ST} {lv : List (Nat × Value)} {pc : Nat} {rest : List Value} {a1 : Int32} {a2 : Int32} {a3 : Int32} {a4 : Int32} (h : nw_ok P X cc RL nL) (hR : X.2.2.2.1 = room_1) {K : Int32 → nw_ST → Prop} (hf : (f5_agree K σ a1 a2 a3 a4)) (hst : (rest.map fun v => v.category).sum ≤ 8) (hd : decode cc pc = .ok (.invokevirtual 95, 3)) (k : ∀ (r : Int32) (s2 : nw_ST), K r s2 → nl_G P X nL s2 lv (pc + 3) (.int r :: rest)) : nl_G P X nL σ lv pc (.int a4 :: .int a3 :: .int a2 :: .int a1 :: .ref (P.2.1 37) :: rest) :=
  nl_callV (As := [.int a1, .int a2, .int a3, .int a4]) (rest := rest) (C := RX5) (ci := 5) h (ct5_agree _ P h.2.2 σ a1 a2 a3 a4 K hf) (nw_goodV nw_w721 nw_w581 nw_w582 nw_w342 nw_w583) yd5_agree rfl (by rw [hR]; decide) (by rw [hR]; decide) ⟨rfl, rfl⟩ rfl (by decide) rfl rfl hst rfl hd (fun v s2 z => by obtain ⟨r, rfl, z⟩ := z; exact k r s2 z)
theorem ll_96 {P : nw_PT} {X : nw_EX} {cc : ByteArray} {nL : Nat} {σ : nw_ST} {lv : List (Nat × Value)} {pc : Nat} {rest : List Value} {a1 : Int32} {a2 : Int32} (h : nw_ok P X cc RL nL) (hR : X.2.2.2.1 = room_1) {K : Int32 → nw_ST → Prop} (hf : (f4_run K σ a1 a2)) (hst : (rest.map fun v => v.category).sum ≤ 8) (hd : decode cc pc = .ok (.invokevirtual 96, 3)) (k : ∀ (r : Int32) (s2 : nw_ST), K r s2 → nl_G P X nL s2 lv (pc + 3) (.int r :: rest)) : nl_G P X nL σ lv pc (.int a2 :: .int a1 :: .ref (P.2.1 0) :: rest) :=
  nl_callV (As := [.int a1, .int a2]) (rest := rest) (C := RX4) (ci := 4) h (ct4_run _ P h.2.2 σ a1 a2 K hf) (nw_goodV nw_w722 nw_w283 nw_w284 nw_w24 nw_w285) yd4_run rfl (by rw [hR]; decide) (by rw [hR]; decide) ⟨rfl, rfl⟩ rfl (by decide) rfl rfl hst rfl hd (fun v s2 z => by obtain ⟨r, rfl, z⟩ := z; exact k r s2 z)
theorem ll_99 {P : nw_PT} {X : nw_EX} {cc : ByteArray} {nL : Nat} {σ : nw_ST} {lv : List (Nat × Value)} {pc : Nat} {rest : List Value} {a1 : Int32} {a2 : Int32} (h : nw_ok P X cc RL nL) (hR : X.2.2.2.1 = room_1) {K : Int32 → nw_ST → Prop} (hf : (f5_run K σ a1 a2)) (hst : (rest.map fun v => v.category).sum ≤ 8) (hd : decode cc pc = .ok (.invokevirtual 99, 3)) (k : ∀ (r : Int32) (s2 : nw_ST), K r s2 → nl_G P X nL s2 lv (pc + 3) (.int r :: rest)) : nl_G P X nL σ lv pc (.int a2 :: .int a1 :: .ref (P.2.1 37) :: rest) :=
  nl_callV (As := [.int a1, .int a2]) (rest := rest) (C := RX5) (ci := 5) h (ct5_run _ P h.2.2 σ a1 a2 K hf) (nw_goodV nw_w723 nw_w724 nw_w725 nw_w342 nw_w726) yd5_run rfl (by rw [hR]; decide) (by rw [hR]; decide) ⟨rfl, rfl⟩ rfl (by decide) rfl rfl hst rfl hd (fun v s2 z => by obtain ⟨r, rfl, z⟩ := z; exact k r s2 z)
theorem ll_100 {P : nw_PT} {X : nw_EX} {cc : ByteArray} {nL : Nat} {σ : nw_ST} {lv : List (Nat × Value)} {pc : Nat} {rest : List Value} {a1 : Int32} (h : nw_ok P X cc RL nL) (hR : X.2.2.2.1 = room_1) {K : Int32 → nw_ST → Prop} (hf : (f4_bar K σ a1)) (hst : (rest.map fun v => v.category).sum ≤ 8) (hd : decode cc pc = .ok (.invokevirtual 100, 3)) (k : ∀ (r : Int32) (s2 : nw_ST), K r s2 → nl_G P X nL s2 lv (pc + 3) (.int r :: rest)) : nl_G P X nL σ lv pc (.int a1 :: .ref (P.2.1 0) :: rest) :=
  nl_callV (As := [.int a1]) (rest := rest) (C := RX4) (ci := 4) h (ct4_bar _ P h.2.2 σ a1 K hf) (nw_goodV nw_w727 nw_w287 nw_w288 nw_w24 nw_w289) yd4_bar rfl (by rw [hR]; decide) (by rw [hR]; decide) ⟨rfl, rfl⟩ rfl (by decide) rfl rfl hst rfl hd (fun v s2 z => by obtain ⟨r, rfl, z⟩ := z; exact k r s2 z)
theorem ll_103 {P : nw_PT} {X : nw_EX} {cc : ByteArray} {nL : Nat} {σ : nw_ST} {lv : List (Nat × Value)} {pc : Nat} {rest : List Value} {a1 : Int32} (h : nw_ok P X cc RL nL) (hR : X.2.2.2.1 = room_1) {K : Int32 → nw_ST → Prop} (hf : (f5_bar K σ a1)) (hst : (rest.map fun v => v.category).sum ≤ 8) (hd : decode cc pc = .ok (.invokevirtual 103, 3)) (k : ∀ (r : Int32) (s2 : nw_ST), K r s2 → nl_G P X nL s2 lv (pc + 3) (.int r :: rest)) : nl_G P X nL σ lv pc (.int a1 :: .ref (P.2.1 37) :: rest) :=
  nl_callV (As := [.int a1]) (rest := rest) (C := RX5) (ci := 5) h (ct5_bar _ P h.2.2 σ a1 K hf) (nw_goodV nw_w728 nw_w729 nw_w730 nw_w342 nw_w731) yd5_bar rfl (by rw [hR]; decide) (by rw [hR]; decide) ⟨rfl, rfl⟩ rfl (by decide) rfl rfl hst rfl hd (fun v s2 z => by obtain ⟨r, rfl, z⟩ := z; exact k r s2 z)
theorem ll_104 {P : nw_PT} {X : nw_EX} {cc : ByteArray} {nL : Nat} {σ : nw_ST} {lv : List (Nat × Value)} {pc : Nat} {rest : List Value} {a1 : Int32} {a2 : Int32} (h : nw_ok P X cc RL nL) (hR : X.2.2.2.1 = room_1) {K : Int32 → nw_ST → Prop} (hf : (f4_earn K σ a1 a2)) (hst : (rest.map fun v => v.category).sum ≤ 8) (hd : decode cc pc = .ok (.invokevirtual 104, 3)) (k : ∀ (r : Int32) (s2 : nw_ST), K r s2 → nl_G P X nL s2 lv (pc + 3) (.int r :: rest)) : nl_G P X nL σ lv pc (.int a2 :: .int a1 :: .ref (P.2.1 0) :: rest) :=
  nl_callV (As := [.int a1, .int a2]) (rest := rest) (C := RX4) (ci := 4) h (ct4_earn _ P h.2.2 σ a1 a2 K hf) (nw_goodV nw_w732 nw_w279 nw_w280 nw_w24 nw_w281) yd4_earn rfl (by rw [hR]; decide) (by rw [hR]; decide) ⟨rfl, rfl⟩ rfl (by decide) rfl rfl hst rfl hd (fun v s2 z => by obtain ⟨r, rfl, z⟩ := z; exact k r s2 z)
theorem ll_107 {P : nw_PT} {X : nw_EX} {cc : ByteArray} {nL : Nat} {σ : nw_ST} {lv : List (Nat × Value)} {pc : Nat} {rest : List Value} {a1 : Int32} {a2 : Int32} (h : nw_ok P X cc RL nL) (hR : X.2.2.2.1 = room_1) {K : Int32 → nw_ST → Prop} (hf : (f5_earn K σ a1 a2)) (hst : (rest.map fun v => v.category).sum ≤ 8) (hd : decode cc pc = .ok (.invokevirtual 107, 3)) (k : ∀ (r : Int32) (s2 : nw_ST), K r s2 → nl_G P X nL s2 lv (pc + 3) (.int r :: rest)) : nl_G P X nL σ lv pc (.int a2 :: .int a1 :: .ref (P.2.1 37) :: rest) :=
  nl_callV (As := [.int a1, .int a2]) (rest := rest) (C := RX5) (ci := 5) h (ct5_earn _ P h.2.2 σ a1 a2 K hf) (nw_goodV nw_w733 nw_w734 nw_w735 nw_w342 nw_w736) yd5_earn rfl (by rw [hR]; decide) (by rw [hR]; decide) ⟨rfl, rfl⟩ rfl (by decide) rfl rfl hst rfl hd (fun v s2 z => by obtain ⟨r, rfl, z⟩ := z; exact k r s2 z)
theorem ll_108 {P : nw_PT} {X : nw_EX} {cc : ByteArray} {nL : Nat} {σ : nw_ST} {lv : List (Nat × Value)} {pc : Nat} {rest : List Value} {a1 : Int32} {a2 : Int32} (h : nw_ok P X cc RL nL) (hR : X.2.2.2.1 = room_1) {K : Int32 → nw_ST → Prop} (hf : (f4_heard K σ a1 a2)) (hst : (rest.map fun v => v.category).sum ≤ 8) (hd : decode cc pc = .ok (.invokevirtual 108, 3)) (k : ∀ (r : Int32) (s2 : nw_ST), K r s2 → nl_G P X nL s2 lv (pc + 3) (.int r :: rest)) : nl_G P X nL σ lv pc (.int a2 :: .int a1 :: .ref (P.2.1 0) :: rest) :=
  nl_callV (As := [.int a1, .int a2]) (rest := rest) (C := RX4) (ci := 4) h (ct4_heard _ P h.2.2 σ a1 a2 K hf) (nw_goodV nw_w737 nw_w738 nw_w739 nw_w24 nw_w740) yd4_heard rfl (by rw [hR]; decide) (by rw [hR]; decide) ⟨rfl, rfl⟩ rfl (by decide) rfl rfl hst rfl hd (fun v s2 z => by obtain ⟨r, rfl, z⟩ := z; exact k r s2 z)
theorem ll_111 {P : nw_PT} {X : nw_EX} {cc : ByteArray} {nL : Nat} {σ : nw_ST} {lv : List (Nat × Value)} {pc : Nat} {rest : List Value} {a1 : Int32} {a2 : Int32} (h : nw_ok P X cc RL nL) (hR : X.2.2.2.1 = room_1) {K : Int32 → nw_ST → Prop} (hf : (f5_heard K σ a1 a2)) (hst : (rest.map fun v => v.category).sum ≤ 8) (hd : decode cc pc = .ok (.invokevirtual 111, 3)) (k : ∀ (r : Int32) (s2 : nw_ST), K r s2 → nl_G P X nL s2 lv (pc + 3) (.int r :: rest)) : nl_G P X nL σ lv pc (.int a2 :: .int a1 :: .ref (P.2.1 37) :: rest) :=
  nl_callV (As := [.int a1, .int a2]) (rest := rest) (C := RX5) (ci := 5) h (ct5_heard _ P h.2.2 σ a1 a2 K hf) (nw_goodV nw_w741 nw_w742 nw_w743 nw_w342 nw_w744) yd5_heard rfl (by rw [hR]; decide) (by rw [hR]; decide) ⟨rfl, rfl⟩ rfl (by decide) rfl rfl hst rfl hd (fun v s2 z => by obtain ⟨r, rfl, z⟩ := z; exact k r s2 z)
theorem ll_112 {P : nw_PT} {X : nw_EX} {cc : ByteArray} {nL : Nat} {σ : nw_ST} {lv : List (Nat × Value)} {pc : Nat} {rest : List Value}  (h : nw_ok P X cc RL nL) (hR : X.2.2.2.1 = room_1) {K : Int32 → nw_ST → Prop} (hf : (f4_forget K σ)) (hst : (rest.map fun v => v.category).sum ≤ 8) (hd : decode cc pc = .ok (.invokevirtual 112, 3)) (k : ∀ (r : Int32) (s2 : nw_ST), K r s2 → nl_G P X nL s2 lv (pc + 3) (.int r :: rest)) : nl_G P X nL σ lv pc (.ref (P.2.1 0) :: rest) :=
  nl_callV (As := []) (rest := rest) (C := RX4) (ci := 4) h (ct4_forget _ P h.2.2 σ  K hf) (nw_goodV nw_w745 nw_w746 nw_w747 nw_w24 nw_w748) yd4_forget rfl (by rw [hR]; decide) (by rw [hR]; decide) ⟨rfl, rfl⟩ rfl (by decide) rfl rfl hst rfl hd (fun v s2 z => by obtain ⟨r, rfl, z⟩ := z; exact k r s2 z)
theorem ll_116 {P : nw_PT} {X : nw_EX} {cc : ByteArray} {nL : Nat} {σ : nw_ST} {lv : List (Nat × Value)} {pc : Nat} {rest : List Value}  (h : nw_ok P X cc RL nL) (hR : X.2.2.2.1 = room_1) {K : Int32 → nw_ST → Prop} (hf : (f5_forget K σ)) (hst : (rest.map fun v => v.category).sum ≤ 8) (hd : decode cc pc = .ok (.invokevirtual 116, 3)) (k : ∀ (r : Int32) (s2 : nw_ST), K r s2 → nl_G P X nL s2 lv (pc + 3) (.int r :: rest)) : nl_G P X nL σ lv pc (.ref (P.2.1 37) :: rest) :=
  nl_callV (As := []) (rest := rest) (C := RX5) (ci := 5) h (ct5_forget _ P h.2.2 σ  K hf) (nw_goodV nw_w749 nw_w750 nw_w751 nw_w342 nw_w752) yd5_forget rfl (by rw [hR]; decide) (by rw [hR]; decide) ⟨rfl, rfl⟩ rfl (by decide) rfl rfl hst rfl hd (fun v s2 z => by obtain ⟨r, rfl, z⟩ := z; exact k r s2 z)
theorem ll_117 {P : nw_PT} {X : nw_EX} {cc : ByteArray} {nL : Nat} {σ : nw_ST} {lv : List (Nat × Value)} {pc : Nat} {rest : List Value} {a1 : Int32} (h : nw_ok P X cc RL nL) (hR : X.2.2.2.1 = room_1) {K : Int32 → nw_ST → Prop} (hf : (f4_skipped K σ a1)) (hst : (rest.map fun v => v.category).sum ≤ 8) (hd : decode cc pc = .ok (.invokevirtual 117, 3)) (k : ∀ (r : Int32) (s2 : nw_ST), K r s2 → nl_G P X nL s2 lv (pc + 3) (.int r :: rest)) : nl_G P X nL σ lv pc (.int a1 :: .ref (P.2.1 0) :: rest) :=
  nl_callV (As := [.int a1]) (rest := rest) (C := RX4) (ci := 4) h (ct4_skipped _ P h.2.2 σ a1 K hf) (nw_goodV nw_w753 nw_w291 nw_w292 nw_w24 nw_w293) yd4_skipped rfl (by rw [hR]; decide) (by rw [hR]; decide) ⟨rfl, rfl⟩ rfl (by decide) rfl rfl hst rfl hd (fun v s2 z => by obtain ⟨r, rfl, z⟩ := z; exact k r s2 z)
theorem ll_120 {P : nw_PT} {X : nw_EX} {cc : ByteArray} {nL : Nat} {σ : nw_ST} {lv : List (Nat × Value)} {pc : Nat} {rest : List Value} {a1 : Int32} (h : nw_ok P X cc RL nL) (hR : X.2.2.2.1 = room_1) {K : Int32 → nw_ST → Prop} (hf : (f5_skipped K σ a1)) (hst : (rest.map fun v => v.category).sum ≤ 8) (hd : decode cc pc = .ok (.invokevirtual 120, 3)) (k : ∀ (r : Int32) (s2 : nw_ST), K r s2 → nl_G P X nL s2 lv (pc + 3) (.int r :: rest)) : nl_G P X nL σ lv pc (.int a1 :: .ref (P.2.1 37) :: rest) :=
  nl_callV (As := [.int a1]) (rest := rest) (C := RX5) (ci := 5) h (ct5_skipped _ P h.2.2 σ a1 K hf) (nw_goodV nw_w754 nw_w755 nw_w756 nw_w342 nw_w757) yd5_skipped rfl (by rw [hR]; decide) (by rw [hR]; decide) ⟨rfl, rfl⟩ rfl (by decide) rfl rfl hst rfl hd (fun v s2 z => by obtain ⟨r, rfl, z⟩ := z; exact k r s2 z)
theorem ll_121 {P : nw_PT} {X : nw_EX} {cc : ByteArray} {nL : Nat} {σ : nw_ST} {lv : List (Nat × Value)} {pc : Nat} {rest : List Value} {a1 : Int32} (h : nw_ok P X cc RL nL) (hR : X.2.2.2.1 = room_1) {K : Int32 → nw_ST → Prop} (hf : (f4_voids K σ a1)) (hst : (rest.map fun v => v.category).sum ≤ 8) (hd : decode cc pc = .ok (.invokevirtual 121, 3)) (k : ∀ (r : Int32) (s2 : nw_ST), K r s2 → nl_G P X nL s2 lv (pc + 3) (.int r :: rest)) : nl_G P X nL σ lv pc (.int a1 :: .ref (P.2.1 0) :: rest) :=
  nl_callV (As := [.int a1]) (rest := rest) (C := RX4) (ci := 4) h (ct4_voids _ P h.2.2 σ a1 K hf) (nw_goodV nw_w758 nw_w295 nw_w296 nw_w24 nw_w297) yd4_voids rfl (by rw [hR]; decide) (by rw [hR]; decide) ⟨rfl, rfl⟩ rfl (by decide) rfl rfl hst rfl hd (fun v s2 z => by obtain ⟨r, rfl, z⟩ := z; exact k r s2 z)
theorem ll_124 {P : nw_PT} {X : nw_EX} {cc : ByteArray} {nL : Nat} {σ : nw_ST} {lv : List (Nat × Value)} {pc : Nat} {rest : List Value} {a1 : Int32} (h : nw_ok P X cc RL nL) (hR : X.2.2.2.1 = room_1) {K : Int32 → nw_ST → Prop} (hf : (f5_voids K σ a1)) (hst : (rest.map fun v => v.category).sum ≤ 8) (hd : decode cc pc = .ok (.invokevirtual 124, 3)) (k : ∀ (r : Int32) (s2 : nw_ST), K r s2 → nl_G P X nL s2 lv (pc + 3) (.int r :: rest)) : nl_G P X nL σ lv pc (.int a1 :: .ref (P.2.1 37) :: rest) :=
  nl_callV (As := [.int a1]) (rest := rest) (C := RX5) (ci := 5) h (ct5_voids _ P h.2.2 σ a1 K hf) (nw_goodV nw_w759 nw_w760 nw_w761 nw_w342 nw_w762) yd5_voids rfl (by rw [hR]; decide) (by rw [hR]; decide) ⟨rfl, rfl⟩ rfl (by decide) rfl rfl hst rfl hd (fun v s2 z => by obtain ⟨r, rfl, z⟩ := z; exact k r s2 z)
theorem ll_125 {P : nw_PT} {X : nw_EX} {cc : ByteArray} {nL : Nat} {σ : nw_ST} {lv : List (Nat × Value)} {pc : Nat} {rest : List Value} {a1 : Int32} {a2 : Int32} (h : nw_ok P X cc RL nL) (hR : X.2.2.2.1 = room_1) {K : Int32 → nw_ST → Prop} (hf : (f4_often K σ a1 a2)) (hst : (rest.map fun v => v.category).sum ≤ 8) (hd : decode cc pc = .ok (.invokevirtual 125, 3)) (k : ∀ (r : Int32) (s2 : nw_ST), K r s2 → nl_G P X nL s2 lv (pc + 3) (.int r :: rest)) : nl_G P X nL σ lv pc (.int a2 :: .int a1 :: .ref (P.2.1 0) :: rest) :=
  nl_callV (As := [.int a1, .int a2]) (rest := rest) (C := RX4) (ci := 4) h (ct4_often _ P h.2.2 σ a1 a2 K hf) (nw_goodV nw_w763 nw_w237 nw_w238 nw_w24 nw_w239) yd4_often rfl (by rw [hR]; decide) (by rw [hR]; decide) ⟨rfl, rfl⟩ rfl (by decide) rfl rfl hst rfl hd (fun v s2 z => by obtain ⟨r, rfl, z⟩ := z; exact k r s2 z)
theorem ll_128 {P : nw_PT} {X : nw_EX} {cc : ByteArray} {nL : Nat} {σ : nw_ST} {lv : List (Nat × Value)} {pc : Nat} {rest : List Value} {a1 : Int32} {a2 : Int32} (h : nw_ok P X cc RL nL) (hR : X.2.2.2.1 = room_1) {K : Int32 → nw_ST → Prop} (hf : (f5_often K σ a1 a2)) (hst : (rest.map fun v => v.category).sum ≤ 8) (hd : decode cc pc = .ok (.invokevirtual 128, 3)) (k : ∀ (r : Int32) (s2 : nw_ST), K r s2 → nl_G P X nL s2 lv (pc + 3) (.int r :: rest)) : nl_G P X nL σ lv pc (.int a2 :: .int a1 :: .ref (P.2.1 37) :: rest) :=
  nl_callV (As := [.int a1, .int a2]) (rest := rest) (C := RX5) (ci := 5) h (ct5_often _ P h.2.2 σ a1 a2 K hf) (nw_goodV nw_w764 nw_w765 nw_w766 nw_w342 nw_w767) yd5_often rfl (by rw [hR]; decide) (by rw [hR]; decide) ⟨rfl, rfl⟩ rfl (by decide) rfl rfl hst rfl hd (fun v s2 z => by obtain ⟨r, rfl, z⟩ := z; exact k r s2 z)
theorem ll_129 {P : nw_PT} {X : nw_EX} {cc : ByteArray} {nL : Nat} {σ : nw_ST} {lv : List (Nat × Value)} {pc : Nat} {rest : List Value} {a1 : Int32} {a2 : Int32} {a3 : Int32} (h : nw_ok P X cc RL nL) (hR : X.2.2.2.1 = room_1) {K : Int64 → nw_ST → Prop} (hf : (f4_hoarse K σ a1 a2 a3)) (hst : (rest.map fun v => v.category).sum ≤ 8) (hd : decode cc pc = .ok (.invokevirtual 129, 3)) (k : ∀ (r : Int64) (s2 : nw_ST), K r s2 → nl_G P X nL s2 lv (pc + 3) (.long r :: rest)) : nl_G P X nL σ lv pc (.int a3 :: .int a2 :: .int a1 :: .ref (P.2.1 0) :: rest) :=
  nl_callV (As := [.int a1, .int a2, .int a3]) (rest := rest) (C := RX4) (ci := 4) h (ct4_hoarse _ P h.2.2 σ a1 a2 a3 K hf) (nw_goodV nw_w768 nw_w299 nw_w300 nw_w24 nw_w301) yd4_hoarse rfl (by rw [hR]; decide) (by rw [hR]; decide) ⟨rfl, rfl⟩ rfl (by decide) rfl rfl hst rfl hd (fun v s2 z => by obtain ⟨r, rfl, z⟩ := z; exact k r s2 z)
theorem ll_133 {P : nw_PT} {X : nw_EX} {cc : ByteArray} {nL : Nat} {σ : nw_ST} {lv : List (Nat × Value)} {pc : Nat} {rest : List Value} {a1 : Int32} {a2 : Int32} {a3 : Int32} (h : nw_ok P X cc RL nL) (hR : X.2.2.2.1 = room_1) {K : Int64 → nw_ST → Prop} (hf : (f5_hoarse K σ a1 a2 a3)) (hst : (rest.map fun v => v.category).sum ≤ 8) (hd : decode cc pc = .ok (.invokevirtual 133, 3)) (k : ∀ (r : Int64) (s2 : nw_ST), K r s2 → nl_G P X nL s2 lv (pc + 3) (.long r :: rest)) : nl_G P X nL σ lv pc (.int a3 :: .int a2 :: .int a1 :: .ref (P.2.1 37) :: rest) :=
  nl_callV (As := [.int a1, .int a2, .int a3]) (rest := rest) (C := RX5) (ci := 5) h (ct5_hoarse _ P h.2.2 σ a1 a2 a3 K hf) (nw_goodV nw_w769 nw_w770 nw_w771 nw_w342 nw_w772) yd5_hoarse rfl (by rw [hR]; decide) (by rw [hR]; decide) ⟨rfl, rfl⟩ rfl (by decide) rfl rfl hst rfl hd (fun v s2 z => by obtain ⟨r, rfl, z⟩ := z; exact k r s2 z)
theorem ll_134 {P : nw_PT} {X : nw_EX} {cc : ByteArray} {nL : Nat} {σ : nw_ST} {lv : List (Nat × Value)} {pc : Nat} {rest : List Value} {a1 : Int32} {a2 : Int32} {a3 : Int32} (h : nw_ok P X cc RL nL) (hR : X.2.2.2.1 = room_1) {K : Int32 → nw_ST → Prop} (hf : (f4_storm K σ a1 a2 a3)) (hst : (rest.map fun v => v.category).sum ≤ 8) (hd : decode cc pc = .ok (.invokevirtual 134, 3)) (k : ∀ (r : Int32) (s2 : nw_ST), K r s2 → nl_G P X nL s2 lv (pc + 3) (.int r :: rest)) : nl_G P X nL σ lv pc (.int a3 :: .int a2 :: .int a1 :: .ref (P.2.1 0) :: rest) :=
  nl_callV (As := [.int a1, .int a2, .int a3]) (rest := rest) (C := RX4) (ci := 4) h (ct4_storm _ P h.2.2 σ a1 a2 a3 K hf) (nw_goodV nw_w773 nw_w303 nw_w304 nw_w24 nw_w305) yd4_storm rfl (by rw [hR]; decide) (by rw [hR]; decide) ⟨rfl, rfl⟩ rfl (by decide) rfl rfl hst rfl hd (fun v s2 z => by obtain ⟨r, rfl, z⟩ := z; exact k r s2 z)
theorem ll_138 {P : nw_PT} {X : nw_EX} {cc : ByteArray} {nL : Nat} {σ : nw_ST} {lv : List (Nat × Value)} {pc : Nat} {rest : List Value} {a1 : Int32} {a2 : Int32} {a3 : Int32} (h : nw_ok P X cc RL nL) (hR : X.2.2.2.1 = room_1) {K : Int32 → nw_ST → Prop} (hf : (f5_storm K σ a1 a2 a3)) (hst : (rest.map fun v => v.category).sum ≤ 8) (hd : decode cc pc = .ok (.invokevirtual 138, 3)) (k : ∀ (r : Int32) (s2 : nw_ST), K r s2 → nl_G P X nL s2 lv (pc + 3) (.int r :: rest)) : nl_G P X nL σ lv pc (.int a3 :: .int a2 :: .int a1 :: .ref (P.2.1 37) :: rest) :=
  nl_callV (As := [.int a1, .int a2, .int a3]) (rest := rest) (C := RX5) (ci := 5) h (ct5_storm _ P h.2.2 σ a1 a2 a3 K hf) (nw_goodV nw_w774 nw_w775 nw_w776 nw_w342 nw_w777) yd5_storm rfl (by rw [hR]; decide) (by rw [hR]; decide) ⟨rfl, rfl⟩ rfl (by decide) rfl rfl hst rfl hd (fun v s2 z => by obtain ⟨r, rfl, z⟩ := z; exact k r s2 z)
theorem ll_139 {P : nw_PT} {X : nw_EX} {cc : ByteArray} {nL : Nat} {σ : nw_ST} {lv : List (Nat × Value)} {pc : Nat} {rest : List Value} {a1 : Int32} {a2 : Int32} {a3 : Int32} (h : nw_ok P X cc RL nL) (hR : X.2.2.2.1 = room_1) {K : Int32 → nw_ST → Prop} (hf : (f4_sheet K σ a1 a2 a3)) (hst : (rest.map fun v => v.category).sum ≤ 8) (hd : decode cc pc = .ok (.invokevirtual 139, 3)) (k : ∀ (r : Int32) (s2 : nw_ST), K r s2 → nl_G P X nL s2 lv (pc + 3) (.int r :: rest)) : nl_G P X nL σ lv pc (.int a3 :: .int a2 :: .int a1 :: .ref (P.2.1 0) :: rest) :=
  nl_callV (As := [.int a1, .int a2, .int a3]) (rest := rest) (C := RX4) (ci := 4) h (ct4_sheet _ P h.2.2 σ a1 a2 a3 K hf) (nw_goodV nw_w778 nw_w779 nw_w780 nw_w24 nw_w781) yd4_sheet rfl (by rw [hR]; decide) (by rw [hR]; decide) ⟨rfl, rfl⟩ rfl (by decide) rfl rfl hst rfl hd (fun v s2 z => by obtain ⟨r, rfl, z⟩ := z; exact k r s2 z)
theorem ll_142 {P : nw_PT} {X : nw_EX} {cc : ByteArray} {nL : Nat} {σ : nw_ST} {lv : List (Nat × Value)} {pc : Nat} {rest : List Value} {a1 : Int32} {a2 : Int32} {a3 : Int32} (h : nw_ok P X cc RL nL) (hR : X.2.2.2.1 = room_1) {K : Int32 → nw_ST → Prop} (hf : (f5_sheet K σ a1 a2 a3)) (hst : (rest.map fun v => v.category).sum ≤ 8) (hd : decode cc pc = .ok (.invokevirtual 142, 3)) (k : ∀ (r : Int32) (s2 : nw_ST), K r s2 → nl_G P X nL s2 lv (pc + 3) (.int r :: rest)) : nl_G P X nL σ lv pc (.int a3 :: .int a2 :: .int a1 :: .ref (P.2.1 37) :: rest) :=
  nl_callV (As := [.int a1, .int a2, .int a3]) (rest := rest) (C := RX5) (ci := 5) h (ct5_sheet _ P h.2.2 σ a1 a2 a3 K hf) (nw_goodV nw_w782 nw_w783 nw_w784 nw_w342 nw_w785) yd5_sheet rfl (by rw [hR]; decide) (by rw [hR]; decide) ⟨rfl, rfl⟩ rfl (by decide) rfl rfl hst rfl hd (fun v s2 z => by obtain ⟨r, rfl, z⟩ := z; exact k r s2 z)
theorem ll_143 {P : nw_PT} {X : nw_EX} {cc : ByteArray} {nL : Nat} {σ : nw_ST} {lv : List (Nat × Value)} {pc : Nat} {rest : List Value} {a1 : Int32} (h : nw_ok P X cc RL nL) (hR : X.2.2.2.1 = room_1) {K : Int32 → nw_ST → Prop} (hf : (f4_lose K σ a1)) (hst : (rest.map fun v => v.category).sum ≤ 8) (hd : decode cc pc = .ok (.invokevirtual 143, 3)) (k : ∀ (r : Int32) (s2 : nw_ST), K r s2 → nl_G P X nL s2 lv (pc + 3) (.int r :: rest)) : nl_G P X nL σ lv pc (.int a1 :: .ref (P.2.1 0) :: rest) :=
  nl_callV (As := [.int a1]) (rest := rest) (C := RX4) (ci := 4) h (ct4_lose _ P h.2.2 σ a1 K hf) (nw_goodV nw_w786 nw_w787 nw_w788 nw_w24 nw_w789) yd4_lose rfl (by rw [hR]; decide) (by rw [hR]; decide) ⟨rfl, rfl⟩ rfl (by decide) rfl rfl hst rfl hd (fun v s2 z => by obtain ⟨r, rfl, z⟩ := z; exact k r s2 z)
theorem ll_146 {P : nw_PT} {X : nw_EX} {cc : ByteArray} {nL : Nat} {σ : nw_ST} {lv : List (Nat × Value)} {pc : Nat} {rest : List Value} {a1 : Int32} (h : nw_ok P X cc RL nL) (hR : X.2.2.2.1 = room_1) {K : Int32 → nw_ST → Prop} (hf : (f5_lose K σ a1)) (hst : (rest.map fun v => v.category).sum ≤ 8) (hd : decode cc pc = .ok (.invokevirtual 146, 3)) (k : ∀ (r : Int32) (s2 : nw_ST), K r s2 → nl_G P X nL s2 lv (pc + 3) (.int r :: rest)) : nl_G P X nL σ lv pc (.int a1 :: .ref (P.2.1 37) :: rest) :=
  nl_callV (As := [.int a1]) (rest := rest) (C := RX5) (ci := 5) h (ct5_lose _ P h.2.2 σ a1 K hf) (nw_goodV nw_w790 nw_w791 nw_w792 nw_w342 nw_w793) yd5_lose rfl (by rw [hR]; decide) (by rw [hR]; decide) ⟨rfl, rfl⟩ rfl (by decide) rfl rfl hst rfl hd (fun v s2 z => by obtain ⟨r, rfl, z⟩ := z; exact k r s2 z)
theorem ll_147 {P : nw_PT} {X : nw_EX} {cc : ByteArray} {nL : Nat} {σ : nw_ST} {lv : List (Nat × Value)} {pc : Nat} {rest : List Value} {a1 : Int32} {a2 : Int32} {a3 : Int32} {a4 : Int32} (h : nw_ok P X cc RL nL) (hR : X.2.2.2.1 = room_1) {K : Int32 → nw_ST → Prop} (hf : (f4_put K σ a1 a2 a3 a4)) (hst : (rest.map fun v => v.category).sum ≤ 8) (hd : decode cc pc = .ok (.invokevirtual 147, 3)) (k : ∀ (r : Int32) (s2 : nw_ST), K r s2 → nl_G P X nL s2 lv (pc + 3) (.int r :: rest)) : nl_G P X nL σ lv pc (.int a4 :: .int a3 :: .int a2 :: .int a1 :: .ref (P.2.1 0) :: rest) :=
  nl_callV (As := [.int a1, .int a2, .int a3, .int a4]) (rest := rest) (C := RX4) (ci := 4) h (ct4_put _ P h.2.2 σ a1 a2 a3 a4 K hf) (nw_goodV nw_w794 nw_w795 nw_w796 nw_w24 nw_w797) yd4_put rfl (by rw [hR]; decide) (by rw [hR]; decide) ⟨rfl, rfl⟩ rfl (by decide) rfl rfl hst rfl hd (fun v s2 z => by obtain ⟨r, rfl, z⟩ := z; exact k r s2 z)
theorem ll_150 {P : nw_PT} {X : nw_EX} {cc : ByteArray} {nL : Nat} {σ : nw_ST} {lv : List (Nat × Value)} {pc : Nat} {rest : List Value} {a1 : Int32} {a2 : Int32} {a3 : Int32} {a4 : Int32} (h : nw_ok P X cc RL nL) (hR : X.2.2.2.1 = room_1) {K : Int32 → nw_ST → Prop} (hf : (f5_put K σ a1 a2 a3 a4)) (hst : (rest.map fun v => v.category).sum ≤ 8) (hd : decode cc pc = .ok (.invokevirtual 150, 3)) (k : ∀ (r : Int32) (s2 : nw_ST), K r s2 → nl_G P X nL s2 lv (pc + 3) (.int r :: rest)) : nl_G P X nL σ lv pc (.int a4 :: .int a3 :: .int a2 :: .int a1 :: .ref (P.2.1 37) :: rest) :=
  nl_callV (As := [.int a1, .int a2, .int a3, .int a4]) (rest := rest) (C := RX5) (ci := 5) h (ct5_put _ P h.2.2 σ a1 a2 a3 a4 K hf) (nw_goodV nw_w798 nw_w799 nw_w800 nw_w342 nw_w801) yd5_put rfl (by rw [hR]; decide) (by rw [hR]; decide) ⟨rfl, rfl⟩ rfl (by decide) rfl rfl hst rfl hd (fun v s2 z => by obtain ⟨r, rfl, z⟩ := z; exact k r s2 z)
theorem ll_151 {P : nw_PT} {X : nw_EX} {cc : ByteArray} {nL : Nat} {σ : nw_ST} {lv : List (Nat × Value)} {pc : Nat} {rest : List Value} {a1 : Int32} {a2 : Int32} {a3 : Int32} (h : nw_ok P X cc RL nL) (hR : X.2.2.2.1 = room_1) {K : Int32 → nw_ST → Prop} (hf : (f4_get K σ a1 a2 a3)) (hst : (rest.map fun v => v.category).sum ≤ 8) (hd : decode cc pc = .ok (.invokevirtual 151, 3)) (k : ∀ (r : Int32) (s2 : nw_ST), K r s2 → nl_G P X nL s2 lv (pc + 3) (.int r :: rest)) : nl_G P X nL σ lv pc (.int a3 :: .int a2 :: .int a1 :: .ref (P.2.1 0) :: rest) :=
  nl_callV (As := [.int a1, .int a2, .int a3]) (rest := rest) (C := RX4) (ci := 4) h (ct4_get _ P h.2.2 σ a1 a2 a3 K hf) (nw_goodV nw_w802 nw_w803 nw_w804 nw_w24 nw_w805) yd4_get rfl (by rw [hR]; decide) (by rw [hR]; decide) ⟨rfl, rfl⟩ rfl (by decide) rfl rfl hst rfl hd (fun v s2 z => by obtain ⟨r, rfl, z⟩ := z; exact k r s2 z)
theorem ll_154 {P : nw_PT} {X : nw_EX} {cc : ByteArray} {nL : Nat} {σ : nw_ST} {lv : List (Nat × Value)} {pc : Nat} {rest : List Value} {a1 : Int32} {a2 : Int32} {a3 : Int32} (h : nw_ok P X cc RL nL) (hR : X.2.2.2.1 = room_1) {K : Int32 → nw_ST → Prop} (hf : (f5_get K σ a1 a2 a3)) (hst : (rest.map fun v => v.category).sum ≤ 8) (hd : decode cc pc = .ok (.invokevirtual 154, 3)) (k : ∀ (r : Int32) (s2 : nw_ST), K r s2 → nl_G P X nL s2 lv (pc + 3) (.int r :: rest)) : nl_G P X nL σ lv pc (.int a3 :: .int a2 :: .int a1 :: .ref (P.2.1 37) :: rest) :=
  nl_callV (As := [.int a1, .int a2, .int a3]) (rest := rest) (C := RX5) (ci := 5) h (ct5_get _ P h.2.2 σ a1 a2 a3 K hf) (nw_goodV nw_w806 nw_w807 nw_w808 nw_w342 nw_w809) yd5_get rfl (by rw [hR]; decide) (by rw [hR]; decide) ⟨rfl, rfl⟩ rfl (by decide) rfl rfl hst rfl hd (fun v s2 z => by obtain ⟨r, rfl, z⟩ := z; exact k r s2 z)
theorem ll_155 {P : nw_PT} {X : nw_EX} {cc : ByteArray} {nL : Nat} {σ : nw_ST} {lv : List (Nat × Value)} {pc : Nat} {rest : List Value} {a1 : Int32} {a2 : Int32} {a3 : Int32} {a4 : Int32} {a5 : Int32} (h : nw_ok P X cc RL nL) (hR : X.2.2.2.1 = room_1) {K : Int32 → nw_ST → Prop} (hf : (f4_copy K σ a1 a2 a3 a4 a5)) (hst : (rest.map fun v => v.category).sum ≤ 8) (hd : decode cc pc = .ok (.invokevirtual 155, 3)) (k : ∀ (r : Int32) (s2 : nw_ST), K r s2 → nl_G P X nL s2 lv (pc + 3) (.int r :: rest)) : nl_G P X nL σ lv pc (.int a5 :: .int a4 :: .int a3 :: .int a2 :: .int a1 :: .ref (P.2.1 0) :: rest) :=
  nl_callV (As := [.int a1, .int a2, .int a3, .int a4, .int a5]) (rest := rest) (C := RX4) (ci := 4) h (ct4_copy _ P h.2.2 σ a1 a2 a3 a4 a5 K hf) (nw_goodV nw_w810 nw_w811 nw_w812 nw_w24 nw_w813) yd4_copy rfl (by rw [hR]; decide) (by rw [hR]; decide) ⟨rfl, rfl⟩ rfl (by decide) rfl rfl hst rfl hd (fun v s2 z => by obtain ⟨r, rfl, z⟩ := z; exact k r s2 z)
theorem ll_159 {P : nw_PT} {X : nw_EX} {cc : ByteArray} {nL : Nat} {σ : nw_ST} {lv : List (Nat × Value)} {pc : Nat} {rest : List Value} {a1 : Int32} {a2 : Int32} {a3 : Int32} {a4 : Int32} {a5 : Int32} (h : nw_ok P X cc RL nL) (hR : X.2.2.2.1 = room_1) {K : Int32 → nw_ST → Prop} (hf : (f5_copy K σ a1 a2 a3 a4 a5)) (hst : (rest.map fun v => v.category).sum ≤ 8) (hd : decode cc pc = .ok (.invokevirtual 159, 3)) (k : ∀ (r : Int32) (s2 : nw_ST), K r s2 → nl_G P X nL s2 lv (pc + 3) (.int r :: rest)) : nl_G P X nL σ lv pc (.int a5 :: .int a4 :: .int a3 :: .int a2 :: .int a1 :: .ref (P.2.1 37) :: rest) :=
  nl_callV (As := [.int a1, .int a2, .int a3, .int a4, .int a5]) (rest := rest) (C := RX5) (ci := 5) h (ct5_copy _ P h.2.2 σ a1 a2 a3 a4 a5 K hf) (nw_goodV nw_w814 nw_w815 nw_w816 nw_w342 nw_w817) yd5_copy rfl (by rw [hR]; decide) (by rw [hR]; decide) ⟨rfl, rfl⟩ rfl (by decide) rfl rfl hst rfl hd (fun v s2 z => by obtain ⟨r, rfl, z⟩ := z; exact k r s2 z)
theorem ll_160 {P : nw_PT} {X : nw_EX} {cc : ByteArray} {nL : Nat} {σ : nw_ST} {lv : List (Nat × Value)} {pc : Nat} {rest : List Value} {a1 : Int32} {a2 : Int32} (h : nw_ok P X cc RL nL) (hR : X.2.2.2.1 = room_1) {K : Int32 → nw_ST → Prop} (hf : (f4_write K σ a1 a2)) (hst : (rest.map fun v => v.category).sum ≤ 8) (hd : decode cc pc = .ok (.invokevirtual 160, 3)) (k : ∀ (r : Int32) (s2 : nw_ST), K r s2 → nl_G P X nL s2 lv (pc + 3) (.int r :: rest)) : nl_G P X nL σ lv pc (.int a2 :: .int a1 :: .ref (P.2.1 0) :: rest) :=
  nl_callV (As := [.int a1, .int a2]) (rest := rest) (C := RX4) (ci := 4) h (ct4_write _ P h.2.2 σ a1 a2 K hf) (nw_goodV nw_w818 nw_w819 nw_w820 nw_w24 nw_w821) yd4_write rfl (by rw [hR]; decide) (by rw [hR]; decide) ⟨rfl, rfl⟩ rfl (by decide) rfl rfl hst rfl hd (fun v s2 z => by obtain ⟨r, rfl, z⟩ := z; exact k r s2 z)
theorem ll_163 {P : nw_PT} {X : nw_EX} {cc : ByteArray} {nL : Nat} {σ : nw_ST} {lv : List (Nat × Value)} {pc : Nat} {rest : List Value} {a1 : Int32} {a2 : Int32} (h : nw_ok P X cc RL nL) (hR : X.2.2.2.1 = room_1) {K : Int32 → nw_ST → Prop} (hf : (f5_write K σ a1 a2)) (hst : (rest.map fun v => v.category).sum ≤ 8) (hd : decode cc pc = .ok (.invokevirtual 163, 3)) (k : ∀ (r : Int32) (s2 : nw_ST), K r s2 → nl_G P X nL s2 lv (pc + 3) (.int r :: rest)) : nl_G P X nL σ lv pc (.int a2 :: .int a1 :: .ref (P.2.1 37) :: rest) :=
  nl_callV (As := [.int a1, .int a2]) (rest := rest) (C := RX5) (ci := 5) h (ct5_write _ P h.2.2 σ a1 a2 K hf) (nw_goodV nw_w822 nw_w823 nw_w824 nw_w342 nw_w825) yd5_write rfl (by rw [hR]; decide) (by rw [hR]; decide) ⟨rfl, rfl⟩ rfl (by decide) rfl rfl hst rfl hd (fun v s2 z => by obtain ⟨r, rfl, z⟩ := z; exact k r s2 z)
theorem ll_164 {P : nw_PT} {X : nw_EX} {cc : ByteArray} {nL : Nat} {σ : nw_ST} {lv : List (Nat × Value)} {pc : Nat} {rest : List Value} {a1 : Int32} (h : nw_ok P X cc RL nL) (hR : X.2.2.2.1 = room_1) {K : Int32 → nw_ST → Prop} (hf : (f4_count K σ a1)) (hst : (rest.map fun v => v.category).sum ≤ 8) (hd : decode cc pc = .ok (.invokevirtual 164, 3)) (k : ∀ (r : Int32) (s2 : nw_ST), K r s2 → nl_G P X nL s2 lv (pc + 3) (.int r :: rest)) : nl_G P X nL σ lv pc (.int a1 :: .ref (P.2.1 0) :: rest) :=
  nl_callV (As := [.int a1]) (rest := rest) (C := RX4) (ci := 4) h (ct4_count _ P h.2.2 σ a1 K hf) (nw_goodV nw_w826 nw_w336 nw_w337 nw_w24 nw_w338) yd4_count rfl (by rw [hR]; decide) (by rw [hR]; decide) ⟨rfl, rfl⟩ rfl (by decide) rfl rfl hst rfl hd (fun v s2 z => by obtain ⟨r, rfl, z⟩ := z; exact k r s2 z)
theorem ll_167 {P : nw_PT} {X : nw_EX} {cc : ByteArray} {nL : Nat} {σ : nw_ST} {lv : List (Nat × Value)} {pc : Nat} {rest : List Value} {a1 : Int32} (h : nw_ok P X cc RL nL) (hR : X.2.2.2.1 = room_1) {K : Int32 → nw_ST → Prop} (hf : (f5_count K σ a1)) (hst : (rest.map fun v => v.category).sum ≤ 8) (hd : decode cc pc = .ok (.invokevirtual 167, 3)) (k : ∀ (r : Int32) (s2 : nw_ST), K r s2 → nl_G P X nL s2 lv (pc + 3) (.int r :: rest)) : nl_G P X nL σ lv pc (.int a1 :: .ref (P.2.1 37) :: rest) :=
  nl_callV (As := [.int a1]) (rest := rest) (C := RX5) (ci := 5) h (ct5_count _ P h.2.2 σ a1 K hf) (nw_goodV nw_w827 nw_w598 nw_w599 nw_w342 nw_w600) yd5_count rfl (by rw [hR]; decide) (by rw [hR]; decide) ⟨rfl, rfl⟩ rfl (by decide) rfl rfl hst rfl hd (fun v s2 z => by obtain ⟨r, rfl, z⟩ := z; exact k r s2 z)
theorem ll_168 {P : nw_PT} {X : nw_EX} {cc : ByteArray} {nL : Nat} {σ : nw_ST} {lv : List (Nat × Value)} {pc : Nat} {rest : List Value}  (h : nw_ok P X cc RL nL) (hR : X.2.2.2.1 = room_1) {K : Int64 → nw_ST → Prop} (hf : (f4_digest K σ)) (hst : (rest.map fun v => v.category).sum ≤ 8) (hd : decode cc pc = .ok (.invokevirtual 168, 3)) (k : ∀ (r : Int64) (s2 : nw_ST), K r s2 → nl_G P X nL s2 lv (pc + 3) (.long r :: rest)) : nl_G P X nL σ lv pc (.ref (P.2.1 0) :: rest) :=
  nl_callV (As := []) (rest := rest) (C := RX4) (ci := 4) h (ct4_digest _ P h.2.2 σ  K hf) (nw_goodV nw_w828 nw_w829 nw_w830 nw_w24 nw_w831) yd4_digest rfl (by rw [hR]; decide) (by rw [hR]; decide) ⟨rfl, rfl⟩ rfl (by decide) rfl rfl hst rfl hd (fun v s2 z => by obtain ⟨r, rfl, z⟩ := z; exact k r s2 z)
theorem ll_172 {P : nw_PT} {X : nw_EX} {cc : ByteArray} {nL : Nat} {σ : nw_ST} {lv : List (Nat × Value)} {pc : Nat} {rest : List Value}  (h : nw_ok P X cc RL nL) (hR : X.2.2.2.1 = room_1) {K : Int64 → nw_ST → Prop} (hf : (f5_digest K σ)) (hst : (rest.map fun v => v.category).sum ≤ 8) (hd : decode cc pc = .ok (.invokevirtual 172, 3)) (k : ∀ (r : Int64) (s2 : nw_ST), K r s2 → nl_G P X nL s2 lv (pc + 3) (.long r :: rest)) : nl_G P X nL σ lv pc (.ref (P.2.1 37) :: rest) :=
  nl_callV (As := []) (rest := rest) (C := RX5) (ci := 5) h (ct5_digest _ P h.2.2 σ  K hf) (nw_goodV nw_w832 nw_w833 nw_w834 nw_w342 nw_w835) yd5_digest rfl (by rw [hR]; decide) (by rw [hR]; decide) ⟨rfl, rfl⟩ rfl (by decide) rfl rfl hst rfl hd (fun v s2 z => by obtain ⟨r, rfl, z⟩ := z; exact k r s2 z)
set_option maxHeartbeats 1000000 in
theorem nl_c0 {P : nw_PT} {X : nw_EX} {b L : Nat} {xs : Nat → Int32} {x3 : Int32} {Inv : nw_ST → Prop} (h : nw_ok P X code RL 4) (hR : X.2.2.2.1 = room_1) (hX : va_X b L xs X.2.2.2.2.1 X.2.2.2.2.1.heap) (hbl : b < X.2.2.2.2.1.heap.size) (hbA : ¬ nw_A P b) (i1 : vp_in (x3 + 1) L) (i2 : vp_in (x3 + 2) L) (i3 : vp_in (x3 + 3) L) (i4 : vp_in (x3 + 4) L) (i5 : vp_in (x3 + 5) L) (k : ∀ (s2 : nw_ST), Inv s2 → nl_G P X 4 s2 [(0, .ref b), (1, .ref (P.2.1 0)), (2, .ref (P.2.1 37)), (3, .int x3)] 1356 []) (hS : nl_S0 Inv) {σ : nw_ST} (hI : Inv σ) : nl_G P X 4 σ [(0, .ref b), (1, .ref (P.2.1 0)), (2, .ref (P.2.1 37)), (3, .int x3)] 200 [] := by
  have hf := hS σ hI (xs (x3 + 1).toNatClampNeg) (xs (x3 + 2).toNatClampNeg)
  refine nl_aload_n (pc := 200) h dL_law_200 rfl 1 rfl ?_
  refine nl_aload_n (pc := 201) h dL_law_201 rfl 0 rfl ?_
  refine nl_iload_n (pc := 202) h dL_law_202 rfl 3 rfl ?_
  refine nl_iconst (pc := 203) (v := 1) h dL_law_203 (by decide) ?_
  refine nl_iadd (pc := 204) h dL_law_204 ?_
  refine nl_sld (pc := 205) h hX hbl hbA i1 dL_law_205 ?_
  refine nl_aload_n (pc := 206) h dL_law_206 rfl 0 rfl ?_
  refine nl_iload_n (pc := 207) h dL_law_207 rfl 3 rfl ?_
  refine nl_iconst (pc := 208) (v := 2) h dL_law_208 (by decide) ?_
  refine nl_iadd (pc := 209) h dL_law_209 ?_
  refine nl_sld (pc := 210) h hX hbl hbA i2 dL_law_210 ?_
  refine ll_13 (pc := 211) h hR hf (Nat.le_of_ble_eq_true rfl) dL_law_211 (fun r1 s1 hf => ?_)
  refine nl_aload_n (pc := 214) h dL_law_214 rfl 2 rfl ?_
  refine nl_aload_n (pc := 215) h dL_law_215 rfl 0 rfl ?_
  refine nl_iload_n (pc := 216) h dL_law_216 rfl 3 rfl ?_
  refine nl_iconst (pc := 217) (v := 1) h dL_law_217 (by decide) ?_
  refine nl_iadd (pc := 218) h dL_law_218 ?_
  refine nl_sld (pc := 219) h hX hbl hbA i1 dL_law_219 ?_
  refine nl_aload_n (pc := 220) h dL_law_220 rfl 0 rfl ?_
  refine nl_iload_n (pc := 221) h dL_law_221 rfl 3 rfl ?_
  refine nl_iconst (pc := 222) (v := 2) h dL_law_222 (by decide) ?_
  refine nl_iadd (pc := 223) h dL_law_223 ?_
  refine nl_sld (pc := 224) h hX hbl hbA i2 dL_law_224 ?_
  refine ll_17 (pc := 225) h hR hf (Nat.le_of_ble_eq_true rfl) dL_law_225 (fun r2 s2 hf => ?_)
  refine nl_icmp_eq (pc := 228) (tgt := 1356) h dL_law_228 (by decide) (fun _ => k _ hf.2) (fun z => absurd hf.1 z)
set_option maxHeartbeats 1000000 in
theorem nl_c1 {P : nw_PT} {X : nw_EX} {b L : Nat} {xs : Nat → Int32} {x3 : Int32} {Inv : nw_ST → Prop} (h : nw_ok P X code RL 4) (hR : X.2.2.2.1 = room_1) (hX : va_X b L xs X.2.2.2.2.1 X.2.2.2.2.1.heap) (hbl : b < X.2.2.2.2.1.heap.size) (hbA : ¬ nw_A P b) (i1 : vp_in (x3 + 1) L) (i2 : vp_in (x3 + 2) L) (i3 : vp_in (x3 + 3) L) (i4 : vp_in (x3 + 4) L) (i5 : vp_in (x3 + 5) L) (k : ∀ (s2 : nw_ST), Inv s2 → nl_G P X 4 s2 [(0, .ref b), (1, .ref (P.2.1 0)), (2, .ref (P.2.1 37)), (3, .int x3)] 1356 []) (hS : nl_S1 Inv) {σ : nw_ST} (hI : Inv σ) : nl_G P X 4 σ [(0, .ref b), (1, .ref (P.2.1 0)), (2, .ref (P.2.1 37)), (3, .int x3)] 233 [] := by
  have hf := hS σ hI (xs (x3 + 1).toNatClampNeg)
  refine nl_aload_n (pc := 233) h dL_law_233 rfl 1 rfl ?_
  refine nl_aload_n (pc := 234) h dL_law_234 rfl 0 rfl ?_
  refine nl_iload_n (pc := 235) h dL_law_235 rfl 3 rfl ?_
  refine nl_iconst (pc := 236) (v := 1) h dL_law_236 (by decide) ?_
  refine nl_iadd (pc := 237) h dL_law_237 ?_
  refine nl_sld (pc := 238) h hX hbl hbA i1 dL_law_238 ?_
  refine ll_18 (pc := 239) h hR hf (Nat.le_of_ble_eq_true rfl) dL_law_239 (fun r1 s1 hf => ?_)
  refine nl_aload_n (pc := 242) h dL_law_242 rfl 2 rfl ?_
  refine nl_aload_n (pc := 243) h dL_law_243 rfl 0 rfl ?_
  refine nl_iload_n (pc := 244) h dL_law_244 rfl 3 rfl ?_
  refine nl_iconst (pc := 245) (v := 1) h dL_law_245 (by decide) ?_
  refine nl_iadd (pc := 246) h dL_law_246 ?_
  refine nl_sld (pc := 247) h hX hbl hbA i1 dL_law_247 ?_
  refine ll_22 (pc := 248) h hR hf (Nat.le_of_ble_eq_true rfl) dL_law_248 (fun r2 s2 hf => ?_)
  refine nl_icmp_eq (pc := 251) (tgt := 1356) h dL_law_251 (by decide) (fun _ => k _ hf.2) (fun z => absurd hf.1 z)
set_option maxHeartbeats 1000000 in
theorem nl_c2 {P : nw_PT} {X : nw_EX} {b L : Nat} {xs : Nat → Int32} {x3 : Int32} {Inv : nw_ST → Prop} (h : nw_ok P X code RL 4) (hR : X.2.2.2.1 = room_1) (hX : va_X b L xs X.2.2.2.2.1 X.2.2.2.2.1.heap) (hbl : b < X.2.2.2.2.1.heap.size) (hbA : ¬ nw_A P b) (i1 : vp_in (x3 + 1) L) (i2 : vp_in (x3 + 2) L) (i3 : vp_in (x3 + 3) L) (i4 : vp_in (x3 + 4) L) (i5 : vp_in (x3 + 5) L) (k : ∀ (s2 : nw_ST), Inv s2 → nl_G P X 4 s2 [(0, .ref b), (1, .ref (P.2.1 0)), (2, .ref (P.2.1 37)), (3, .int x3)] 1356 []) (hS : nl_S2 Inv) {σ : nw_ST} (hI : Inv σ) : nl_G P X 4 σ [(0, .ref b), (1, .ref (P.2.1 0)), (2, .ref (P.2.1 37)), (3, .int x3)] 256 [] := by
  have hf := hS σ hI (xs (x3 + 1).toNatClampNeg)
  refine nl_aload_n (pc := 256) h dL_law_256 rfl 1 rfl ?_
  refine nl_aload_n (pc := 257) h dL_law_257 rfl 0 rfl ?_
  refine nl_iload_n (pc := 258) h dL_law_258 rfl 3 rfl ?_
  refine nl_iconst (pc := 259) (v := 1) h dL_law_259 (by decide) ?_
  refine nl_iadd (pc := 260) h dL_law_260 ?_
  refine nl_sld (pc := 261) h hX hbl hbA i1 dL_law_261 ?_
  refine ll_23 (pc := 262) h hR hf (Nat.le_of_ble_eq_true rfl) dL_law_262 (fun r1 s1 hf => ?_)
  refine nl_aload_n (pc := 265) h dL_law_265 rfl 2 rfl ?_
  refine nl_aload_n (pc := 266) h dL_law_266 rfl 0 rfl ?_
  refine nl_iload_n (pc := 267) h dL_law_267 rfl 3 rfl ?_
  refine nl_iconst (pc := 268) (v := 1) h dL_law_268 (by decide) ?_
  refine nl_iadd (pc := 269) h dL_law_269 ?_
  refine nl_sld (pc := 270) h hX hbl hbA i1 dL_law_270 ?_
  refine ll_26 (pc := 271) h hR hf (Nat.le_of_ble_eq_true rfl) dL_law_271 (fun r2 s2 hf => ?_)
  refine nl_icmp_eq (pc := 274) (tgt := 1356) h dL_law_274 (by decide) (fun _ => k _ hf.2) (fun z => absurd hf.1 z)
set_option maxHeartbeats 1000000 in
theorem nl_c3 {P : nw_PT} {X : nw_EX} {b L : Nat} {xs : Nat → Int32} {x3 : Int32} {Inv : nw_ST → Prop} (h : nw_ok P X code RL 4) (hR : X.2.2.2.1 = room_1) (hX : va_X b L xs X.2.2.2.2.1 X.2.2.2.2.1.heap) (hbl : b < X.2.2.2.2.1.heap.size) (hbA : ¬ nw_A P b) (i1 : vp_in (x3 + 1) L) (i2 : vp_in (x3 + 2) L) (i3 : vp_in (x3 + 3) L) (i4 : vp_in (x3 + 4) L) (i5 : vp_in (x3 + 5) L) (k : ∀ (s2 : nw_ST), Inv s2 → nl_G P X 4 s2 [(0, .ref b), (1, .ref (P.2.1 0)), (2, .ref (P.2.1 37)), (3, .int x3)] 1356 []) (hS : nl_S3 Inv) {σ : nw_ST} (hI : Inv σ) : nl_G P X 4 σ [(0, .ref b), (1, .ref (P.2.1 0)), (2, .ref (P.2.1 37)), (3, .int x3)] 279 [] := by
  have hf := hS σ hI (xs (x3 + 1).toNatClampNeg)
  refine nl_aload_n (pc := 279) h dL_law_279 rfl 1 rfl ?_
  refine nl_aload_n (pc := 280) h dL_law_280 rfl 0 rfl ?_
  refine nl_iload_n (pc := 281) h dL_law_281 rfl 3 rfl ?_
  refine nl_iconst (pc := 282) (v := 1) h dL_law_282 (by decide) ?_
  refine nl_iadd (pc := 283) h dL_law_283 ?_
  refine nl_sld (pc := 284) h hX hbl hbA i1 dL_law_284 ?_
  refine ll_27 (pc := 285) (K := fun (r1 : Int32) (s1 : nw_ST) => (f5_fault (fun (r2 : Int32) (s2 : nw_ST) => r1 = r2 ∧ Inv s2) s1 (xs (x3 + 1).toNatClampNeg))) h hR hf (Nat.le_of_ble_eq_true rfl) dL_law_285 (fun r1 s1 hf => ?_)
  refine nl_aload_n (pc := 288) h dL_law_288 rfl 2 rfl ?_
  refine nl_aload_n (pc := 289) h dL_law_289 rfl 0 rfl ?_
  refine nl_iload_n (pc := 290) h dL_law_290 rfl 3 rfl ?_
  refine nl_iconst (pc := 291) (v := 1) h dL_law_291 (by decide) ?_
  refine nl_iadd (pc := 292) h dL_law_292 ?_
  refine nl_sld (pc := 293) h hX hbl hbA i1 dL_law_293 ?_
  refine ll_30 (pc := 294) h hR hf (Nat.le_of_ble_eq_true rfl) dL_law_294 (fun r2 s2 hf => ?_)
  refine nl_icmp_eq (pc := 297) (tgt := 1356) h dL_law_297 (by decide) (fun _ => k _ hf.2) (fun z => absurd hf.1 z)
set_option maxHeartbeats 1000000 in
theorem nl_c4 {P : nw_PT} {X : nw_EX} {b L : Nat} {xs : Nat → Int32} {x3 : Int32} {Inv : nw_ST → Prop} (h : nw_ok P X code RL 4) (hR : X.2.2.2.1 = room_1) (hX : va_X b L xs X.2.2.2.2.1 X.2.2.2.2.1.heap) (hbl : b < X.2.2.2.2.1.heap.size) (hbA : ¬ nw_A P b) (i1 : vp_in (x3 + 1) L) (i2 : vp_in (x3 + 2) L) (i3 : vp_in (x3 + 3) L) (i4 : vp_in (x3 + 4) L) (i5 : vp_in (x3 + 5) L) (k : ∀ (s2 : nw_ST), Inv s2 → nl_G P X 4 s2 [(0, .ref b), (1, .ref (P.2.1 0)), (2, .ref (P.2.1 37)), (3, .int x3)] 1356 []) (hS : nl_S4 Inv) {σ : nw_ST} (hI : Inv σ) : nl_G P X 4 σ [(0, .ref b), (1, .ref (P.2.1 0)), (2, .ref (P.2.1 37)), (3, .int x3)] 302 [] := by
  have hf := hS σ hI (xs (x3 + 1).toNatClampNeg) (xs (x3 + 2).toNatClampNeg)
  refine nl_aload_n (pc := 302) h dL_law_302 rfl 1 rfl ?_
  refine nl_aload_n (pc := 303) h dL_law_303 rfl 0 rfl ?_
  refine nl_iload_n (pc := 304) h dL_law_304 rfl 3 rfl ?_
  refine nl_iconst (pc := 305) (v := 1) h dL_law_305 (by decide) ?_
  refine nl_iadd (pc := 306) h dL_law_306 ?_
  refine nl_sld (pc := 307) h hX hbl hbA i1 dL_law_307 ?_
  refine nl_aload_n (pc := 308) h dL_law_308 rfl 0 rfl ?_
  refine nl_iload_n (pc := 309) h dL_law_309 rfl 3 rfl ?_
  refine nl_iconst (pc := 310) (v := 2) h dL_law_310 (by decide) ?_
  refine nl_iadd (pc := 311) h dL_law_311 ?_
  refine nl_sld (pc := 312) h hX hbl hbA i2 dL_law_312 ?_
  refine ll_31 (pc := 313) (K := fun (r1 : Int32) (s1 : nw_ST) => (f5_swell (fun (r2 : Int32) (s2 : nw_ST) => r1 = r2 ∧ Inv s2) s1 (xs (x3 + 1).toNatClampNeg) (xs (x3 + 2).toNatClampNeg))) h hR hf (Nat.le_of_ble_eq_true rfl) dL_law_313 (fun r1 s1 hf => ?_)
  refine nl_aload_n (pc := 316) h dL_law_316 rfl 2 rfl ?_
  refine nl_aload_n (pc := 317) h dL_law_317 rfl 0 rfl ?_
  refine nl_iload_n (pc := 318) h dL_law_318 rfl 3 rfl ?_
  refine nl_iconst (pc := 319) (v := 1) h dL_law_319 (by decide) ?_
  refine nl_iadd (pc := 320) h dL_law_320 ?_
  refine nl_sld (pc := 321) h hX hbl hbA i1 dL_law_321 ?_
  refine nl_aload_n (pc := 322) h dL_law_322 rfl 0 rfl ?_
  refine nl_iload_n (pc := 323) h dL_law_323 rfl 3 rfl ?_
  refine nl_iconst (pc := 324) (v := 2) h dL_law_324 (by decide) ?_
  refine nl_iadd (pc := 325) h dL_law_325 ?_
  refine nl_sld (pc := 326) h hX hbl hbA i2 dL_law_326 ?_
  refine ll_34 (pc := 327) h hR hf (Nat.le_of_ble_eq_true rfl) dL_law_327 (fun r2 s2 hf => ?_)
  refine nl_icmp_eq (pc := 330) (tgt := 1356) h dL_law_330 (by decide) (fun _ => k _ hf.2) (fun z => absurd hf.1 z)
set_option maxHeartbeats 1000000 in
theorem nl_c5 {P : nw_PT} {X : nw_EX} {b L : Nat} {xs : Nat → Int32} {x3 : Int32} {Inv : nw_ST → Prop} (h : nw_ok P X code RL 4) (hR : X.2.2.2.1 = room_1) (hX : va_X b L xs X.2.2.2.2.1 X.2.2.2.2.1.heap) (hbl : b < X.2.2.2.2.1.heap.size) (hbA : ¬ nw_A P b) (i1 : vp_in (x3 + 1) L) (i2 : vp_in (x3 + 2) L) (i3 : vp_in (x3 + 3) L) (i4 : vp_in (x3 + 4) L) (i5 : vp_in (x3 + 5) L) (k : ∀ (s2 : nw_ST), Inv s2 → nl_G P X 4 s2 [(0, .ref b), (1, .ref (P.2.1 0)), (2, .ref (P.2.1 37)), (3, .int x3)] 1356 []) (hS : nl_S5 Inv) {σ : nw_ST} (hI : Inv σ) : nl_G P X 4 σ [(0, .ref b), (1, .ref (P.2.1 0)), (2, .ref (P.2.1 37)), (3, .int x3)] 335 [] := by
  have hf := hS σ hI (xs (x3 + 1).toNatClampNeg) (xs (x3 + 2).toNatClampNeg)
  refine nl_aload_n (pc := 335) h dL_law_335 rfl 1 rfl ?_
  refine nl_aload_n (pc := 336) h dL_law_336 rfl 0 rfl ?_
  refine nl_iload_n (pc := 337) h dL_law_337 rfl 3 rfl ?_
  refine nl_iconst (pc := 338) (v := 1) h dL_law_338 (by decide) ?_
  refine nl_iadd (pc := 339) h dL_law_339 ?_
  refine nl_sld (pc := 340) h hX hbl hbA i1 dL_law_340 ?_
  refine nl_aload_n (pc := 341) h dL_law_341 rfl 0 rfl ?_
  refine nl_iload_n (pc := 342) h dL_law_342 rfl 3 rfl ?_
  refine nl_iconst (pc := 343) (v := 2) h dL_law_343 (by decide) ?_
  refine nl_iadd (pc := 344) h dL_law_344 ?_
  refine nl_sld (pc := 345) h hX hbl hbA i2 dL_law_345 ?_
  refine ll_35 (pc := 346) (K := fun (r1 : Int32) (s1 : nw_ST) => (f5_find (fun (r2 : Int32) (s2 : nw_ST) => r1 = r2 ∧ Inv s2) s1 (xs (x3 + 1).toNatClampNeg) (xs (x3 + 2).toNatClampNeg))) h hR hf (Nat.le_of_ble_eq_true rfl) dL_law_346 (fun r1 s1 hf => ?_)
  refine nl_aload_n (pc := 349) h dL_law_349 rfl 2 rfl ?_
  refine nl_aload_n (pc := 350) h dL_law_350 rfl 0 rfl ?_
  refine nl_iload_n (pc := 351) h dL_law_351 rfl 3 rfl ?_
  refine nl_iconst (pc := 352) (v := 1) h dL_law_352 (by decide) ?_
  refine nl_iadd (pc := 353) h dL_law_353 ?_
  refine nl_sld (pc := 354) h hX hbl hbA i1 dL_law_354 ?_
  refine nl_aload_n (pc := 355) h dL_law_355 rfl 0 rfl ?_
  refine nl_iload_n (pc := 356) h dL_law_356 rfl 3 rfl ?_
  refine nl_iconst (pc := 357) (v := 2) h dL_law_357 (by decide) ?_
  refine nl_iadd (pc := 358) h dL_law_358 ?_
  refine nl_sld (pc := 359) h hX hbl hbA i2 dL_law_359 ?_
  refine ll_38 (pc := 360) h hR hf (Nat.le_of_ble_eq_true rfl) dL_law_360 (fun r2 s2 hf => ?_)
  refine nl_icmp_eq (pc := 363) (tgt := 1356) h dL_law_363 (by decide) (fun _ => k _ hf.2) (fun z => absurd hf.1 z)
set_option maxHeartbeats 1000000 in
theorem nl_c6 {P : nw_PT} {X : nw_EX} {b L : Nat} {xs : Nat → Int32} {x3 : Int32} {Inv : nw_ST → Prop} (h : nw_ok P X code RL 4) (hR : X.2.2.2.1 = room_1) (hX : va_X b L xs X.2.2.2.2.1 X.2.2.2.2.1.heap) (hbl : b < X.2.2.2.2.1.heap.size) (hbA : ¬ nw_A P b) (i1 : vp_in (x3 + 1) L) (i2 : vp_in (x3 + 2) L) (i3 : vp_in (x3 + 3) L) (i4 : vp_in (x3 + 4) L) (i5 : vp_in (x3 + 5) L) (k : ∀ (s2 : nw_ST), Inv s2 → nl_G P X 4 s2 [(0, .ref b), (1, .ref (P.2.1 0)), (2, .ref (P.2.1 37)), (3, .int x3)] 1356 []) (hS : nl_S6 Inv) {σ : nw_ST} (hI : Inv σ) : nl_G P X 4 σ [(0, .ref b), (1, .ref (P.2.1 0)), (2, .ref (P.2.1 37)), (3, .int x3)] 368 [] := by
  have hf := hS σ hI (xs (x3 + 1).toNatClampNeg)
  refine nl_aload_n (pc := 368) h dL_law_368 rfl 1 rfl ?_
  refine nl_aload_n (pc := 369) h dL_law_369 rfl 0 rfl ?_
  refine nl_iload_n (pc := 370) h dL_law_370 rfl 3 rfl ?_
  refine nl_iconst (pc := 371) (v := 1) h dL_law_371 (by decide) ?_
  refine nl_iadd (pc := 372) h dL_law_372 ?_
  refine nl_sld (pc := 373) h hX hbl hbA i1 dL_law_373 ?_
  refine ll_39 (pc := 374) h hR hf (Nat.le_of_ble_eq_true rfl) dL_law_374 (fun r1 s1 hf => ?_)
  refine nl_aload_n (pc := 377) h dL_law_377 rfl 2 rfl ?_
  refine nl_aload_n (pc := 378) h dL_law_378 rfl 0 rfl ?_
  refine nl_iload_n (pc := 379) h dL_law_379 rfl 3 rfl ?_
  refine nl_iconst (pc := 380) (v := 1) h dL_law_380 (by decide) ?_
  refine nl_iadd (pc := 381) h dL_law_381 ?_
  refine nl_sld (pc := 382) h hX hbl hbA i1 dL_law_382 ?_
  refine ll_42 (pc := 383) h hR hf (Nat.le_of_ble_eq_true rfl) dL_law_383 (fun r2 s2 hf => ?_)
  refine nl_icmp_eq (pc := 386) (tgt := 1356) h dL_law_386 (by decide) (fun _ => k _ hf.2) (fun z => absurd hf.1 z)
set_option maxHeartbeats 1000000 in
theorem nl_c7 {P : nw_PT} {X : nw_EX} {b L : Nat} {xs : Nat → Int32} {x3 : Int32} {Inv : nw_ST → Prop} (h : nw_ok P X code RL 4) (hR : X.2.2.2.1 = room_1) (hX : va_X b L xs X.2.2.2.2.1 X.2.2.2.2.1.heap) (hbl : b < X.2.2.2.2.1.heap.size) (hbA : ¬ nw_A P b) (i1 : vp_in (x3 + 1) L) (i2 : vp_in (x3 + 2) L) (i3 : vp_in (x3 + 3) L) (i4 : vp_in (x3 + 4) L) (i5 : vp_in (x3 + 5) L) (k : ∀ (s2 : nw_ST), Inv s2 → nl_G P X 4 s2 [(0, .ref b), (1, .ref (P.2.1 0)), (2, .ref (P.2.1 37)), (3, .int x3)] 1356 []) (hS : nl_S7 Inv) {σ : nw_ST} (hI : Inv σ) : nl_G P X 4 σ [(0, .ref b), (1, .ref (P.2.1 0)), (2, .ref (P.2.1 37)), (3, .int x3)] 391 [] := by
  have hf := hS σ hI (xs (x3 + 1).toNatClampNeg) (xs (x3 + 2).toNatClampNeg)
  refine nl_aload_n (pc := 391) h dL_law_391 rfl 1 rfl ?_
  refine nl_aload_n (pc := 392) h dL_law_392 rfl 0 rfl ?_
  refine nl_iload_n (pc := 393) h dL_law_393 rfl 3 rfl ?_
  refine nl_iconst (pc := 394) (v := 1) h dL_law_394 (by decide) ?_
  refine nl_iadd (pc := 395) h dL_law_395 ?_
  refine nl_sld (pc := 396) h hX hbl hbA i1 dL_law_396 ?_
  refine nl_aload_n (pc := 397) h dL_law_397 rfl 0 rfl ?_
  refine nl_iload_n (pc := 398) h dL_law_398 rfl 3 rfl ?_
  refine nl_iconst (pc := 399) (v := 2) h dL_law_399 (by decide) ?_
  refine nl_iadd (pc := 400) h dL_law_400 ?_
  refine nl_sld (pc := 401) h hX hbl hbA i2 dL_law_401 ?_
  refine ll_43 (pc := 402) h hR hf (Nat.le_of_ble_eq_true rfl) dL_law_402 (fun r1 s1 hf => ?_)
  refine nl_aload_n (pc := 405) h dL_law_405 rfl 2 rfl ?_
  refine nl_aload_n (pc := 406) h dL_law_406 rfl 0 rfl ?_
  refine nl_iload_n (pc := 407) h dL_law_407 rfl 3 rfl ?_
  refine nl_iconst (pc := 408) (v := 1) h dL_law_408 (by decide) ?_
  refine nl_iadd (pc := 409) h dL_law_409 ?_
  refine nl_sld (pc := 410) h hX hbl hbA i1 dL_law_410 ?_
  refine nl_aload_n (pc := 411) h dL_law_411 rfl 0 rfl ?_
  refine nl_iload_n (pc := 412) h dL_law_412 rfl 3 rfl ?_
  refine nl_iconst (pc := 413) (v := 2) h dL_law_413 (by decide) ?_
  refine nl_iadd (pc := 414) h dL_law_414 ?_
  refine nl_sld (pc := 415) h hX hbl hbA i2 dL_law_415 ?_
  refine ll_46 (pc := 416) h hR hf (Nat.le_of_ble_eq_true rfl) dL_law_416 (fun r2 s2 hf => ?_)
  refine nl_icmp_eq (pc := 419) (tgt := 1356) h dL_law_419 (by decide) (fun _ => k _ hf.2) (fun z => absurd hf.1 z)
set_option maxHeartbeats 1000000 in
theorem nl_c8 {P : nw_PT} {X : nw_EX} {b L : Nat} {xs : Nat → Int32} {x3 : Int32} {Inv : nw_ST → Prop} (h : nw_ok P X code RL 4) (hR : X.2.2.2.1 = room_1) (hX : va_X b L xs X.2.2.2.2.1 X.2.2.2.2.1.heap) (hbl : b < X.2.2.2.2.1.heap.size) (hbA : ¬ nw_A P b) (i1 : vp_in (x3 + 1) L) (i2 : vp_in (x3 + 2) L) (i3 : vp_in (x3 + 3) L) (i4 : vp_in (x3 + 4) L) (i5 : vp_in (x3 + 5) L) (k : ∀ (s2 : nw_ST), Inv s2 → nl_G P X 4 s2 [(0, .ref b), (1, .ref (P.2.1 0)), (2, .ref (P.2.1 37)), (3, .int x3)] 1356 []) (hS : nl_S8 Inv) {σ : nw_ST} (hI : Inv σ) : nl_G P X 4 σ [(0, .ref b), (1, .ref (P.2.1 0)), (2, .ref (P.2.1 37)), (3, .int x3)] 424 [] := by
  have hf := hS σ hI (xs (x3 + 1).toNatClampNeg)
  refine nl_aload_n (pc := 424) h dL_law_424 rfl 1 rfl ?_
  refine nl_aload_n (pc := 425) h dL_law_425 rfl 0 rfl ?_
  refine nl_iload_n (pc := 426) h dL_law_426 rfl 3 rfl ?_
  refine nl_iconst (pc := 427) (v := 1) h dL_law_427 (by decide) ?_
  refine nl_iadd (pc := 428) h dL_law_428 ?_
  refine nl_sld (pc := 429) h hX hbl hbA i1 dL_law_429 ?_
  refine ll_47 (pc := 430) h hR hf (Nat.le_of_ble_eq_true rfl) dL_law_430 (fun r1 s1 hf => ?_)
  refine nl_aload_n (pc := 433) h dL_law_433 rfl 2 rfl ?_
  refine nl_aload_n (pc := 434) h dL_law_434 rfl 0 rfl ?_
  refine nl_iload_n (pc := 435) h dL_law_435 rfl 3 rfl ?_
  refine nl_iconst (pc := 436) (v := 1) h dL_law_436 (by decide) ?_
  refine nl_iadd (pc := 437) h dL_law_437 ?_
  refine nl_sld (pc := 438) h hX hbl hbA i1 dL_law_438 ?_
  refine ll_50 (pc := 439) h hR hf (Nat.le_of_ble_eq_true rfl) dL_law_439 (fun r2 s2 hf => ?_)
  refine nl_icmp_eq (pc := 442) (tgt := 1356) h dL_law_442 (by decide) (fun _ => k _ hf.2) (fun z => absurd hf.1 z)
set_option maxHeartbeats 1000000 in
theorem nl_c9 {P : nw_PT} {X : nw_EX} {b L : Nat} {xs : Nat → Int32} {x3 : Int32} {Inv : nw_ST → Prop} (h : nw_ok P X code RL 4) (hR : X.2.2.2.1 = room_1) (hX : va_X b L xs X.2.2.2.2.1 X.2.2.2.2.1.heap) (hbl : b < X.2.2.2.2.1.heap.size) (hbA : ¬ nw_A P b) (i1 : vp_in (x3 + 1) L) (i2 : vp_in (x3 + 2) L) (i3 : vp_in (x3 + 3) L) (i4 : vp_in (x3 + 4) L) (i5 : vp_in (x3 + 5) L) (k : ∀ (s2 : nw_ST), Inv s2 → nl_G P X 4 s2 [(0, .ref b), (1, .ref (P.2.1 0)), (2, .ref (P.2.1 37)), (3, .int x3)] 1356 []) (hS : nl_S9 Inv) {σ : nw_ST} (hI : Inv σ) : nl_G P X 4 σ [(0, .ref b), (1, .ref (P.2.1 0)), (2, .ref (P.2.1 37)), (3, .int x3)] 447 [] := by
  have hf := hS σ hI (xs (x3 + 1).toNatClampNeg) (xs (x3 + 2).toNatClampNeg)
  refine nl_aload_n (pc := 447) h dL_law_447 rfl 1 rfl ?_
  refine nl_aload_n (pc := 448) h dL_law_448 rfl 0 rfl ?_
  refine nl_iload_n (pc := 449) h dL_law_449 rfl 3 rfl ?_
  refine nl_iconst (pc := 450) (v := 1) h dL_law_450 (by decide) ?_
  refine nl_iadd (pc := 451) h dL_law_451 ?_
  refine nl_sld (pc := 452) h hX hbl hbA i1 dL_law_452 ?_
  refine nl_aload_n (pc := 453) h dL_law_453 rfl 0 rfl ?_
  refine nl_iload_n (pc := 454) h dL_law_454 rfl 3 rfl ?_
  refine nl_iconst (pc := 455) (v := 2) h dL_law_455 (by decide) ?_
  refine nl_iadd (pc := 456) h dL_law_456 ?_
  refine nl_sld (pc := 457) h hX hbl hbA i2 dL_law_457 ?_
  refine ll_51 (pc := 458) h hR hf (Nat.le_of_ble_eq_true rfl) dL_law_458 (fun r1 s1 hf => ?_)
  refine nl_aload_n (pc := 461) h dL_law_461 rfl 2 rfl ?_
  refine nl_aload_n (pc := 462) h dL_law_462 rfl 0 rfl ?_
  refine nl_iload_n (pc := 463) h dL_law_463 rfl 3 rfl ?_
  refine nl_iconst (pc := 464) (v := 1) h dL_law_464 (by decide) ?_
  refine nl_iadd (pc := 465) h dL_law_465 ?_
  refine nl_sld (pc := 466) h hX hbl hbA i1 dL_law_466 ?_
  refine nl_aload_n (pc := 467) h dL_law_467 rfl 0 rfl ?_
  refine nl_iload_n (pc := 468) h dL_law_468 rfl 3 rfl ?_
  refine nl_iconst (pc := 469) (v := 2) h dL_law_469 (by decide) ?_
  refine nl_iadd (pc := 470) h dL_law_470 ?_
  refine nl_sld (pc := 471) h hX hbl hbA i2 dL_law_471 ?_
  refine ll_54 (pc := 472) h hR hf (Nat.le_of_ble_eq_true rfl) dL_law_472 (fun r2 s2 hf => ?_)
  refine nl_icmp_eq (pc := 475) (tgt := 1356) h dL_law_475 (by decide) (fun _ => k _ hf.2) (fun z => absurd hf.1 z)
set_option maxHeartbeats 1000000 in
theorem nl_c10 {P : nw_PT} {X : nw_EX} {b L : Nat} {xs : Nat → Int32} {x3 : Int32} {Inv : nw_ST → Prop} (h : nw_ok P X code RL 4) (hR : X.2.2.2.1 = room_1) (hX : va_X b L xs X.2.2.2.2.1 X.2.2.2.2.1.heap) (hbl : b < X.2.2.2.2.1.heap.size) (hbA : ¬ nw_A P b) (i1 : vp_in (x3 + 1) L) (i2 : vp_in (x3 + 2) L) (i3 : vp_in (x3 + 3) L) (i4 : vp_in (x3 + 4) L) (i5 : vp_in (x3 + 5) L) (k : ∀ (s2 : nw_ST), Inv s2 → nl_G P X 4 s2 [(0, .ref b), (1, .ref (P.2.1 0)), (2, .ref (P.2.1 37)), (3, .int x3)] 1356 []) (hS : nl_S10 Inv) {σ : nw_ST} (hI : Inv σ) : nl_G P X 4 σ [(0, .ref b), (1, .ref (P.2.1 0)), (2, .ref (P.2.1 37)), (3, .int x3)] 480 [] := by
  have hf := hS σ hI (xs (x3 + 1).toNatClampNeg)
  refine nl_aload_n (pc := 480) h dL_law_480 rfl 1 rfl ?_
  refine nl_aload_n (pc := 481) h dL_law_481 rfl 0 rfl ?_
  refine nl_iload_n (pc := 482) h dL_law_482 rfl 3 rfl ?_
  refine nl_iconst (pc := 483) (v := 1) h dL_law_483 (by decide) ?_
  refine nl_iadd (pc := 484) h dL_law_484 ?_
  refine nl_sld (pc := 485) h hX hbl hbA i1 dL_law_485 ?_
  refine ll_55 (pc := 486) h hR hf (Nat.le_of_ble_eq_true rfl) dL_law_486 (fun r1 s1 hf => ?_)
  refine nl_aload_n (pc := 489) h dL_law_489 rfl 2 rfl ?_
  refine nl_aload_n (pc := 490) h dL_law_490 rfl 0 rfl ?_
  refine nl_iload_n (pc := 491) h dL_law_491 rfl 3 rfl ?_
  refine nl_iconst (pc := 492) (v := 1) h dL_law_492 (by decide) ?_
  refine nl_iadd (pc := 493) h dL_law_493 ?_
  refine nl_sld (pc := 494) h hX hbl hbA i1 dL_law_494 ?_
  refine ll_58 (pc := 495) h hR hf (Nat.le_of_ble_eq_true rfl) dL_law_495 (fun r2 s2 hf => ?_)
  refine nl_icmp_eq (pc := 498) (tgt := 1356) h dL_law_498 (by decide) (fun _ => k _ hf.2) (fun z => absurd hf.1 z)
set_option maxHeartbeats 1000000 in
theorem nl_c11 {P : nw_PT} {X : nw_EX} {b L : Nat} {xs : Nat → Int32} {x3 : Int32} {Inv : nw_ST → Prop} (h : nw_ok P X code RL 4) (hR : X.2.2.2.1 = room_1) (hX : va_X b L xs X.2.2.2.2.1 X.2.2.2.2.1.heap) (hbl : b < X.2.2.2.2.1.heap.size) (hbA : ¬ nw_A P b) (i1 : vp_in (x3 + 1) L) (i2 : vp_in (x3 + 2) L) (i3 : vp_in (x3 + 3) L) (i4 : vp_in (x3 + 4) L) (i5 : vp_in (x3 + 5) L) (k : ∀ (s2 : nw_ST), Inv s2 → nl_G P X 4 s2 [(0, .ref b), (1, .ref (P.2.1 0)), (2, .ref (P.2.1 37)), (3, .int x3)] 1356 []) (hS : nl_S11 Inv) {σ : nw_ST} (hI : Inv σ) : nl_G P X 4 σ [(0, .ref b), (1, .ref (P.2.1 0)), (2, .ref (P.2.1 37)), (3, .int x3)] 503 [] := by
  have hf := hS σ hI (xs (x3 + 1).toNatClampNeg)
  refine nl_aload_n (pc := 503) h dL_law_503 rfl 1 rfl ?_
  refine nl_aload_n (pc := 504) h dL_law_504 rfl 0 rfl ?_
  refine nl_iload_n (pc := 505) h dL_law_505 rfl 3 rfl ?_
  refine nl_iconst (pc := 506) (v := 1) h dL_law_506 (by decide) ?_
  refine nl_iadd (pc := 507) h dL_law_507 ?_
  refine nl_sld (pc := 508) h hX hbl hbA i1 dL_law_508 ?_
  refine ll_59 (pc := 509) h hR hf (Nat.le_of_ble_eq_true rfl) dL_law_509 (fun r1 s1 hf => ?_)
  refine nl_aload_n (pc := 512) h dL_law_512 rfl 2 rfl ?_
  refine nl_aload_n (pc := 513) h dL_law_513 rfl 0 rfl ?_
  refine nl_iload_n (pc := 514) h dL_law_514 rfl 3 rfl ?_
  refine nl_iconst (pc := 515) (v := 1) h dL_law_515 (by decide) ?_
  refine nl_iadd (pc := 516) h dL_law_516 ?_
  refine nl_sld (pc := 517) h hX hbl hbA i1 dL_law_517 ?_
  refine ll_62 (pc := 518) h hR hf (Nat.le_of_ble_eq_true rfl) dL_law_518 (fun r2 s2 hf => ?_)
  refine nl_icmp_eq (pc := 521) (tgt := 1356) h dL_law_521 (by decide) (fun _ => k _ hf.2) (fun z => absurd hf.1 z)
set_option maxHeartbeats 1000000 in
theorem nl_c12 {P : nw_PT} {X : nw_EX} {b L : Nat} {xs : Nat → Int32} {x3 : Int32} {Inv : nw_ST → Prop} (h : nw_ok P X code RL 4) (hR : X.2.2.2.1 = room_1) (hX : va_X b L xs X.2.2.2.2.1 X.2.2.2.2.1.heap) (hbl : b < X.2.2.2.2.1.heap.size) (hbA : ¬ nw_A P b) (i1 : vp_in (x3 + 1) L) (i2 : vp_in (x3 + 2) L) (i3 : vp_in (x3 + 3) L) (i4 : vp_in (x3 + 4) L) (i5 : vp_in (x3 + 5) L) (k : ∀ (s2 : nw_ST), Inv s2 → nl_G P X 4 s2 [(0, .ref b), (1, .ref (P.2.1 0)), (2, .ref (P.2.1 37)), (3, .int x3)] 1356 []) (hS : nl_S12 Inv) {σ : nw_ST} (hI : Inv σ) : nl_G P X 4 σ [(0, .ref b), (1, .ref (P.2.1 0)), (2, .ref (P.2.1 37)), (3, .int x3)] 526 [] := by
  have hf := hS σ hI (xs (x3 + 1).toNatClampNeg)
  refine nl_aload_n (pc := 526) h dL_law_526 rfl 1 rfl ?_
  refine nl_aload_n (pc := 527) h dL_law_527 rfl 0 rfl ?_
  refine nl_iload_n (pc := 528) h dL_law_528 rfl 3 rfl ?_
  refine nl_iconst (pc := 529) (v := 1) h dL_law_529 (by decide) ?_
  refine nl_iadd (pc := 530) h dL_law_530 ?_
  refine nl_sld (pc := 531) h hX hbl hbA i1 dL_law_531 ?_
  refine ll_63 (pc := 532) h hR hf (Nat.le_of_ble_eq_true rfl) dL_law_532 (fun r1 s1 hf => ?_)
  refine nl_aload_n (pc := 535) h dL_law_535 rfl 2 rfl ?_
  refine nl_aload_n (pc := 536) h dL_law_536 rfl 0 rfl ?_
  refine nl_iload_n (pc := 537) h dL_law_537 rfl 3 rfl ?_
  refine nl_iconst (pc := 538) (v := 1) h dL_law_538 (by decide) ?_
  refine nl_iadd (pc := 539) h dL_law_539 ?_
  refine nl_sld (pc := 540) h hX hbl hbA i1 dL_law_540 ?_
  refine ll_66 (pc := 541) h hR hf (Nat.le_of_ble_eq_true rfl) dL_law_541 (fun r2 s2 hf => ?_)
  refine nl_icmp_eq (pc := 544) (tgt := 1356) h dL_law_544 (by decide) (fun _ => k _ hf.2) (fun z => absurd hf.1 z)
set_option maxHeartbeats 1000000 in
theorem nl_c13 {P : nw_PT} {X : nw_EX} {b L : Nat} {xs : Nat → Int32} {x3 : Int32} {Inv : nw_ST → Prop} (h : nw_ok P X code RL 4) (hR : X.2.2.2.1 = room_1) (hX : va_X b L xs X.2.2.2.2.1 X.2.2.2.2.1.heap) (hbl : b < X.2.2.2.2.1.heap.size) (hbA : ¬ nw_A P b) (i1 : vp_in (x3 + 1) L) (i2 : vp_in (x3 + 2) L) (i3 : vp_in (x3 + 3) L) (i4 : vp_in (x3 + 4) L) (i5 : vp_in (x3 + 5) L) (k : ∀ (s2 : nw_ST), Inv s2 → nl_G P X 4 s2 [(0, .ref b), (1, .ref (P.2.1 0)), (2, .ref (P.2.1 37)), (3, .int x3)] 1356 []) (hS : nl_S13 Inv) {σ : nw_ST} (hI : Inv σ) : nl_G P X 4 σ [(0, .ref b), (1, .ref (P.2.1 0)), (2, .ref (P.2.1 37)), (3, .int x3)] 549 [] := by
  have hf := hS σ hI (xs (x3 + 1).toNatClampNeg) (xs (x3 + 2).toNatClampNeg)
  refine nl_aload_n (pc := 549) h dL_law_549 rfl 1 rfl ?_
  refine nl_aload_n (pc := 550) h dL_law_550 rfl 0 rfl ?_
  refine nl_iload_n (pc := 551) h dL_law_551 rfl 3 rfl ?_
  refine nl_iconst (pc := 552) (v := 1) h dL_law_552 (by decide) ?_
  refine nl_iadd (pc := 553) h dL_law_553 ?_
  refine nl_sld (pc := 554) h hX hbl hbA i1 dL_law_554 ?_
  refine nl_aload_n (pc := 555) h dL_law_555 rfl 0 rfl ?_
  refine nl_iload_n (pc := 556) h dL_law_556 rfl 3 rfl ?_
  refine nl_iconst (pc := 557) (v := 2) h dL_law_557 (by decide) ?_
  refine nl_iadd (pc := 558) h dL_law_558 ?_
  refine nl_sld (pc := 559) h hX hbl hbA i2 dL_law_559 ?_
  refine ll_67 (pc := 560) h hR hf (Nat.le_of_ble_eq_true rfl) dL_law_560 (fun r1 s1 hf => ?_)
  refine nl_aload_n (pc := 563) h dL_law_563 rfl 2 rfl ?_
  refine nl_aload_n (pc := 564) h dL_law_564 rfl 0 rfl ?_
  refine nl_iload_n (pc := 565) h dL_law_565 rfl 3 rfl ?_
  refine nl_iconst (pc := 566) (v := 1) h dL_law_566 (by decide) ?_
  refine nl_iadd (pc := 567) h dL_law_567 ?_
  refine nl_sld (pc := 568) h hX hbl hbA i1 dL_law_568 ?_
  refine nl_aload_n (pc := 569) h dL_law_569 rfl 0 rfl ?_
  refine nl_iload_n (pc := 570) h dL_law_570 rfl 3 rfl ?_
  refine nl_iconst (pc := 571) (v := 2) h dL_law_571 (by decide) ?_
  refine nl_iadd (pc := 572) h dL_law_572 ?_
  refine nl_sld (pc := 573) h hX hbl hbA i2 dL_law_573 ?_
  refine ll_70 (pc := 574) h hR hf (Nat.le_of_ble_eq_true rfl) dL_law_574 (fun r2 s2 hf => ?_)
  refine nl_icmp_eq (pc := 577) (tgt := 1356) h dL_law_577 (by decide) (fun _ => k _ hf.2) (fun z => absurd hf.1 z)
set_option maxHeartbeats 1000000 in
theorem nl_c14 {P : nw_PT} {X : nw_EX} {b L : Nat} {xs : Nat → Int32} {x3 : Int32} {Inv : nw_ST → Prop} (h : nw_ok P X code RL 4) (hR : X.2.2.2.1 = room_1) (hX : va_X b L xs X.2.2.2.2.1 X.2.2.2.2.1.heap) (hbl : b < X.2.2.2.2.1.heap.size) (hbA : ¬ nw_A P b) (i1 : vp_in (x3 + 1) L) (i2 : vp_in (x3 + 2) L) (i3 : vp_in (x3 + 3) L) (i4 : vp_in (x3 + 4) L) (i5 : vp_in (x3 + 5) L) (k : ∀ (s2 : nw_ST), Inv s2 → nl_G P X 4 s2 [(0, .ref b), (1, .ref (P.2.1 0)), (2, .ref (P.2.1 37)), (3, .int x3)] 1356 []) (hS : nl_S14 Inv) {σ : nw_ST} (hI : Inv σ) : nl_G P X 4 σ [(0, .ref b), (1, .ref (P.2.1 0)), (2, .ref (P.2.1 37)), (3, .int x3)] 582 [] := by
  have hf := hS σ hI (xs (x3 + 1).toNatClampNeg)
  refine nl_aload_n (pc := 582) h dL_law_582 rfl 1 rfl ?_
  refine nl_aload_n (pc := 583) h dL_law_583 rfl 0 rfl ?_
  refine nl_iload_n (pc := 584) h dL_law_584 rfl 3 rfl ?_
  refine nl_iconst (pc := 585) (v := 1) h dL_law_585 (by decide) ?_
  refine nl_iadd (pc := 586) h dL_law_586 ?_
  refine nl_sld (pc := 587) h hX hbl hbA i1 dL_law_587 ?_
  refine ll_71 (pc := 588) h hR hf (Nat.le_of_ble_eq_true rfl) dL_law_588 (fun r1 s1 hf => ?_)
  refine nl_aload_n (pc := 591) h dL_law_591 rfl 2 rfl ?_
  refine nl_aload_n (pc := 592) h dL_law_592 rfl 0 rfl ?_
  refine nl_iload_n (pc := 593) h dL_law_593 rfl 3 rfl ?_
  refine nl_iconst (pc := 594) (v := 1) h dL_law_594 (by decide) ?_
  refine nl_iadd (pc := 595) h dL_law_595 ?_
  refine nl_sld (pc := 596) h hX hbl hbA i1 dL_law_596 ?_
  refine ll_74 (pc := 597) h hR hf (Nat.le_of_ble_eq_true rfl) dL_law_597 (fun r2 s2 hf => ?_)
  refine nl_icmp_eq (pc := 600) (tgt := 1356) h dL_law_600 (by decide) (fun _ => k _ hf.2) (fun z => absurd hf.1 z)
set_option maxHeartbeats 1000000 in
theorem nl_c15 {P : nw_PT} {X : nw_EX} {b L : Nat} {xs : Nat → Int32} {x3 : Int32} {Inv : nw_ST → Prop} (h : nw_ok P X code RL 4) (hR : X.2.2.2.1 = room_1) (hX : va_X b L xs X.2.2.2.2.1 X.2.2.2.2.1.heap) (hbl : b < X.2.2.2.2.1.heap.size) (hbA : ¬ nw_A P b) (i1 : vp_in (x3 + 1) L) (i2 : vp_in (x3 + 2) L) (i3 : vp_in (x3 + 3) L) (i4 : vp_in (x3 + 4) L) (i5 : vp_in (x3 + 5) L) (k : ∀ (s2 : nw_ST), Inv s2 → nl_G P X 4 s2 [(0, .ref b), (1, .ref (P.2.1 0)), (2, .ref (P.2.1 37)), (3, .int x3)] 1356 []) (hS : nl_S15 Inv) {σ : nw_ST} (hI : Inv σ) : nl_G P X 4 σ [(0, .ref b), (1, .ref (P.2.1 0)), (2, .ref (P.2.1 37)), (3, .int x3)] 605 [] := by
  have hf := hS σ hI (xs (x3 + 1).toNatClampNeg) (xs (x3 + 2).toNatClampNeg)
  refine nl_aload_n (pc := 605) h dL_law_605 rfl 1 rfl ?_
  refine nl_aload_n (pc := 606) h dL_law_606 rfl 0 rfl ?_
  refine nl_iload_n (pc := 607) h dL_law_607 rfl 3 rfl ?_
  refine nl_iconst (pc := 608) (v := 1) h dL_law_608 (by decide) ?_
  refine nl_iadd (pc := 609) h dL_law_609 ?_
  refine nl_sld (pc := 610) h hX hbl hbA i1 dL_law_610 ?_
  refine nl_aload_n (pc := 611) h dL_law_611 rfl 0 rfl ?_
  refine nl_iload_n (pc := 612) h dL_law_612 rfl 3 rfl ?_
  refine nl_iconst (pc := 613) (v := 2) h dL_law_613 (by decide) ?_
  refine nl_iadd (pc := 614) h dL_law_614 ?_
  refine nl_sld (pc := 615) h hX hbl hbA i2 dL_law_615 ?_
  refine ll_75 (pc := 616) h hR hf (Nat.le_of_ble_eq_true rfl) dL_law_616 (fun r1 s1 hf => ?_)
  refine nl_aload_n (pc := 619) h dL_law_619 rfl 2 rfl ?_
  refine nl_aload_n (pc := 620) h dL_law_620 rfl 0 rfl ?_
  refine nl_iload_n (pc := 621) h dL_law_621 rfl 3 rfl ?_
  refine nl_iconst (pc := 622) (v := 1) h dL_law_622 (by decide) ?_
  refine nl_iadd (pc := 623) h dL_law_623 ?_
  refine nl_sld (pc := 624) h hX hbl hbA i1 dL_law_624 ?_
  refine nl_aload_n (pc := 625) h dL_law_625 rfl 0 rfl ?_
  refine nl_iload_n (pc := 626) h dL_law_626 rfl 3 rfl ?_
  refine nl_iconst (pc := 627) (v := 2) h dL_law_627 (by decide) ?_
  refine nl_iadd (pc := 628) h dL_law_628 ?_
  refine nl_sld (pc := 629) h hX hbl hbA i2 dL_law_629 ?_
  refine ll_78 (pc := 630) h hR hf (Nat.le_of_ble_eq_true rfl) dL_law_630 (fun r2 s2 hf => ?_)
  refine nl_icmp_eq (pc := 633) (tgt := 1356) h dL_law_633 (by decide) (fun _ => k _ hf.2) (fun z => absurd hf.1 z)
set_option maxHeartbeats 1000000 in
theorem nl_c16 {P : nw_PT} {X : nw_EX} {b L : Nat} {xs : Nat → Int32} {x3 : Int32} {Inv : nw_ST → Prop} (h : nw_ok P X code RL 4) (hR : X.2.2.2.1 = room_1) (hX : va_X b L xs X.2.2.2.2.1 X.2.2.2.2.1.heap) (hbl : b < X.2.2.2.2.1.heap.size) (hbA : ¬ nw_A P b) (i1 : vp_in (x3 + 1) L) (i2 : vp_in (x3 + 2) L) (i3 : vp_in (x3 + 3) L) (i4 : vp_in (x3 + 4) L) (i5 : vp_in (x3 + 5) L) (k : ∀ (s2 : nw_ST), Inv s2 → nl_G P X 4 s2 [(0, .ref b), (1, .ref (P.2.1 0)), (2, .ref (P.2.1 37)), (3, .int x3)] 1356 []) (hS : nl_S16 Inv) {σ : nw_ST} (hI : Inv σ) : nl_G P X 4 σ [(0, .ref b), (1, .ref (P.2.1 0)), (2, .ref (P.2.1 37)), (3, .int x3)] 638 [] := by
  have hf := hS σ hI (xs (x3 + 1).toNatClampNeg)
  refine nl_aload_n (pc := 638) h dL_law_638 rfl 1 rfl ?_
  refine nl_aload_n (pc := 639) h dL_law_639 rfl 0 rfl ?_
  refine nl_iload_n (pc := 640) h dL_law_640 rfl 3 rfl ?_
  refine nl_iconst (pc := 641) (v := 1) h dL_law_641 (by decide) ?_
  refine nl_iadd (pc := 642) h dL_law_642 ?_
  refine nl_sld (pc := 643) h hX hbl hbA i1 dL_law_643 ?_
  refine ll_79 (pc := 644) h hR hf (Nat.le_of_ble_eq_true rfl) dL_law_644 (fun r1 s1 hf => ?_)
  refine nl_aload_n (pc := 647) h dL_law_647 rfl 2 rfl ?_
  refine nl_aload_n (pc := 648) h dL_law_648 rfl 0 rfl ?_
  refine nl_iload_n (pc := 649) h dL_law_649 rfl 3 rfl ?_
  refine nl_iconst (pc := 650) (v := 1) h dL_law_650 (by decide) ?_
  refine nl_iadd (pc := 651) h dL_law_651 ?_
  refine nl_sld (pc := 652) h hX hbl hbA i1 dL_law_652 ?_
  refine ll_82 (pc := 653) h hR hf (Nat.le_of_ble_eq_true rfl) dL_law_653 (fun r2 s2 hf => ?_)
  refine nl_icmp_eq (pc := 656) (tgt := 1356) h dL_law_656 (by decide) (fun _ => k _ hf.2) (fun z => absurd hf.1 z)
set_option maxHeartbeats 1000000 in
theorem nl_c17 {P : nw_PT} {X : nw_EX} {b L : Nat} {xs : Nat → Int32} {x3 : Int32} {Inv : nw_ST → Prop} (h : nw_ok P X code RL 4) (hR : X.2.2.2.1 = room_1) (hX : va_X b L xs X.2.2.2.2.1 X.2.2.2.2.1.heap) (hbl : b < X.2.2.2.2.1.heap.size) (hbA : ¬ nw_A P b) (i1 : vp_in (x3 + 1) L) (i2 : vp_in (x3 + 2) L) (i3 : vp_in (x3 + 3) L) (i4 : vp_in (x3 + 4) L) (i5 : vp_in (x3 + 5) L) (k : ∀ (s2 : nw_ST), Inv s2 → nl_G P X 4 s2 [(0, .ref b), (1, .ref (P.2.1 0)), (2, .ref (P.2.1 37)), (3, .int x3)] 1356 []) (hS : nl_S17 Inv) {σ : nw_ST} (hI : Inv σ) : nl_G P X 4 σ [(0, .ref b), (1, .ref (P.2.1 0)), (2, .ref (P.2.1 37)), (3, .int x3)] 661 [] := by
  have hf := hS σ hI (xs (x3 + 1).toNatClampNeg)
  refine nl_aload_n (pc := 661) h dL_law_661 rfl 1 rfl ?_
  refine nl_aload_n (pc := 662) h dL_law_662 rfl 0 rfl ?_
  refine nl_iload_n (pc := 663) h dL_law_663 rfl 3 rfl ?_
  refine nl_iconst (pc := 664) (v := 1) h dL_law_664 (by decide) ?_
  refine nl_iadd (pc := 665) h dL_law_665 ?_
  refine nl_sld (pc := 666) h hX hbl hbA i1 dL_law_666 ?_
  refine ll_83 (pc := 667) h hR hf (Nat.le_of_ble_eq_true rfl) dL_law_667 (fun r1 s1 hf => ?_)
  refine nl_aload_n (pc := 670) h dL_law_670 rfl 2 rfl ?_
  refine nl_aload_n (pc := 671) h dL_law_671 rfl 0 rfl ?_
  refine nl_iload_n (pc := 672) h dL_law_672 rfl 3 rfl ?_
  refine nl_iconst (pc := 673) (v := 1) h dL_law_673 (by decide) ?_
  refine nl_iadd (pc := 674) h dL_law_674 ?_
  refine nl_sld (pc := 675) h hX hbl hbA i1 dL_law_675 ?_
  refine ll_86 (pc := 676) h hR hf (Nat.le_of_ble_eq_true rfl) dL_law_676 (fun r2 s2 hf => ?_)
  refine nl_icmp_eq (pc := 679) (tgt := 1356) h dL_law_679 (by decide) (fun _ => k _ hf.2) (fun z => absurd hf.1 z)
set_option maxHeartbeats 1000000 in
theorem nl_c18 {P : nw_PT} {X : nw_EX} {b L : Nat} {xs : Nat → Int32} {x3 : Int32} {Inv : nw_ST → Prop} (h : nw_ok P X code RL 4) (hR : X.2.2.2.1 = room_1) (hX : va_X b L xs X.2.2.2.2.1 X.2.2.2.2.1.heap) (hbl : b < X.2.2.2.2.1.heap.size) (hbA : ¬ nw_A P b) (i1 : vp_in (x3 + 1) L) (i2 : vp_in (x3 + 2) L) (i3 : vp_in (x3 + 3) L) (i4 : vp_in (x3 + 4) L) (i5 : vp_in (x3 + 5) L) (k : ∀ (s2 : nw_ST), Inv s2 → nl_G P X 4 s2 [(0, .ref b), (1, .ref (P.2.1 0)), (2, .ref (P.2.1 37)), (3, .int x3)] 1356 []) (hS : nl_S18 Inv) {σ : nw_ST} (hI : Inv σ) : nl_G P X 4 σ [(0, .ref b), (1, .ref (P.2.1 0)), (2, .ref (P.2.1 37)), (3, .int x3)] 684 [] := by
  have hf := hS σ hI (xs (x3 + 1).toNatClampNeg)
  refine nl_aload_n (pc := 684) h dL_law_684 rfl 1 rfl ?_
  refine nl_aload_n (pc := 685) h dL_law_685 rfl 0 rfl ?_
  refine nl_iload_n (pc := 686) h dL_law_686 rfl 3 rfl ?_
  refine nl_iconst (pc := 687) (v := 1) h dL_law_687 (by decide) ?_
  refine nl_iadd (pc := 688) h dL_law_688 ?_
  refine nl_sld (pc := 689) h hX hbl hbA i1 dL_law_689 ?_
  refine ll_87 (pc := 690) h hR hf (Nat.le_of_ble_eq_true rfl) dL_law_690 (fun r1 s1 hf => ?_)
  refine nl_aload_n (pc := 693) h dL_law_693 rfl 2 rfl ?_
  refine nl_aload_n (pc := 694) h dL_law_694 rfl 0 rfl ?_
  refine nl_iload_n (pc := 695) h dL_law_695 rfl 3 rfl ?_
  refine nl_iconst (pc := 696) (v := 1) h dL_law_696 (by decide) ?_
  refine nl_iadd (pc := 697) h dL_law_697 ?_
  refine nl_sld (pc := 698) h hX hbl hbA i1 dL_law_698 ?_
  refine ll_90 (pc := 699) h hR hf (Nat.le_of_ble_eq_true rfl) dL_law_699 (fun r2 s2 hf => ?_)
  refine nl_icmp_eq (pc := 702) (tgt := 1356) h dL_law_702 (by decide) (fun _ => k _ hf.2) (fun z => absurd hf.1 z)
set_option maxHeartbeats 1000000 in
theorem nl_c19 {P : nw_PT} {X : nw_EX} {b L : Nat} {xs : Nat → Int32} {x3 : Int32} {Inv : nw_ST → Prop} (h : nw_ok P X code RL 4) (hR : X.2.2.2.1 = room_1) (hX : va_X b L xs X.2.2.2.2.1 X.2.2.2.2.1.heap) (hbl : b < X.2.2.2.2.1.heap.size) (hbA : ¬ nw_A P b) (i1 : vp_in (x3 + 1) L) (i2 : vp_in (x3 + 2) L) (i3 : vp_in (x3 + 3) L) (i4 : vp_in (x3 + 4) L) (i5 : vp_in (x3 + 5) L) (k : ∀ (s2 : nw_ST), Inv s2 → nl_G P X 4 s2 [(0, .ref b), (1, .ref (P.2.1 0)), (2, .ref (P.2.1 37)), (3, .int x3)] 1356 []) (hS : nl_S19 Inv) {σ : nw_ST} (hI : Inv σ) : nl_G P X 4 σ [(0, .ref b), (1, .ref (P.2.1 0)), (2, .ref (P.2.1 37)), (3, .int x3)] 707 [] := by
  have hf := hS σ hI (xs (x3 + 1).toNatClampNeg) (xs (x3 + 2).toNatClampNeg) (xs (x3 + 3).toNatClampNeg) (xs (x3 + 4).toNatClampNeg)
  refine nl_aload_n (pc := 707) h dL_law_707 rfl 1 rfl ?_
  refine nl_aload_n (pc := 708) h dL_law_708 rfl 0 rfl ?_
  refine nl_iload_n (pc := 709) h dL_law_709 rfl 3 rfl ?_
  refine nl_iconst (pc := 710) (v := 1) h dL_law_710 (by decide) ?_
  refine nl_iadd (pc := 711) h dL_law_711 ?_
  refine nl_sld (pc := 712) h hX hbl hbA i1 dL_law_712 ?_
  refine nl_aload_n (pc := 713) h dL_law_713 rfl 0 rfl ?_
  refine nl_iload_n (pc := 714) h dL_law_714 rfl 3 rfl ?_
  refine nl_iconst (pc := 715) (v := 2) h dL_law_715 (by decide) ?_
  refine nl_iadd (pc := 716) h dL_law_716 ?_
  refine nl_sld (pc := 717) h hX hbl hbA i2 dL_law_717 ?_
  refine nl_aload_n (pc := 718) h dL_law_718 rfl 0 rfl ?_
  refine nl_iload_n (pc := 719) h dL_law_719 rfl 3 rfl ?_
  refine nl_iconst (pc := 720) (v := 3) h dL_law_720 (by decide) ?_
  refine nl_iadd (pc := 721) h dL_law_721 ?_
  refine nl_sld (pc := 722) h hX hbl hbA i3 dL_law_722 ?_
  refine nl_aload_n (pc := 723) h dL_law_723 rfl 0 rfl ?_
  refine nl_iload_n (pc := 724) h dL_law_724 rfl 3 rfl ?_
  refine nl_iconst (pc := 725) (v := 4) h dL_law_725 (by decide) ?_
  refine nl_iadd (pc := 726) h dL_law_726 ?_
  refine nl_sld (pc := 727) h hX hbl hbA i4 dL_law_727 ?_
  refine ll_91 (pc := 728) h hR hf (Nat.le_of_ble_eq_true rfl) dL_law_728 (fun r1 s1 hf => ?_)
  refine nl_aload_n (pc := 731) h dL_law_731 rfl 2 rfl ?_
  refine nl_aload_n (pc := 732) h dL_law_732 rfl 0 rfl ?_
  refine nl_iload_n (pc := 733) h dL_law_733 rfl 3 rfl ?_
  refine nl_iconst (pc := 734) (v := 1) h dL_law_734 (by decide) ?_
  refine nl_iadd (pc := 735) h dL_law_735 ?_
  refine nl_sld (pc := 736) h hX hbl hbA i1 dL_law_736 ?_
  refine nl_aload_n (pc := 737) h dL_law_737 rfl 0 rfl ?_
  refine nl_iload_n (pc := 738) h dL_law_738 rfl 3 rfl ?_
  refine nl_iconst (pc := 739) (v := 2) h dL_law_739 (by decide) ?_
  refine nl_iadd (pc := 740) h dL_law_740 ?_
  refine nl_sld (pc := 741) h hX hbl hbA i2 dL_law_741 ?_
  refine nl_aload_n (pc := 742) h dL_law_742 rfl 0 rfl ?_
  refine nl_iload_n (pc := 743) h dL_law_743 rfl 3 rfl ?_
  refine nl_iconst (pc := 744) (v := 3) h dL_law_744 (by decide) ?_
  refine nl_iadd (pc := 745) h dL_law_745 ?_
  refine nl_sld (pc := 746) h hX hbl hbA i3 dL_law_746 ?_
  refine nl_aload_n (pc := 747) h dL_law_747 rfl 0 rfl ?_
  refine nl_iload_n (pc := 748) h dL_law_748 rfl 3 rfl ?_
  refine nl_iconst (pc := 749) (v := 4) h dL_law_749 (by decide) ?_
  refine nl_iadd (pc := 750) h dL_law_750 ?_
  refine nl_sld (pc := 751) h hX hbl hbA i4 dL_law_751 ?_
  refine ll_95 (pc := 752) h hR hf (Nat.le_of_ble_eq_true rfl) dL_law_752 (fun r2 s2 hf => ?_)
  refine nl_icmp_eq (pc := 755) (tgt := 1356) h dL_law_755 (by decide) (fun _ => k _ hf.2) (fun z => absurd hf.1 z)
set_option maxHeartbeats 1000000 in
theorem nl_c20 {P : nw_PT} {X : nw_EX} {b L : Nat} {xs : Nat → Int32} {x3 : Int32} {Inv : nw_ST → Prop} (h : nw_ok P X code RL 4) (hR : X.2.2.2.1 = room_1) (hX : va_X b L xs X.2.2.2.2.1 X.2.2.2.2.1.heap) (hbl : b < X.2.2.2.2.1.heap.size) (hbA : ¬ nw_A P b) (i1 : vp_in (x3 + 1) L) (i2 : vp_in (x3 + 2) L) (i3 : vp_in (x3 + 3) L) (i4 : vp_in (x3 + 4) L) (i5 : vp_in (x3 + 5) L) (k : ∀ (s2 : nw_ST), Inv s2 → nl_G P X 4 s2 [(0, .ref b), (1, .ref (P.2.1 0)), (2, .ref (P.2.1 37)), (3, .int x3)] 1356 []) (hS : nl_S20 Inv) {σ : nw_ST} (hI : Inv σ) : nl_G P X 4 σ [(0, .ref b), (1, .ref (P.2.1 0)), (2, .ref (P.2.1 37)), (3, .int x3)] 760 [] := by
  have hf := hS σ hI (xs (x3 + 1).toNatClampNeg) (xs (x3 + 2).toNatClampNeg)
  refine nl_aload_n (pc := 760) h dL_law_760 rfl 1 rfl ?_
  refine nl_aload_n (pc := 761) h dL_law_761 rfl 0 rfl ?_
  refine nl_iload_n (pc := 762) h dL_law_762 rfl 3 rfl ?_
  refine nl_iconst (pc := 763) (v := 1) h dL_law_763 (by decide) ?_
  refine nl_iadd (pc := 764) h dL_law_764 ?_
  refine nl_sld (pc := 765) h hX hbl hbA i1 dL_law_765 ?_
  refine nl_aload_n (pc := 766) h dL_law_766 rfl 0 rfl ?_
  refine nl_iload_n (pc := 767) h dL_law_767 rfl 3 rfl ?_
  refine nl_iconst (pc := 768) (v := 2) h dL_law_768 (by decide) ?_
  refine nl_iadd (pc := 769) h dL_law_769 ?_
  refine nl_sld (pc := 770) h hX hbl hbA i2 dL_law_770 ?_
  refine ll_96 (pc := 771) h hR hf (Nat.le_of_ble_eq_true rfl) dL_law_771 (fun r1 s1 hf => ?_)
  refine nl_aload_n (pc := 774) h dL_law_774 rfl 2 rfl ?_
  refine nl_aload_n (pc := 775) h dL_law_775 rfl 0 rfl ?_
  refine nl_iload_n (pc := 776) h dL_law_776 rfl 3 rfl ?_
  refine nl_iconst (pc := 777) (v := 1) h dL_law_777 (by decide) ?_
  refine nl_iadd (pc := 778) h dL_law_778 ?_
  refine nl_sld (pc := 779) h hX hbl hbA i1 dL_law_779 ?_
  refine nl_aload_n (pc := 780) h dL_law_780 rfl 0 rfl ?_
  refine nl_iload_n (pc := 781) h dL_law_781 rfl 3 rfl ?_
  refine nl_iconst (pc := 782) (v := 2) h dL_law_782 (by decide) ?_
  refine nl_iadd (pc := 783) h dL_law_783 ?_
  refine nl_sld (pc := 784) h hX hbl hbA i2 dL_law_784 ?_
  refine ll_99 (pc := 785) h hR hf (Nat.le_of_ble_eq_true rfl) dL_law_785 (fun r2 s2 hf => ?_)
  refine nl_icmp_eq (pc := 788) (tgt := 1356) h dL_law_788 (by decide) (fun _ => k _ hf.2) (fun z => absurd hf.1 z)
set_option maxHeartbeats 1000000 in
theorem nl_c21 {P : nw_PT} {X : nw_EX} {b L : Nat} {xs : Nat → Int32} {x3 : Int32} {Inv : nw_ST → Prop} (h : nw_ok P X code RL 4) (hR : X.2.2.2.1 = room_1) (hX : va_X b L xs X.2.2.2.2.1 X.2.2.2.2.1.heap) (hbl : b < X.2.2.2.2.1.heap.size) (hbA : ¬ nw_A P b) (i1 : vp_in (x3 + 1) L) (i2 : vp_in (x3 + 2) L) (i3 : vp_in (x3 + 3) L) (i4 : vp_in (x3 + 4) L) (i5 : vp_in (x3 + 5) L) (k : ∀ (s2 : nw_ST), Inv s2 → nl_G P X 4 s2 [(0, .ref b), (1, .ref (P.2.1 0)), (2, .ref (P.2.1 37)), (3, .int x3)] 1356 []) (hS : nl_S21 Inv) {σ : nw_ST} (hI : Inv σ) : nl_G P X 4 σ [(0, .ref b), (1, .ref (P.2.1 0)), (2, .ref (P.2.1 37)), (3, .int x3)] 793 [] := by
  have hf := hS σ hI (xs (x3 + 1).toNatClampNeg)
  refine nl_aload_n (pc := 793) h dL_law_793 rfl 1 rfl ?_
  refine nl_aload_n (pc := 794) h dL_law_794 rfl 0 rfl ?_
  refine nl_iload_n (pc := 795) h dL_law_795 rfl 3 rfl ?_
  refine nl_iconst (pc := 796) (v := 1) h dL_law_796 (by decide) ?_
  refine nl_iadd (pc := 797) h dL_law_797 ?_
  refine nl_sld (pc := 798) h hX hbl hbA i1 dL_law_798 ?_
  refine ll_100 (pc := 799) h hR hf (Nat.le_of_ble_eq_true rfl) dL_law_799 (fun r1 s1 hf => ?_)
  refine nl_aload_n (pc := 802) h dL_law_802 rfl 2 rfl ?_
  refine nl_aload_n (pc := 803) h dL_law_803 rfl 0 rfl ?_
  refine nl_iload_n (pc := 804) h dL_law_804 rfl 3 rfl ?_
  refine nl_iconst (pc := 805) (v := 1) h dL_law_805 (by decide) ?_
  refine nl_iadd (pc := 806) h dL_law_806 ?_
  refine nl_sld (pc := 807) h hX hbl hbA i1 dL_law_807 ?_
  refine ll_103 (pc := 808) h hR hf (Nat.le_of_ble_eq_true rfl) dL_law_808 (fun r2 s2 hf => ?_)
  refine nl_icmp_eq (pc := 811) (tgt := 1356) h dL_law_811 (by decide) (fun _ => k _ hf.2) (fun z => absurd hf.1 z)
set_option maxHeartbeats 1000000 in
theorem nl_c22 {P : nw_PT} {X : nw_EX} {b L : Nat} {xs : Nat → Int32} {x3 : Int32} {Inv : nw_ST → Prop} (h : nw_ok P X code RL 4) (hR : X.2.2.2.1 = room_1) (hX : va_X b L xs X.2.2.2.2.1 X.2.2.2.2.1.heap) (hbl : b < X.2.2.2.2.1.heap.size) (hbA : ¬ nw_A P b) (i1 : vp_in (x3 + 1) L) (i2 : vp_in (x3 + 2) L) (i3 : vp_in (x3 + 3) L) (i4 : vp_in (x3 + 4) L) (i5 : vp_in (x3 + 5) L) (k : ∀ (s2 : nw_ST), Inv s2 → nl_G P X 4 s2 [(0, .ref b), (1, .ref (P.2.1 0)), (2, .ref (P.2.1 37)), (3, .int x3)] 1356 []) (hS : nl_S22 Inv) {σ : nw_ST} (hI : Inv σ) : nl_G P X 4 σ [(0, .ref b), (1, .ref (P.2.1 0)), (2, .ref (P.2.1 37)), (3, .int x3)] 816 [] := by
  have hf := hS σ hI (xs (x3 + 1).toNatClampNeg) (xs (x3 + 2).toNatClampNeg)
  refine nl_aload_n (pc := 816) h dL_law_816 rfl 1 rfl ?_
  refine nl_aload_n (pc := 817) h dL_law_817 rfl 0 rfl ?_
  refine nl_iload_n (pc := 818) h dL_law_818 rfl 3 rfl ?_
  refine nl_iconst (pc := 819) (v := 1) h dL_law_819 (by decide) ?_
  refine nl_iadd (pc := 820) h dL_law_820 ?_
  refine nl_sld (pc := 821) h hX hbl hbA i1 dL_law_821 ?_
  refine nl_aload_n (pc := 822) h dL_law_822 rfl 0 rfl ?_
  refine nl_iload_n (pc := 823) h dL_law_823 rfl 3 rfl ?_
  refine nl_iconst (pc := 824) (v := 2) h dL_law_824 (by decide) ?_
  refine nl_iadd (pc := 825) h dL_law_825 ?_
  refine nl_sld (pc := 826) h hX hbl hbA i2 dL_law_826 ?_
  refine ll_104 (pc := 827) h hR hf (Nat.le_of_ble_eq_true rfl) dL_law_827 (fun r1 s1 hf => ?_)
  refine nl_aload_n (pc := 830) h dL_law_830 rfl 2 rfl ?_
  refine nl_aload_n (pc := 831) h dL_law_831 rfl 0 rfl ?_
  refine nl_iload_n (pc := 832) h dL_law_832 rfl 3 rfl ?_
  refine nl_iconst (pc := 833) (v := 1) h dL_law_833 (by decide) ?_
  refine nl_iadd (pc := 834) h dL_law_834 ?_
  refine nl_sld (pc := 835) h hX hbl hbA i1 dL_law_835 ?_
  refine nl_aload_n (pc := 836) h dL_law_836 rfl 0 rfl ?_
  refine nl_iload_n (pc := 837) h dL_law_837 rfl 3 rfl ?_
  refine nl_iconst (pc := 838) (v := 2) h dL_law_838 (by decide) ?_
  refine nl_iadd (pc := 839) h dL_law_839 ?_
  refine nl_sld (pc := 840) h hX hbl hbA i2 dL_law_840 ?_
  refine ll_107 (pc := 841) h hR hf (Nat.le_of_ble_eq_true rfl) dL_law_841 (fun r2 s2 hf => ?_)
  refine nl_icmp_eq (pc := 844) (tgt := 1356) h dL_law_844 (by decide) (fun _ => k _ hf.2) (fun z => absurd hf.1 z)
set_option maxHeartbeats 1000000 in
theorem nl_c23 {P : nw_PT} {X : nw_EX} {b L : Nat} {xs : Nat → Int32} {x3 : Int32} {Inv : nw_ST → Prop} (h : nw_ok P X code RL 4) (hR : X.2.2.2.1 = room_1) (hX : va_X b L xs X.2.2.2.2.1 X.2.2.2.2.1.heap) (hbl : b < X.2.2.2.2.1.heap.size) (hbA : ¬ nw_A P b) (i1 : vp_in (x3 + 1) L) (i2 : vp_in (x3 + 2) L) (i3 : vp_in (x3 + 3) L) (i4 : vp_in (x3 + 4) L) (i5 : vp_in (x3 + 5) L) (k : ∀ (s2 : nw_ST), Inv s2 → nl_G P X 4 s2 [(0, .ref b), (1, .ref (P.2.1 0)), (2, .ref (P.2.1 37)), (3, .int x3)] 1356 []) (hS : nl_S23 Inv) {σ : nw_ST} (hI : Inv σ) : nl_G P X 4 σ [(0, .ref b), (1, .ref (P.2.1 0)), (2, .ref (P.2.1 37)), (3, .int x3)] 849 [] := by
  have hf := hS σ hI (xs (x3 + 1).toNatClampNeg) (xs (x3 + 2).toNatClampNeg)
  refine nl_aload_n (pc := 849) h dL_law_849 rfl 1 rfl ?_
  refine nl_aload_n (pc := 850) h dL_law_850 rfl 0 rfl ?_
  refine nl_iload_n (pc := 851) h dL_law_851 rfl 3 rfl ?_
  refine nl_iconst (pc := 852) (v := 1) h dL_law_852 (by decide) ?_
  refine nl_iadd (pc := 853) h dL_law_853 ?_
  refine nl_sld (pc := 854) h hX hbl hbA i1 dL_law_854 ?_
  refine nl_aload_n (pc := 855) h dL_law_855 rfl 0 rfl ?_
  refine nl_iload_n (pc := 856) h dL_law_856 rfl 3 rfl ?_
  refine nl_iconst (pc := 857) (v := 2) h dL_law_857 (by decide) ?_
  refine nl_iadd (pc := 858) h dL_law_858 ?_
  refine nl_sld (pc := 859) h hX hbl hbA i2 dL_law_859 ?_
  refine ll_108 (pc := 860) h hR hf (Nat.le_of_ble_eq_true rfl) dL_law_860 (fun r1 s1 hf => ?_)
  refine nl_aload_n (pc := 863) h dL_law_863 rfl 2 rfl ?_
  refine nl_aload_n (pc := 864) h dL_law_864 rfl 0 rfl ?_
  refine nl_iload_n (pc := 865) h dL_law_865 rfl 3 rfl ?_
  refine nl_iconst (pc := 866) (v := 1) h dL_law_866 (by decide) ?_
  refine nl_iadd (pc := 867) h dL_law_867 ?_
  refine nl_sld (pc := 868) h hX hbl hbA i1 dL_law_868 ?_
  refine nl_aload_n (pc := 869) h dL_law_869 rfl 0 rfl ?_
  refine nl_iload_n (pc := 870) h dL_law_870 rfl 3 rfl ?_
  refine nl_iconst (pc := 871) (v := 2) h dL_law_871 (by decide) ?_
  refine nl_iadd (pc := 872) h dL_law_872 ?_
  refine nl_sld (pc := 873) h hX hbl hbA i2 dL_law_873 ?_
  refine ll_111 (pc := 874) h hR hf (Nat.le_of_ble_eq_true rfl) dL_law_874 (fun r2 s2 hf => ?_)
  refine nl_icmp_eq (pc := 877) (tgt := 1356) h dL_law_877 (by decide) (fun _ => k _ hf.2) (fun z => absurd hf.1 z)
set_option maxHeartbeats 1000000 in
theorem nl_c24 {P : nw_PT} {X : nw_EX} {b L : Nat} {xs : Nat → Int32} {x3 : Int32} {Inv : nw_ST → Prop} (h : nw_ok P X code RL 4) (hR : X.2.2.2.1 = room_1) (hX : va_X b L xs X.2.2.2.2.1 X.2.2.2.2.1.heap) (hbl : b < X.2.2.2.2.1.heap.size) (hbA : ¬ nw_A P b) (i1 : vp_in (x3 + 1) L) (i2 : vp_in (x3 + 2) L) (i3 : vp_in (x3 + 3) L) (i4 : vp_in (x3 + 4) L) (i5 : vp_in (x3 + 5) L) (k : ∀ (s2 : nw_ST), Inv s2 → nl_G P X 4 s2 [(0, .ref b), (1, .ref (P.2.1 0)), (2, .ref (P.2.1 37)), (3, .int x3)] 1356 []) (hS : nl_S24 Inv) {σ : nw_ST} (hI : Inv σ) : nl_G P X 4 σ [(0, .ref b), (1, .ref (P.2.1 0)), (2, .ref (P.2.1 37)), (3, .int x3)] 882 [] := by
  have hf := hS σ hI 
  refine nl_aload_n (pc := 882) h dL_law_882 rfl 1 rfl ?_
  refine ll_112 (pc := 883) h hR hf (Nat.le_of_ble_eq_true rfl) dL_law_883 (fun r1 s1 hf => ?_)
  refine nl_aload_n (pc := 886) h dL_law_886 rfl 2 rfl ?_
  refine ll_116 (pc := 887) h hR hf (Nat.le_of_ble_eq_true rfl) dL_law_887 (fun r2 s2 hf => ?_)
  refine nl_icmp_eq (pc := 890) (tgt := 1356) h dL_law_890 (by decide) (fun _ => k _ hf.2) (fun z => absurd hf.1 z)
set_option maxHeartbeats 1000000 in
theorem nl_c25 {P : nw_PT} {X : nw_EX} {b L : Nat} {xs : Nat → Int32} {x3 : Int32} {Inv : nw_ST → Prop} (h : nw_ok P X code RL 4) (hR : X.2.2.2.1 = room_1) (hX : va_X b L xs X.2.2.2.2.1 X.2.2.2.2.1.heap) (hbl : b < X.2.2.2.2.1.heap.size) (hbA : ¬ nw_A P b) (i1 : vp_in (x3 + 1) L) (i2 : vp_in (x3 + 2) L) (i3 : vp_in (x3 + 3) L) (i4 : vp_in (x3 + 4) L) (i5 : vp_in (x3 + 5) L) (k : ∀ (s2 : nw_ST), Inv s2 → nl_G P X 4 s2 [(0, .ref b), (1, .ref (P.2.1 0)), (2, .ref (P.2.1 37)), (3, .int x3)] 1356 []) (hS : nl_S25 Inv) {σ : nw_ST} (hI : Inv σ) : nl_G P X 4 σ [(0, .ref b), (1, .ref (P.2.1 0)), (2, .ref (P.2.1 37)), (3, .int x3)] 895 [] := by
  have hf := hS σ hI (xs (x3 + 1).toNatClampNeg)
  refine nl_aload_n (pc := 895) h dL_law_895 rfl 1 rfl ?_
  refine nl_aload_n (pc := 896) h dL_law_896 rfl 0 rfl ?_
  refine nl_iload_n (pc := 897) h dL_law_897 rfl 3 rfl ?_
  refine nl_iconst (pc := 898) (v := 1) h dL_law_898 (by decide) ?_
  refine nl_iadd (pc := 899) h dL_law_899 ?_
  refine nl_sld (pc := 900) h hX hbl hbA i1 dL_law_900 ?_
  refine ll_117 (pc := 901) h hR hf (Nat.le_of_ble_eq_true rfl) dL_law_901 (fun r1 s1 hf => ?_)
  refine nl_aload_n (pc := 904) h dL_law_904 rfl 2 rfl ?_
  refine nl_aload_n (pc := 905) h dL_law_905 rfl 0 rfl ?_
  refine nl_iload_n (pc := 906) h dL_law_906 rfl 3 rfl ?_
  refine nl_iconst (pc := 907) (v := 1) h dL_law_907 (by decide) ?_
  refine nl_iadd (pc := 908) h dL_law_908 ?_
  refine nl_sld (pc := 909) h hX hbl hbA i1 dL_law_909 ?_
  refine ll_120 (pc := 910) h hR hf (Nat.le_of_ble_eq_true rfl) dL_law_910 (fun r2 s2 hf => ?_)
  refine nl_icmp_eq (pc := 913) (tgt := 1356) h dL_law_913 (by decide) (fun _ => k _ hf.2) (fun z => absurd hf.1 z)
set_option maxHeartbeats 1000000 in
theorem nl_c26 {P : nw_PT} {X : nw_EX} {b L : Nat} {xs : Nat → Int32} {x3 : Int32} {Inv : nw_ST → Prop} (h : nw_ok P X code RL 4) (hR : X.2.2.2.1 = room_1) (hX : va_X b L xs X.2.2.2.2.1 X.2.2.2.2.1.heap) (hbl : b < X.2.2.2.2.1.heap.size) (hbA : ¬ nw_A P b) (i1 : vp_in (x3 + 1) L) (i2 : vp_in (x3 + 2) L) (i3 : vp_in (x3 + 3) L) (i4 : vp_in (x3 + 4) L) (i5 : vp_in (x3 + 5) L) (k : ∀ (s2 : nw_ST), Inv s2 → nl_G P X 4 s2 [(0, .ref b), (1, .ref (P.2.1 0)), (2, .ref (P.2.1 37)), (3, .int x3)] 1356 []) (hS : nl_S26 Inv) {σ : nw_ST} (hI : Inv σ) : nl_G P X 4 σ [(0, .ref b), (1, .ref (P.2.1 0)), (2, .ref (P.2.1 37)), (3, .int x3)] 918 [] := by
  have hf := hS σ hI (xs (x3 + 1).toNatClampNeg)
  refine nl_aload_n (pc := 918) h dL_law_918 rfl 1 rfl ?_
  refine nl_aload_n (pc := 919) h dL_law_919 rfl 0 rfl ?_
  refine nl_iload_n (pc := 920) h dL_law_920 rfl 3 rfl ?_
  refine nl_iconst (pc := 921) (v := 1) h dL_law_921 (by decide) ?_
  refine nl_iadd (pc := 922) h dL_law_922 ?_
  refine nl_sld (pc := 923) h hX hbl hbA i1 dL_law_923 ?_
  refine ll_121 (pc := 924) h hR hf (Nat.le_of_ble_eq_true rfl) dL_law_924 (fun r1 s1 hf => ?_)
  refine nl_aload_n (pc := 927) h dL_law_927 rfl 2 rfl ?_
  refine nl_aload_n (pc := 928) h dL_law_928 rfl 0 rfl ?_
  refine nl_iload_n (pc := 929) h dL_law_929 rfl 3 rfl ?_
  refine nl_iconst (pc := 930) (v := 1) h dL_law_930 (by decide) ?_
  refine nl_iadd (pc := 931) h dL_law_931 ?_
  refine nl_sld (pc := 932) h hX hbl hbA i1 dL_law_932 ?_
  refine ll_124 (pc := 933) h hR hf (Nat.le_of_ble_eq_true rfl) dL_law_933 (fun r2 s2 hf => ?_)
  refine nl_icmp_eq (pc := 936) (tgt := 1356) h dL_law_936 (by decide) (fun _ => k _ hf.2) (fun z => absurd hf.1 z)
set_option maxHeartbeats 1000000 in
theorem nl_c27 {P : nw_PT} {X : nw_EX} {b L : Nat} {xs : Nat → Int32} {x3 : Int32} {Inv : nw_ST → Prop} (h : nw_ok P X code RL 4) (hR : X.2.2.2.1 = room_1) (hX : va_X b L xs X.2.2.2.2.1 X.2.2.2.2.1.heap) (hbl : b < X.2.2.2.2.1.heap.size) (hbA : ¬ nw_A P b) (i1 : vp_in (x3 + 1) L) (i2 : vp_in (x3 + 2) L) (i3 : vp_in (x3 + 3) L) (i4 : vp_in (x3 + 4) L) (i5 : vp_in (x3 + 5) L) (k : ∀ (s2 : nw_ST), Inv s2 → nl_G P X 4 s2 [(0, .ref b), (1, .ref (P.2.1 0)), (2, .ref (P.2.1 37)), (3, .int x3)] 1356 []) (hS : nl_S27 Inv) {σ : nw_ST} (hI : Inv σ) : nl_G P X 4 σ [(0, .ref b), (1, .ref (P.2.1 0)), (2, .ref (P.2.1 37)), (3, .int x3)] 941 [] := by
  have hf := hS σ hI (xs (x3 + 1).toNatClampNeg) (xs (x3 + 2).toNatClampNeg)
  refine nl_aload_n (pc := 941) h dL_law_941 rfl 1 rfl ?_
  refine nl_aload_n (pc := 942) h dL_law_942 rfl 0 rfl ?_
  refine nl_iload_n (pc := 943) h dL_law_943 rfl 3 rfl ?_
  refine nl_iconst (pc := 944) (v := 1) h dL_law_944 (by decide) ?_
  refine nl_iadd (pc := 945) h dL_law_945 ?_
  refine nl_sld (pc := 946) h hX hbl hbA i1 dL_law_946 ?_
  refine nl_aload_n (pc := 947) h dL_law_947 rfl 0 rfl ?_
  refine nl_iload_n (pc := 948) h dL_law_948 rfl 3 rfl ?_
  refine nl_iconst (pc := 949) (v := 2) h dL_law_949 (by decide) ?_
  refine nl_iadd (pc := 950) h dL_law_950 ?_
  refine nl_sld (pc := 951) h hX hbl hbA i2 dL_law_951 ?_
  refine ll_125 (pc := 952) h hR hf (Nat.le_of_ble_eq_true rfl) dL_law_952 (fun r1 s1 hf => ?_)
  refine nl_aload_n (pc := 955) h dL_law_955 rfl 2 rfl ?_
  refine nl_aload_n (pc := 956) h dL_law_956 rfl 0 rfl ?_
  refine nl_iload_n (pc := 957) h dL_law_957 rfl 3 rfl ?_
  refine nl_iconst (pc := 958) (v := 1) h dL_law_958 (by decide) ?_
  refine nl_iadd (pc := 959) h dL_law_959 ?_
  refine nl_sld (pc := 960) h hX hbl hbA i1 dL_law_960 ?_
  refine nl_aload_n (pc := 961) h dL_law_961 rfl 0 rfl ?_
  refine nl_iload_n (pc := 962) h dL_law_962 rfl 3 rfl ?_
  refine nl_iconst (pc := 963) (v := 2) h dL_law_963 (by decide) ?_
  refine nl_iadd (pc := 964) h dL_law_964 ?_
  refine nl_sld (pc := 965) h hX hbl hbA i2 dL_law_965 ?_
  refine ll_128 (pc := 966) h hR hf (Nat.le_of_ble_eq_true rfl) dL_law_966 (fun r2 s2 hf => ?_)
  refine nl_icmp_eq (pc := 969) (tgt := 1356) h dL_law_969 (by decide) (fun _ => k _ hf.2) (fun z => absurd hf.1 z)
set_option maxHeartbeats 1000000 in
theorem nl_c28 {P : nw_PT} {X : nw_EX} {b L : Nat} {xs : Nat → Int32} {x3 : Int32} {Inv : nw_ST → Prop} (h : nw_ok P X code RL 4) (hR : X.2.2.2.1 = room_1) (hX : va_X b L xs X.2.2.2.2.1 X.2.2.2.2.1.heap) (hbl : b < X.2.2.2.2.1.heap.size) (hbA : ¬ nw_A P b) (i1 : vp_in (x3 + 1) L) (i2 : vp_in (x3 + 2) L) (i3 : vp_in (x3 + 3) L) (i4 : vp_in (x3 + 4) L) (i5 : vp_in (x3 + 5) L) (k : ∀ (s2 : nw_ST), Inv s2 → nl_G P X 4 s2 [(0, .ref b), (1, .ref (P.2.1 0)), (2, .ref (P.2.1 37)), (3, .int x3)] 1356 []) (hS : nl_S28 Inv) {σ : nw_ST} (hI : Inv σ) : nl_G P X 4 σ [(0, .ref b), (1, .ref (P.2.1 0)), (2, .ref (P.2.1 37)), (3, .int x3)] 974 [] := by
  have hf := hS σ hI (xs (x3 + 1).toNatClampNeg) (xs (x3 + 2).toNatClampNeg) (xs (x3 + 3).toNatClampNeg)
  refine nl_aload_n (pc := 974) h dL_law_974 rfl 1 rfl ?_
  refine nl_aload_n (pc := 975) h dL_law_975 rfl 0 rfl ?_
  refine nl_iload_n (pc := 976) h dL_law_976 rfl 3 rfl ?_
  refine nl_iconst (pc := 977) (v := 1) h dL_law_977 (by decide) ?_
  refine nl_iadd (pc := 978) h dL_law_978 ?_
  refine nl_sld (pc := 979) h hX hbl hbA i1 dL_law_979 ?_
  refine nl_aload_n (pc := 980) h dL_law_980 rfl 0 rfl ?_
  refine nl_iload_n (pc := 981) h dL_law_981 rfl 3 rfl ?_
  refine nl_iconst (pc := 982) (v := 2) h dL_law_982 (by decide) ?_
  refine nl_iadd (pc := 983) h dL_law_983 ?_
  refine nl_sld (pc := 984) h hX hbl hbA i2 dL_law_984 ?_
  refine nl_aload_n (pc := 985) h dL_law_985 rfl 0 rfl ?_
  refine nl_iload_n (pc := 986) h dL_law_986 rfl 3 rfl ?_
  refine nl_iconst (pc := 987) (v := 3) h dL_law_987 (by decide) ?_
  refine nl_iadd (pc := 988) h dL_law_988 ?_
  refine nl_sld (pc := 989) h hX hbl hbA i3 dL_law_989 ?_
  refine ll_129 (pc := 990) h hR hf (Nat.le_of_ble_eq_true rfl) dL_law_990 (fun r1 s1 hf => ?_)
  refine nl_aload_n (pc := 993) h dL_law_993 rfl 2 rfl ?_
  refine nl_aload_n (pc := 994) h dL_law_994 rfl 0 rfl ?_
  refine nl_iload_n (pc := 995) h dL_law_995 rfl 3 rfl ?_
  refine nl_iconst (pc := 996) (v := 1) h dL_law_996 (by decide) ?_
  refine nl_iadd (pc := 997) h dL_law_997 ?_
  refine nl_sld (pc := 998) h hX hbl hbA i1 dL_law_998 ?_
  refine nl_aload_n (pc := 999) h dL_law_999 rfl 0 rfl ?_
  refine nl_iload_n (pc := 1000) h dL_law_1000 rfl 3 rfl ?_
  refine nl_iconst (pc := 1001) (v := 2) h dL_law_1001 (by decide) ?_
  refine nl_iadd (pc := 1002) h dL_law_1002 ?_
  refine nl_sld (pc := 1003) h hX hbl hbA i2 dL_law_1003 ?_
  refine nl_aload_n (pc := 1004) h dL_law_1004 rfl 0 rfl ?_
  refine nl_iload_n (pc := 1005) h dL_law_1005 rfl 3 rfl ?_
  refine nl_iconst (pc := 1006) (v := 3) h dL_law_1006 (by decide) ?_
  refine nl_iadd (pc := 1007) h dL_law_1007 ?_
  refine nl_sld (pc := 1008) h hX hbl hbA i3 dL_law_1008 ?_
  refine ll_133 (pc := 1009) h hR hf (Nat.le_of_ble_eq_true rfl) dL_law_1009 (fun r2 s2 hf => ?_)
  refine nl_lcmp (pc := 1012) h dL_law_1012 ?_
  refine nl_if_eq (pc := 1013) (tgt := 1356) h dL_law_1013 (by decide) (fun _ => k _ hf.2) (fun z => absurd (by rw [hf.1]; exact nl_cmp _) z)
set_option maxHeartbeats 1000000 in
theorem nl_c29 {P : nw_PT} {X : nw_EX} {b L : Nat} {xs : Nat → Int32} {x3 : Int32} {Inv : nw_ST → Prop} (h : nw_ok P X code RL 4) (hR : X.2.2.2.1 = room_1) (hX : va_X b L xs X.2.2.2.2.1 X.2.2.2.2.1.heap) (hbl : b < X.2.2.2.2.1.heap.size) (hbA : ¬ nw_A P b) (i1 : vp_in (x3 + 1) L) (i2 : vp_in (x3 + 2) L) (i3 : vp_in (x3 + 3) L) (i4 : vp_in (x3 + 4) L) (i5 : vp_in (x3 + 5) L) (k : ∀ (s2 : nw_ST), Inv s2 → nl_G P X 4 s2 [(0, .ref b), (1, .ref (P.2.1 0)), (2, .ref (P.2.1 37)), (3, .int x3)] 1356 []) (hS : nl_S29 Inv) {σ : nw_ST} (hI : Inv σ) : nl_G P X 4 σ [(0, .ref b), (1, .ref (P.2.1 0)), (2, .ref (P.2.1 37)), (3, .int x3)] 1018 [] := by
  have hf := hS σ hI (xs (x3 + 1).toNatClampNeg) (xs (x3 + 2).toNatClampNeg) (xs (x3 + 3).toNatClampNeg)
  refine nl_aload_n (pc := 1018) h dL_law_1018 rfl 1 rfl ?_
  refine nl_aload_n (pc := 1019) h dL_law_1019 rfl 0 rfl ?_
  refine nl_iload_n (pc := 1020) h dL_law_1020 rfl 3 rfl ?_
  refine nl_iconst (pc := 1021) (v := 1) h dL_law_1021 (by decide) ?_
  refine nl_iadd (pc := 1022) h dL_law_1022 ?_
  refine nl_sld (pc := 1023) h hX hbl hbA i1 dL_law_1023 ?_
  refine nl_aload_n (pc := 1024) h dL_law_1024 rfl 0 rfl ?_
  refine nl_iload_n (pc := 1025) h dL_law_1025 rfl 3 rfl ?_
  refine nl_iconst (pc := 1026) (v := 2) h dL_law_1026 (by decide) ?_
  refine nl_iadd (pc := 1027) h dL_law_1027 ?_
  refine nl_sld (pc := 1028) h hX hbl hbA i2 dL_law_1028 ?_
  refine nl_aload_n (pc := 1029) h dL_law_1029 rfl 0 rfl ?_
  refine nl_iload_n (pc := 1030) h dL_law_1030 rfl 3 rfl ?_
  refine nl_iconst (pc := 1031) (v := 3) h dL_law_1031 (by decide) ?_
  refine nl_iadd (pc := 1032) h dL_law_1032 ?_
  refine nl_sld (pc := 1033) h hX hbl hbA i3 dL_law_1033 ?_
  refine ll_134 (pc := 1034) h hR hf (Nat.le_of_ble_eq_true rfl) dL_law_1034 (fun r1 s1 hf => ?_)
  refine nl_aload_n (pc := 1037) h dL_law_1037 rfl 2 rfl ?_
  refine nl_aload_n (pc := 1038) h dL_law_1038 rfl 0 rfl ?_
  refine nl_iload_n (pc := 1039) h dL_law_1039 rfl 3 rfl ?_
  refine nl_iconst (pc := 1040) (v := 1) h dL_law_1040 (by decide) ?_
  refine nl_iadd (pc := 1041) h dL_law_1041 ?_
  refine nl_sld (pc := 1042) h hX hbl hbA i1 dL_law_1042 ?_
  refine nl_aload_n (pc := 1043) h dL_law_1043 rfl 0 rfl ?_
  refine nl_iload_n (pc := 1044) h dL_law_1044 rfl 3 rfl ?_
  refine nl_iconst (pc := 1045) (v := 2) h dL_law_1045 (by decide) ?_
  refine nl_iadd (pc := 1046) h dL_law_1046 ?_
  refine nl_sld (pc := 1047) h hX hbl hbA i2 dL_law_1047 ?_
  refine nl_aload_n (pc := 1048) h dL_law_1048 rfl 0 rfl ?_
  refine nl_iload_n (pc := 1049) h dL_law_1049 rfl 3 rfl ?_
  refine nl_iconst (pc := 1050) (v := 3) h dL_law_1050 (by decide) ?_
  refine nl_iadd (pc := 1051) h dL_law_1051 ?_
  refine nl_sld (pc := 1052) h hX hbl hbA i3 dL_law_1052 ?_
  refine ll_138 (pc := 1053) h hR hf (Nat.le_of_ble_eq_true rfl) dL_law_1053 (fun r2 s2 hf => ?_)
  refine nl_icmp_eq (pc := 1056) (tgt := 1356) h dL_law_1056 (by decide) (fun _ => k _ hf.2) (fun z => absurd hf.1 z)
set_option maxHeartbeats 1000000 in
theorem nl_c30 {P : nw_PT} {X : nw_EX} {b L : Nat} {xs : Nat → Int32} {x3 : Int32} {Inv : nw_ST → Prop} (h : nw_ok P X code RL 4) (hR : X.2.2.2.1 = room_1) (hX : va_X b L xs X.2.2.2.2.1 X.2.2.2.2.1.heap) (hbl : b < X.2.2.2.2.1.heap.size) (hbA : ¬ nw_A P b) (i1 : vp_in (x3 + 1) L) (i2 : vp_in (x3 + 2) L) (i3 : vp_in (x3 + 3) L) (i4 : vp_in (x3 + 4) L) (i5 : vp_in (x3 + 5) L) (k : ∀ (s2 : nw_ST), Inv s2 → nl_G P X 4 s2 [(0, .ref b), (1, .ref (P.2.1 0)), (2, .ref (P.2.1 37)), (3, .int x3)] 1356 []) (hS : nl_S30 Inv) {σ : nw_ST} (hI : Inv σ) : nl_G P X 4 σ [(0, .ref b), (1, .ref (P.2.1 0)), (2, .ref (P.2.1 37)), (3, .int x3)] 1061 [] := by
  have hf := hS σ hI (xs (x3 + 1).toNatClampNeg) (xs (x3 + 2).toNatClampNeg) (xs (x3 + 3).toNatClampNeg)
  refine nl_aload_n (pc := 1061) h dL_law_1061 rfl 1 rfl ?_
  refine nl_aload_n (pc := 1062) h dL_law_1062 rfl 0 rfl ?_
  refine nl_iload_n (pc := 1063) h dL_law_1063 rfl 3 rfl ?_
  refine nl_iconst (pc := 1064) (v := 1) h dL_law_1064 (by decide) ?_
  refine nl_iadd (pc := 1065) h dL_law_1065 ?_
  refine nl_sld (pc := 1066) h hX hbl hbA i1 dL_law_1066 ?_
  refine nl_aload_n (pc := 1067) h dL_law_1067 rfl 0 rfl ?_
  refine nl_iload_n (pc := 1068) h dL_law_1068 rfl 3 rfl ?_
  refine nl_iconst (pc := 1069) (v := 2) h dL_law_1069 (by decide) ?_
  refine nl_iadd (pc := 1070) h dL_law_1070 ?_
  refine nl_sld (pc := 1071) h hX hbl hbA i2 dL_law_1071 ?_
  refine nl_aload_n (pc := 1072) h dL_law_1072 rfl 0 rfl ?_
  refine nl_iload_n (pc := 1073) h dL_law_1073 rfl 3 rfl ?_
  refine nl_iconst (pc := 1074) (v := 3) h dL_law_1074 (by decide) ?_
  refine nl_iadd (pc := 1075) h dL_law_1075 ?_
  refine nl_sld (pc := 1076) h hX hbl hbA i3 dL_law_1076 ?_
  refine ll_139 (pc := 1077) h hR hf (Nat.le_of_ble_eq_true rfl) dL_law_1077 (fun r1 s1 hf => ?_)
  refine nl_aload_n (pc := 1080) h dL_law_1080 rfl 2 rfl ?_
  refine nl_aload_n (pc := 1081) h dL_law_1081 rfl 0 rfl ?_
  refine nl_iload_n (pc := 1082) h dL_law_1082 rfl 3 rfl ?_
  refine nl_iconst (pc := 1083) (v := 1) h dL_law_1083 (by decide) ?_
  refine nl_iadd (pc := 1084) h dL_law_1084 ?_
  refine nl_sld (pc := 1085) h hX hbl hbA i1 dL_law_1085 ?_
  refine nl_aload_n (pc := 1086) h dL_law_1086 rfl 0 rfl ?_
  refine nl_iload_n (pc := 1087) h dL_law_1087 rfl 3 rfl ?_
  refine nl_iconst (pc := 1088) (v := 2) h dL_law_1088 (by decide) ?_
  refine nl_iadd (pc := 1089) h dL_law_1089 ?_
  refine nl_sld (pc := 1090) h hX hbl hbA i2 dL_law_1090 ?_
  refine nl_aload_n (pc := 1091) h dL_law_1091 rfl 0 rfl ?_
  refine nl_iload_n (pc := 1092) h dL_law_1092 rfl 3 rfl ?_
  refine nl_iconst (pc := 1093) (v := 3) h dL_law_1093 (by decide) ?_
  refine nl_iadd (pc := 1094) h dL_law_1094 ?_
  refine nl_sld (pc := 1095) h hX hbl hbA i3 dL_law_1095 ?_
  refine ll_142 (pc := 1096) h hR hf (Nat.le_of_ble_eq_true rfl) dL_law_1096 (fun r2 s2 hf => ?_)
  refine nl_icmp_eq (pc := 1099) (tgt := 1356) h dL_law_1099 (by decide) (fun _ => k _ hf.2) (fun z => absurd hf.1 z)
set_option maxHeartbeats 1000000 in
theorem nl_c31 {P : nw_PT} {X : nw_EX} {b L : Nat} {xs : Nat → Int32} {x3 : Int32} {Inv : nw_ST → Prop} (h : nw_ok P X code RL 4) (hR : X.2.2.2.1 = room_1) (hX : va_X b L xs X.2.2.2.2.1 X.2.2.2.2.1.heap) (hbl : b < X.2.2.2.2.1.heap.size) (hbA : ¬ nw_A P b) (i1 : vp_in (x3 + 1) L) (i2 : vp_in (x3 + 2) L) (i3 : vp_in (x3 + 3) L) (i4 : vp_in (x3 + 4) L) (i5 : vp_in (x3 + 5) L) (k : ∀ (s2 : nw_ST), Inv s2 → nl_G P X 4 s2 [(0, .ref b), (1, .ref (P.2.1 0)), (2, .ref (P.2.1 37)), (3, .int x3)] 1356 []) (hS : nl_S31 Inv) {σ : nw_ST} (hI : Inv σ) : nl_G P X 4 σ [(0, .ref b), (1, .ref (P.2.1 0)), (2, .ref (P.2.1 37)), (3, .int x3)] 1104 [] := by
  have hf := hS σ hI (xs (x3 + 1).toNatClampNeg)
  refine nl_aload_n (pc := 1104) h dL_law_1104 rfl 1 rfl ?_
  refine nl_aload_n (pc := 1105) h dL_law_1105 rfl 0 rfl ?_
  refine nl_iload_n (pc := 1106) h dL_law_1106 rfl 3 rfl ?_
  refine nl_iconst (pc := 1107) (v := 1) h dL_law_1107 (by decide) ?_
  refine nl_iadd (pc := 1108) h dL_law_1108 ?_
  refine nl_sld (pc := 1109) h hX hbl hbA i1 dL_law_1109 ?_
  refine ll_143 (pc := 1110) h hR hf (Nat.le_of_ble_eq_true rfl) dL_law_1110 (fun r1 s1 hf => ?_)
  refine nl_aload_n (pc := 1113) h dL_law_1113 rfl 2 rfl ?_
  refine nl_aload_n (pc := 1114) h dL_law_1114 rfl 0 rfl ?_
  refine nl_iload_n (pc := 1115) h dL_law_1115 rfl 3 rfl ?_
  refine nl_iconst (pc := 1116) (v := 1) h dL_law_1116 (by decide) ?_
  refine nl_iadd (pc := 1117) h dL_law_1117 ?_
  refine nl_sld (pc := 1118) h hX hbl hbA i1 dL_law_1118 ?_
  refine ll_146 (pc := 1119) h hR hf (Nat.le_of_ble_eq_true rfl) dL_law_1119 (fun r2 s2 hf => ?_)
  refine nl_icmp_eq (pc := 1122) (tgt := 1356) h dL_law_1122 (by decide) (fun _ => k _ hf.2) (fun z => absurd hf.1 z)
set_option maxHeartbeats 1000000 in
theorem nl_c32 {P : nw_PT} {X : nw_EX} {b L : Nat} {xs : Nat → Int32} {x3 : Int32} {Inv : nw_ST → Prop} (h : nw_ok P X code RL 4) (hR : X.2.2.2.1 = room_1) (hX : va_X b L xs X.2.2.2.2.1 X.2.2.2.2.1.heap) (hbl : b < X.2.2.2.2.1.heap.size) (hbA : ¬ nw_A P b) (i1 : vp_in (x3 + 1) L) (i2 : vp_in (x3 + 2) L) (i3 : vp_in (x3 + 3) L) (i4 : vp_in (x3 + 4) L) (i5 : vp_in (x3 + 5) L) (k : ∀ (s2 : nw_ST), Inv s2 → nl_G P X 4 s2 [(0, .ref b), (1, .ref (P.2.1 0)), (2, .ref (P.2.1 37)), (3, .int x3)] 1356 []) (hS : nl_S32 Inv) {σ : nw_ST} (hI : Inv σ) : nl_G P X 4 σ [(0, .ref b), (1, .ref (P.2.1 0)), (2, .ref (P.2.1 37)), (3, .int x3)] 1127 [] := by
  have hf := hS σ hI (xs (x3 + 1).toNatClampNeg) (xs (x3 + 2).toNatClampNeg) (xs (x3 + 3).toNatClampNeg) (xs (x3 + 4).toNatClampNeg)
  refine nl_aload_n (pc := 1127) h dL_law_1127 rfl 1 rfl ?_
  refine nl_aload_n (pc := 1128) h dL_law_1128 rfl 0 rfl ?_
  refine nl_iload_n (pc := 1129) h dL_law_1129 rfl 3 rfl ?_
  refine nl_iconst (pc := 1130) (v := 1) h dL_law_1130 (by decide) ?_
  refine nl_iadd (pc := 1131) h dL_law_1131 ?_
  refine nl_sld (pc := 1132) h hX hbl hbA i1 dL_law_1132 ?_
  refine nl_aload_n (pc := 1133) h dL_law_1133 rfl 0 rfl ?_
  refine nl_iload_n (pc := 1134) h dL_law_1134 rfl 3 rfl ?_
  refine nl_iconst (pc := 1135) (v := 2) h dL_law_1135 (by decide) ?_
  refine nl_iadd (pc := 1136) h dL_law_1136 ?_
  refine nl_sld (pc := 1137) h hX hbl hbA i2 dL_law_1137 ?_
  refine nl_aload_n (pc := 1138) h dL_law_1138 rfl 0 rfl ?_
  refine nl_iload_n (pc := 1139) h dL_law_1139 rfl 3 rfl ?_
  refine nl_iconst (pc := 1140) (v := 3) h dL_law_1140 (by decide) ?_
  refine nl_iadd (pc := 1141) h dL_law_1141 ?_
  refine nl_sld (pc := 1142) h hX hbl hbA i3 dL_law_1142 ?_
  refine nl_aload_n (pc := 1143) h dL_law_1143 rfl 0 rfl ?_
  refine nl_iload_n (pc := 1144) h dL_law_1144 rfl 3 rfl ?_
  refine nl_iconst (pc := 1145) (v := 4) h dL_law_1145 (by decide) ?_
  refine nl_iadd (pc := 1146) h dL_law_1146 ?_
  refine nl_sld (pc := 1147) h hX hbl hbA i4 dL_law_1147 ?_
  refine ll_147 (pc := 1148) h hR hf (Nat.le_of_ble_eq_true rfl) dL_law_1148 (fun r1 s1 hf => ?_)
  refine nl_aload_n (pc := 1151) h dL_law_1151 rfl 2 rfl ?_
  refine nl_aload_n (pc := 1152) h dL_law_1152 rfl 0 rfl ?_
  refine nl_iload_n (pc := 1153) h dL_law_1153 rfl 3 rfl ?_
  refine nl_iconst (pc := 1154) (v := 1) h dL_law_1154 (by decide) ?_
  refine nl_iadd (pc := 1155) h dL_law_1155 ?_
  refine nl_sld (pc := 1156) h hX hbl hbA i1 dL_law_1156 ?_
  refine nl_aload_n (pc := 1157) h dL_law_1157 rfl 0 rfl ?_
  refine nl_iload_n (pc := 1158) h dL_law_1158 rfl 3 rfl ?_
  refine nl_iconst (pc := 1159) (v := 2) h dL_law_1159 (by decide) ?_
  refine nl_iadd (pc := 1160) h dL_law_1160 ?_
  refine nl_sld (pc := 1161) h hX hbl hbA i2 dL_law_1161 ?_
  refine nl_aload_n (pc := 1162) h dL_law_1162 rfl 0 rfl ?_
  refine nl_iload_n (pc := 1163) h dL_law_1163 rfl 3 rfl ?_
  refine nl_iconst (pc := 1164) (v := 3) h dL_law_1164 (by decide) ?_
  refine nl_iadd (pc := 1165) h dL_law_1165 ?_
  refine nl_sld (pc := 1166) h hX hbl hbA i3 dL_law_1166 ?_
  refine nl_aload_n (pc := 1167) h dL_law_1167 rfl 0 rfl ?_
  refine nl_iload_n (pc := 1168) h dL_law_1168 rfl 3 rfl ?_
  refine nl_iconst (pc := 1169) (v := 4) h dL_law_1169 (by decide) ?_
  refine nl_iadd (pc := 1170) h dL_law_1170 ?_
  refine nl_sld (pc := 1171) h hX hbl hbA i4 dL_law_1171 ?_
  refine ll_150 (pc := 1172) h hR hf (Nat.le_of_ble_eq_true rfl) dL_law_1172 (fun r2 s2 hf => ?_)
  refine nl_icmp_eq (pc := 1175) (tgt := 1356) h dL_law_1175 (by decide) (fun _ => k _ hf.2) (fun z => absurd hf.1 z)
set_option maxHeartbeats 1000000 in
theorem nl_c33 {P : nw_PT} {X : nw_EX} {b L : Nat} {xs : Nat → Int32} {x3 : Int32} {Inv : nw_ST → Prop} (h : nw_ok P X code RL 4) (hR : X.2.2.2.1 = room_1) (hX : va_X b L xs X.2.2.2.2.1 X.2.2.2.2.1.heap) (hbl : b < X.2.2.2.2.1.heap.size) (hbA : ¬ nw_A P b) (i1 : vp_in (x3 + 1) L) (i2 : vp_in (x3 + 2) L) (i3 : vp_in (x3 + 3) L) (i4 : vp_in (x3 + 4) L) (i5 : vp_in (x3 + 5) L) (k : ∀ (s2 : nw_ST), Inv s2 → nl_G P X 4 s2 [(0, .ref b), (1, .ref (P.2.1 0)), (2, .ref (P.2.1 37)), (3, .int x3)] 1356 []) (hS : nl_S33 Inv) {σ : nw_ST} (hI : Inv σ) : nl_G P X 4 σ [(0, .ref b), (1, .ref (P.2.1 0)), (2, .ref (P.2.1 37)), (3, .int x3)] 1180 [] := by
  have hf := hS σ hI (xs (x3 + 1).toNatClampNeg) (xs (x3 + 2).toNatClampNeg) (xs (x3 + 3).toNatClampNeg)
  refine nl_aload_n (pc := 1180) h dL_law_1180 rfl 1 rfl ?_
  refine nl_aload_n (pc := 1181) h dL_law_1181 rfl 0 rfl ?_
  refine nl_iload_n (pc := 1182) h dL_law_1182 rfl 3 rfl ?_
  refine nl_iconst (pc := 1183) (v := 1) h dL_law_1183 (by decide) ?_
  refine nl_iadd (pc := 1184) h dL_law_1184 ?_
  refine nl_sld (pc := 1185) h hX hbl hbA i1 dL_law_1185 ?_
  refine nl_aload_n (pc := 1186) h dL_law_1186 rfl 0 rfl ?_
  refine nl_iload_n (pc := 1187) h dL_law_1187 rfl 3 rfl ?_
  refine nl_iconst (pc := 1188) (v := 2) h dL_law_1188 (by decide) ?_
  refine nl_iadd (pc := 1189) h dL_law_1189 ?_
  refine nl_sld (pc := 1190) h hX hbl hbA i2 dL_law_1190 ?_
  refine nl_aload_n (pc := 1191) h dL_law_1191 rfl 0 rfl ?_
  refine nl_iload_n (pc := 1192) h dL_law_1192 rfl 3 rfl ?_
  refine nl_iconst (pc := 1193) (v := 3) h dL_law_1193 (by decide) ?_
  refine nl_iadd (pc := 1194) h dL_law_1194 ?_
  refine nl_sld (pc := 1195) h hX hbl hbA i3 dL_law_1195 ?_
  refine ll_151 (pc := 1196) h hR hf (Nat.le_of_ble_eq_true rfl) dL_law_1196 (fun r1 s1 hf => ?_)
  refine nl_aload_n (pc := 1199) h dL_law_1199 rfl 2 rfl ?_
  refine nl_aload_n (pc := 1200) h dL_law_1200 rfl 0 rfl ?_
  refine nl_iload_n (pc := 1201) h dL_law_1201 rfl 3 rfl ?_
  refine nl_iconst (pc := 1202) (v := 1) h dL_law_1202 (by decide) ?_
  refine nl_iadd (pc := 1203) h dL_law_1203 ?_
  refine nl_sld (pc := 1204) h hX hbl hbA i1 dL_law_1204 ?_
  refine nl_aload_n (pc := 1205) h dL_law_1205 rfl 0 rfl ?_
  refine nl_iload_n (pc := 1206) h dL_law_1206 rfl 3 rfl ?_
  refine nl_iconst (pc := 1207) (v := 2) h dL_law_1207 (by decide) ?_
  refine nl_iadd (pc := 1208) h dL_law_1208 ?_
  refine nl_sld (pc := 1209) h hX hbl hbA i2 dL_law_1209 ?_
  refine nl_aload_n (pc := 1210) h dL_law_1210 rfl 0 rfl ?_
  refine nl_iload_n (pc := 1211) h dL_law_1211 rfl 3 rfl ?_
  refine nl_iconst (pc := 1212) (v := 3) h dL_law_1212 (by decide) ?_
  refine nl_iadd (pc := 1213) h dL_law_1213 ?_
  refine nl_sld (pc := 1214) h hX hbl hbA i3 dL_law_1214 ?_
  refine ll_154 (pc := 1215) h hR hf (Nat.le_of_ble_eq_true rfl) dL_law_1215 (fun r2 s2 hf => ?_)
  refine nl_icmp_eq (pc := 1218) (tgt := 1356) h dL_law_1218 (by decide) (fun _ => k _ hf.2) (fun z => absurd hf.1 z)
set_option maxHeartbeats 1000000 in
theorem nl_c34 {P : nw_PT} {X : nw_EX} {b L : Nat} {xs : Nat → Int32} {x3 : Int32} {Inv : nw_ST → Prop} (h : nw_ok P X code RL 4) (hR : X.2.2.2.1 = room_1) (hX : va_X b L xs X.2.2.2.2.1 X.2.2.2.2.1.heap) (hbl : b < X.2.2.2.2.1.heap.size) (hbA : ¬ nw_A P b) (i1 : vp_in (x3 + 1) L) (i2 : vp_in (x3 + 2) L) (i3 : vp_in (x3 + 3) L) (i4 : vp_in (x3 + 4) L) (i5 : vp_in (x3 + 5) L) (k : ∀ (s2 : nw_ST), Inv s2 → nl_G P X 4 s2 [(0, .ref b), (1, .ref (P.2.1 0)), (2, .ref (P.2.1 37)), (3, .int x3)] 1356 []) (hS : nl_S34 Inv) {σ : nw_ST} (hI : Inv σ) : nl_G P X 4 σ [(0, .ref b), (1, .ref (P.2.1 0)), (2, .ref (P.2.1 37)), (3, .int x3)] 1223 [] := by
  have hf := hS σ hI (xs (x3 + 1).toNatClampNeg) (xs (x3 + 2).toNatClampNeg) (xs (x3 + 3).toNatClampNeg) (xs (x3 + 4).toNatClampNeg) (xs (x3 + 5).toNatClampNeg)
  refine nl_aload_n (pc := 1223) h dL_law_1223 rfl 1 rfl ?_
  refine nl_aload_n (pc := 1224) h dL_law_1224 rfl 0 rfl ?_
  refine nl_iload_n (pc := 1225) h dL_law_1225 rfl 3 rfl ?_
  refine nl_iconst (pc := 1226) (v := 1) h dL_law_1226 (by decide) ?_
  refine nl_iadd (pc := 1227) h dL_law_1227 ?_
  refine nl_sld (pc := 1228) h hX hbl hbA i1 dL_law_1228 ?_
  refine nl_aload_n (pc := 1229) h dL_law_1229 rfl 0 rfl ?_
  refine nl_iload_n (pc := 1230) h dL_law_1230 rfl 3 rfl ?_
  refine nl_iconst (pc := 1231) (v := 2) h dL_law_1231 (by decide) ?_
  refine nl_iadd (pc := 1232) h dL_law_1232 ?_
  refine nl_sld (pc := 1233) h hX hbl hbA i2 dL_law_1233 ?_
  refine nl_aload_n (pc := 1234) h dL_law_1234 rfl 0 rfl ?_
  refine nl_iload_n (pc := 1235) h dL_law_1235 rfl 3 rfl ?_
  refine nl_iconst (pc := 1236) (v := 3) h dL_law_1236 (by decide) ?_
  refine nl_iadd (pc := 1237) h dL_law_1237 ?_
  refine nl_sld (pc := 1238) h hX hbl hbA i3 dL_law_1238 ?_
  refine nl_aload_n (pc := 1239) h dL_law_1239 rfl 0 rfl ?_
  refine nl_iload_n (pc := 1240) h dL_law_1240 rfl 3 rfl ?_
  refine nl_iconst (pc := 1241) (v := 4) h dL_law_1241 (by decide) ?_
  refine nl_iadd (pc := 1242) h dL_law_1242 ?_
  refine nl_sld (pc := 1243) h hX hbl hbA i4 dL_law_1243 ?_
  refine nl_aload_n (pc := 1244) h dL_law_1244 rfl 0 rfl ?_
  refine nl_iload_n (pc := 1245) h dL_law_1245 rfl 3 rfl ?_
  refine nl_iconst (pc := 1246) (v := 5) h dL_law_1246 (by decide) ?_
  refine nl_iadd (pc := 1247) h dL_law_1247 ?_
  refine nl_sld (pc := 1248) h hX hbl hbA i5 dL_law_1248 ?_
  refine ll_155 (pc := 1249) h hR hf (Nat.le_of_ble_eq_true rfl) dL_law_1249 (fun r1 s1 hf => ?_)
  refine nl_aload_n (pc := 1252) h dL_law_1252 rfl 2 rfl ?_
  refine nl_aload_n (pc := 1253) h dL_law_1253 rfl 0 rfl ?_
  refine nl_iload_n (pc := 1254) h dL_law_1254 rfl 3 rfl ?_
  refine nl_iconst (pc := 1255) (v := 1) h dL_law_1255 (by decide) ?_
  refine nl_iadd (pc := 1256) h dL_law_1256 ?_
  refine nl_sld (pc := 1257) h hX hbl hbA i1 dL_law_1257 ?_
  refine nl_aload_n (pc := 1258) h dL_law_1258 rfl 0 rfl ?_
  refine nl_iload_n (pc := 1259) h dL_law_1259 rfl 3 rfl ?_
  refine nl_iconst (pc := 1260) (v := 2) h dL_law_1260 (by decide) ?_
  refine nl_iadd (pc := 1261) h dL_law_1261 ?_
  refine nl_sld (pc := 1262) h hX hbl hbA i2 dL_law_1262 ?_
  refine nl_aload_n (pc := 1263) h dL_law_1263 rfl 0 rfl ?_
  refine nl_iload_n (pc := 1264) h dL_law_1264 rfl 3 rfl ?_
  refine nl_iconst (pc := 1265) (v := 3) h dL_law_1265 (by decide) ?_
  refine nl_iadd (pc := 1266) h dL_law_1266 ?_
  refine nl_sld (pc := 1267) h hX hbl hbA i3 dL_law_1267 ?_
  refine nl_aload_n (pc := 1268) h dL_law_1268 rfl 0 rfl ?_
  refine nl_iload_n (pc := 1269) h dL_law_1269 rfl 3 rfl ?_
  refine nl_iconst (pc := 1270) (v := 4) h dL_law_1270 (by decide) ?_
  refine nl_iadd (pc := 1271) h dL_law_1271 ?_
  refine nl_sld (pc := 1272) h hX hbl hbA i4 dL_law_1272 ?_
  refine nl_aload_n (pc := 1273) h dL_law_1273 rfl 0 rfl ?_
  refine nl_iload_n (pc := 1274) h dL_law_1274 rfl 3 rfl ?_
  refine nl_iconst (pc := 1275) (v := 5) h dL_law_1275 (by decide) ?_
  refine nl_iadd (pc := 1276) h dL_law_1276 ?_
  refine nl_sld (pc := 1277) h hX hbl hbA i5 dL_law_1277 ?_
  refine ll_159 (pc := 1278) h hR hf (Nat.le_of_ble_eq_true rfl) dL_law_1278 (fun r2 s2 hf => ?_)
  refine nl_icmp_eq (pc := 1281) (tgt := 1356) h dL_law_1281 (by decide) (fun _ => k _ hf.2) (fun z => absurd hf.1 z)
set_option maxHeartbeats 1000000 in
theorem nl_c35 {P : nw_PT} {X : nw_EX} {b L : Nat} {xs : Nat → Int32} {x3 : Int32} {Inv : nw_ST → Prop} (h : nw_ok P X code RL 4) (hR : X.2.2.2.1 = room_1) (hX : va_X b L xs X.2.2.2.2.1 X.2.2.2.2.1.heap) (hbl : b < X.2.2.2.2.1.heap.size) (hbA : ¬ nw_A P b) (i1 : vp_in (x3 + 1) L) (i2 : vp_in (x3 + 2) L) (i3 : vp_in (x3 + 3) L) (i4 : vp_in (x3 + 4) L) (i5 : vp_in (x3 + 5) L) (k : ∀ (s2 : nw_ST), Inv s2 → nl_G P X 4 s2 [(0, .ref b), (1, .ref (P.2.1 0)), (2, .ref (P.2.1 37)), (3, .int x3)] 1356 []) (hS : nl_S35 Inv) {σ : nw_ST} (hI : Inv σ) : nl_G P X 4 σ [(0, .ref b), (1, .ref (P.2.1 0)), (2, .ref (P.2.1 37)), (3, .int x3)] 1286 [] := by
  have hf := hS σ hI (xs (x3 + 1).toNatClampNeg) (xs (x3 + 2).toNatClampNeg)
  refine nl_aload_n (pc := 1286) h dL_law_1286 rfl 1 rfl ?_
  refine nl_aload_n (pc := 1287) h dL_law_1287 rfl 0 rfl ?_
  refine nl_iload_n (pc := 1288) h dL_law_1288 rfl 3 rfl ?_
  refine nl_iconst (pc := 1289) (v := 1) h dL_law_1289 (by decide) ?_
  refine nl_iadd (pc := 1290) h dL_law_1290 ?_
  refine nl_sld (pc := 1291) h hX hbl hbA i1 dL_law_1291 ?_
  refine nl_aload_n (pc := 1292) h dL_law_1292 rfl 0 rfl ?_
  refine nl_iload_n (pc := 1293) h dL_law_1293 rfl 3 rfl ?_
  refine nl_iconst (pc := 1294) (v := 2) h dL_law_1294 (by decide) ?_
  refine nl_iadd (pc := 1295) h dL_law_1295 ?_
  refine nl_sld (pc := 1296) h hX hbl hbA i2 dL_law_1296 ?_
  refine ll_160 (pc := 1297) h hR hf (Nat.le_of_ble_eq_true rfl) dL_law_1297 (fun r1 s1 hf => ?_)
  refine nl_aload_n (pc := 1300) h dL_law_1300 rfl 2 rfl ?_
  refine nl_aload_n (pc := 1301) h dL_law_1301 rfl 0 rfl ?_
  refine nl_iload_n (pc := 1302) h dL_law_1302 rfl 3 rfl ?_
  refine nl_iconst (pc := 1303) (v := 1) h dL_law_1303 (by decide) ?_
  refine nl_iadd (pc := 1304) h dL_law_1304 ?_
  refine nl_sld (pc := 1305) h hX hbl hbA i1 dL_law_1305 ?_
  refine nl_aload_n (pc := 1306) h dL_law_1306 rfl 0 rfl ?_
  refine nl_iload_n (pc := 1307) h dL_law_1307 rfl 3 rfl ?_
  refine nl_iconst (pc := 1308) (v := 2) h dL_law_1308 (by decide) ?_
  refine nl_iadd (pc := 1309) h dL_law_1309 ?_
  refine nl_sld (pc := 1310) h hX hbl hbA i2 dL_law_1310 ?_
  refine ll_163 (pc := 1311) h hR hf (Nat.le_of_ble_eq_true rfl) dL_law_1311 (fun r2 s2 hf => ?_)
  refine nl_icmp_eq (pc := 1314) (tgt := 1356) h dL_law_1314 (by decide) (fun _ => k _ hf.2) (fun z => absurd hf.1 z)
set_option maxHeartbeats 1000000 in
theorem nl_c36 {P : nw_PT} {X : nw_EX} {b L : Nat} {xs : Nat → Int32} {x3 : Int32} {Inv : nw_ST → Prop} (h : nw_ok P X code RL 4) (hR : X.2.2.2.1 = room_1) (hX : va_X b L xs X.2.2.2.2.1 X.2.2.2.2.1.heap) (hbl : b < X.2.2.2.2.1.heap.size) (hbA : ¬ nw_A P b) (i1 : vp_in (x3 + 1) L) (i2 : vp_in (x3 + 2) L) (i3 : vp_in (x3 + 3) L) (i4 : vp_in (x3 + 4) L) (i5 : vp_in (x3 + 5) L) (k : ∀ (s2 : nw_ST), Inv s2 → nl_G P X 4 s2 [(0, .ref b), (1, .ref (P.2.1 0)), (2, .ref (P.2.1 37)), (3, .int x3)] 1356 []) (hS : nl_S36 Inv) {σ : nw_ST} (hI : Inv σ) : nl_G P X 4 σ [(0, .ref b), (1, .ref (P.2.1 0)), (2, .ref (P.2.1 37)), (3, .int x3)] 1319 [] := by
  have hf := hS σ hI (xs (x3 + 1).toNatClampNeg)
  refine nl_aload_n (pc := 1319) h dL_law_1319 rfl 1 rfl ?_
  refine nl_aload_n (pc := 1320) h dL_law_1320 rfl 0 rfl ?_
  refine nl_iload_n (pc := 1321) h dL_law_1321 rfl 3 rfl ?_
  refine nl_iconst (pc := 1322) (v := 1) h dL_law_1322 (by decide) ?_
  refine nl_iadd (pc := 1323) h dL_law_1323 ?_
  refine nl_sld (pc := 1324) h hX hbl hbA i1 dL_law_1324 ?_
  refine ll_164 (pc := 1325) h hR hf (Nat.le_of_ble_eq_true rfl) dL_law_1325 (fun r1 s1 hf => ?_)
  refine nl_aload_n (pc := 1328) h dL_law_1328 rfl 2 rfl ?_
  refine nl_aload_n (pc := 1329) h dL_law_1329 rfl 0 rfl ?_
  refine nl_iload_n (pc := 1330) h dL_law_1330 rfl 3 rfl ?_
  refine nl_iconst (pc := 1331) (v := 1) h dL_law_1331 (by decide) ?_
  refine nl_iadd (pc := 1332) h dL_law_1332 ?_
  refine nl_sld (pc := 1333) h hX hbl hbA i1 dL_law_1333 ?_
  refine ll_167 (pc := 1334) h hR hf (Nat.le_of_ble_eq_true rfl) dL_law_1334 (fun r2 s2 hf => ?_)
  refine nl_icmp_eq (pc := 1337) (tgt := 1356) h dL_law_1337 (by decide) (fun _ => k _ hf.2) (fun z => absurd hf.1 z)
set_option maxHeartbeats 1000000 in
theorem nl_c37 {P : nw_PT} {X : nw_EX} {b L : Nat} {xs : Nat → Int32} {x3 : Int32} {Inv : nw_ST → Prop} (h : nw_ok P X code RL 4) (hR : X.2.2.2.1 = room_1) (hX : va_X b L xs X.2.2.2.2.1 X.2.2.2.2.1.heap) (hbl : b < X.2.2.2.2.1.heap.size) (hbA : ¬ nw_A P b) (i1 : vp_in (x3 + 1) L) (i2 : vp_in (x3 + 2) L) (i3 : vp_in (x3 + 3) L) (i4 : vp_in (x3 + 4) L) (i5 : vp_in (x3 + 5) L) (k : ∀ (s2 : nw_ST), Inv s2 → nl_G P X 4 s2 [(0, .ref b), (1, .ref (P.2.1 0)), (2, .ref (P.2.1 37)), (3, .int x3)] 1356 []) (hS : nl_S37 Inv) {σ : nw_ST} (hI : Inv σ) : nl_G P X 4 σ [(0, .ref b), (1, .ref (P.2.1 0)), (2, .ref (P.2.1 37)), (3, .int x3)] 1342 [] := by
  have hf := hS σ hI 
  refine nl_aload_n (pc := 1342) h dL_law_1342 rfl 1 rfl ?_
  refine ll_168 (pc := 1343) h hR hf (Nat.le_of_ble_eq_true rfl) dL_law_1343 (fun r1 s1 hf => ?_)
  refine nl_aload_n (pc := 1346) h dL_law_1346 rfl 2 rfl ?_
  refine ll_172 (pc := 1347) h hR hf (Nat.le_of_ble_eq_true rfl) dL_law_1347 (fun r2 s2 hf => ?_)
  refine nl_lcmp (pc := 1350) h dL_law_1350 ?_
  refine nl_if_eq (pc := 1351) (tgt := 1356) h dL_law_1351 (by decide) (fun _ => k _ hf.2) (fun z => absurd (by rw [hf.1]; exact nl_cmp _) z)
