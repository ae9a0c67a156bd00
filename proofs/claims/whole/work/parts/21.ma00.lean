def v5_in (a1 : Int32) (a2 : Int32) (a3 : Int32) : Int32 := (if (a1 < a2) then (0 : Int32) else (if (a3 < a1) then (0 : Int32) else (1 : Int32)))
theorem z5_in (a1 : Int32) (a2 : Int32) (a3 : Int32) : nw_isZ (v5_in a1 a2 a3) := by
  unfold v5_in; repeat' split
  all_goals first | exact (Or.inl rfl) | exact (Or.inr rfl)
def rm5_in : Room := { frames := 0, cells := 0, slots := 0, locals := 0 }
theorem yd5_in : yX5_in.cls = RX5 ∧ yX5_in.cls ≠ "java/lang/invoke/MethodHandle" ∧ yX5_in.cls ≠ "java/lang/invoke/VarHandle" ∧ (parseMethodDescriptor yX5_in.desc).map (fun d => d.parameters.length) = some 3 := by decide +kernel
set_option maxHeartbeats 4000000 in
set_option maxRecDepth 100000 in
theorem ct5_in (l : Launch) (P : nw_PT) (hD : nw_D P) (σ : nw_ST) (a1 : Int32) (a2 : Int32) (a3 : Int32)   : nw_MT l yX5_in cX5_in 3 (some .boolean) rm5_in P [.int a1, .int a2, .int a3] σ (nw_Ki (fun r s2 => r = (v5_in a1 a2 a3) ∧ s2 = σ)) := by
  refine nw_enter (by decide) (by first | decide | exact Nat.le_of_ble_eq_true rfl) hD ?_
  intro X hl h he hR
  subst hl
  have h : nw_ok P X cX5_in RX5 3 := h
  show nw_G P X 3 σ [(0, .int a1), (1, .int a2), (2, .int a3)] 0 []
  refine nw_iload_n (pc := 0) h dX5_in_0 rfl 0 rfl ?_
  refine nw_iload_n (pc := 1) h dX5_in_1 rfl 1 rfl ?_
  refine nw_icmp_lt (pc := 2) (tgt := 14) h dX5_in_2 (by decide) (fun c_2 => ?_) (fun c_2 => ?_)
  · skip
    refine nw_iconst (pc := 14) (v := 0) h dX5_in_14 (by decide) ?_
    exact nw_zret (pc := 15) h he dX5_in_15 (Or.inl rfl) ⟨_, rfl, (by unfold v5_in; rw [if_pos c_2]), rfl⟩
  · skip
    refine nw_iload_n (pc := 5) h dX5_in_5 rfl 0 rfl ?_
    refine nw_iload_n (pc := 6) h dX5_in_6 rfl 2 rfl ?_
    refine nw_icmp_gt (pc := 7) (tgt := 14) h dX5_in_7 (by decide) (fun c_7 => ?_) (fun c_7 => ?_)
    · skip
      refine nw_iconst (pc := 14) (v := 0) h dX5_in_14 (by decide) ?_
      exact nw_zret (pc := 15) h he dX5_in_15 (Or.inl rfl) ⟨_, rfl, (by unfold v5_in; rw [if_neg c_2, if_pos c_7]), rfl⟩
    · skip
      refine nw_iconst (pc := 10) (v := 1) h dX5_in_10 (by decide) ?_
      refine nw_goto (pc := 11) (tgt := 15) h dX5_in_11 (by decide) ?_
      exact nw_zret (pc := 15) h he dX5_in_15 (Or.inr rfl) ⟨_, rfl, (by unfold v5_in; rw [if_neg c_2, if_neg c_7]), rfl⟩
def v5_no (a1 : Int32) : Int64 := ((-9223372036854775808 : Int64) - (Int32.toInt64 a1))
def rm5_no : Room := { frames := 0, cells := 0, slots := 0, locals := 0 }
theorem yd5_no : yX5_no.cls = RX5 ∧ yX5_no.cls ≠ "java/lang/invoke/MethodHandle" ∧ yX5_no.cls ≠ "java/lang/invoke/VarHandle" ∧ (parseMethodDescriptor yX5_no.desc).map (fun d => d.parameters.length) = some 1 := by decide +kernel
set_option maxHeartbeats 4000000 in
set_option maxRecDepth 100000 in
theorem ct5_no (l : Launch) (P : nw_PT) (hD : nw_D P) (σ : nw_ST) (a1 : Int32)   : nw_MT l yX5_no cX5_no 1 (some .long) rm5_no P [.int a1] σ (nw_Kl (fun r s2 => r = (v5_no a1) ∧ s2 = σ)) := by
  refine nw_enter (by decide) (by first | decide | exact Nat.le_of_ble_eq_true rfl) hD ?_
  intro X hl h he hR
  subst hl
  have h : nw_ok P X cX5_no RX5 1 := h
  show nw_G P X 1 σ [(0, .int a1)] 0 []
  refine nw_ldc2 (pc := 0) h nw_w339 dX5_no_0 ?_
  refine nw_iload_n (pc := 3) h dX5_no_3 rfl 0 rfl ?_
  refine nw_i2l (pc := 4) h dX5_no_4 ?_
  refine nw_lsub (pc := 5) h dX5_no_5 ?_
  exact nw_lret (pc := 6) h he dX5_no_6 ⟨_, rfl, rfl, rfl⟩
def f5_lowest_47 (K : Int64 → nw_ST → Prop) (σ : nw_ST) (y0 : Int64) : Prop := (K y0 σ)
def b5_lowest_6 (K : Int64 → nw_ST → Prop) (H_6 : nw_ST → Int64 → Int64 → Int32 → Int64 → Int64 → Prop) (σ : nw_ST) (x0 : Int64) (x2 : Int64) (x4 : Int32) (x5 : Int64) (x7 : Int64) : Prop := ((((lg_cmp x7 (0 : Int64)) = 0) → ((((x4 = 0) → (¬ x5 = 0)) ∧ (¬ (x4 = 0) → (¬ x5 = 0))) ∧ (f5_lowest_47 K σ (if (x4 = 0) then (x0 / x5) else (x2 / x5))))) ∧ (¬ ((lg_cmp x7 (0 : Int64)) = 0) → ((¬ x7 = 0) ∧ (H_6 σ x0 x2 x4 x7 (nw_lrem x5 x7)))))
def f5_lowest_6 (K : Int64 → nw_ST → Prop) : Nat → nw_ST → Int64 → Int64 → Int32 → Int64 → Int64 → Prop
  | 0 => fun _ _ _ _ _ _ => False
  | n + 1 => b5_lowest_6 K (f5_lowest_6 K n)
def f5_lowest (K : Int64 → nw_ST → Prop) (σ : nw_ST) (a1 : Int64) (a2 : Int64) (a3 : Int32) : Prop := (∃ n, f5_lowest_6 K n σ a1 a2 a3 a1 a2)
def rm5_lowest : Room := { frames := 0, cells := 0, slots := 0, locals := 0 }
theorem yd5_lowest : yX5_lowest.cls = RX5 ∧ yX5_lowest.cls ≠ "java/lang/invoke/MethodHandle" ∧ yX5_lowest.cls ≠ "java/lang/invoke/VarHandle" ∧ (parseMethodDescriptor yX5_lowest.desc).map (fun d => d.parameters.length) = some 3 := by decide +kernel
set_option maxHeartbeats 4000000 in
set_option maxRecDepth 100000 in
theorem ct5_lowest (l : Launch) (P : nw_PT) (hD : nw_D P) (σ : nw_ST) (a1 : Int64) (a2 : Int64) (a3 : Int32)  (K : Int64 → nw_ST → Prop) (hf : f5_lowest K σ a1 a2 a3) : nw_MT l yX5_lowest cX5_lowest 11 (some .long) rm5_lowest P [.long a1, .long a2, .int a3] σ (nw_Kl K) := by
  refine nw_enter (by decide) (by first | decide | exact Nat.le_of_ble_eq_true rfl) hD ?_
  intro X hl h he hR
  subst hl
  have h : nw_ok P X cX5_lowest RX5 11 := h
  show nw_G P X 11 σ [(0, .long a1), (2, .long a2), (4, .int a3)] 0 []
  have hL_47 :  ∀ (σ : nw_ST) (y0 : Int64), f5_lowest_47 K σ y0 → nw_G P X 11 σ [] 47 [.long y0] := by
    intro σ y0 hf
    unfold f5_lowest_47 at hf
    exact nw_lret (pc := 47) h he dX5_lowest_47 ⟨_, rfl, hf⟩
  have hB_6 : ∀ (H_6 : nw_ST → Int64 → Int64 → Int32 → Int64 → Int64 → Prop) (hH_6 : (∀ (σ : nw_ST) (x0 : Int64) (x2 : Int64) (x4 : Int32) (x5 : Int64) (x7 : Int64), H_6 σ x0 x2 x4 x5 x7 → nw_G P X 11 σ [(0, .long x0), (2, .long x2), (4, .int x4), (5, .long x5), (7, .long x7)] 6 [])), ∀ (σ : nw_ST) (x0 : Int64) (x2 : Int64) (x4 : Int32) (x5 : Int64) (x7 : Int64), b5_lowest_6 K H_6 σ x0 x2 x4 x5 x7 → nw_G P X 11 σ [(0, .long x0), (2, .long x2), (4, .int x4), (5, .long x5), (7, .long x7)] 6 [] := by
    intro H_6 hH_6 σ x0 x2 x4 x5 x7 hf
    unfold b5_lowest_6 at hf
    refine nw_lload (pc := 6) h dX5_lowest_6 4 rfl ?_
    refine nw_lconst (pc := 8) (vl := 0) h dX5_lowest_8 (by decide) ?_
    refine nw_lcmp (pc := 9) h dX5_lowest_9 ?_
    refine nw_if_eq (pc := 10) (tgt := 31) h dX5_lowest_10 (by decide) (fun c_10 => ?_) (fun c_10 => ?_)
    · have hf := hf.1 c_10
      refine nw_iload (pc := 31) h dX5_lowest_31 2 rfl ?_
      obtain ⟨ho, hf⟩ := hf
      refine nw_if_ne (pc := 33) (tgt := 43) h dX5_lowest_33 (by decide) (fun c_33 => ?_) (fun c_33 => ?_)
      · skip
        have ho := ho.2 c_33
        refine nw_lload_n (pc := 43) h dX5_lowest_43 rfl 1 rfl ?_
        refine nw_lload (pc := 44) h dX5_lowest_44 3 rfl ?_
        have h_46 := ho
        refine nw_ldiv_ (pc := 46) h dX5_lowest_46 h_46 ?_
        simp only [if_neg c_33] at hf
        refine nw_sub (lv' := []) [] rfl ?_
        exact hL_47 _ _ hf
      · skip
        have ho := ho.1 c_33
        refine nw_lload_n (pc := 36) h dX5_lowest_36 rfl 0 rfl ?_
        refine nw_lload (pc := 37) h dX5_lowest_37 3 rfl ?_
        have h_39 := ho
        refine nw_ldiv_ (pc := 39) h dX5_lowest_39 h_39 ?_
        refine nw_goto (pc := 40) (tgt := 47) h dX5_lowest_40 (by decide) ?_
        simp only [if_pos c_33] at hf
        refine nw_sub (lv' := []) [] rfl ?_
        exact hL_47 _ _ hf
    · have hf := hf.2 c_10
      refine nw_lload (pc := 13) h dX5_lowest_13 3 rfl ?_
      refine nw_lload (pc := 15) h dX5_lowest_15 4 rfl ?_
      obtain ⟨h_17, hf⟩ := hf
      refine nw_lrem_ (pc := 17) h dX5_lowest_17 h_17 ?_
      refine nw_lstore (pc := 18) (lv' := [(9, .long (nw_lrem x5 x7)), (0, .long x0), (2, .long x2), (4, .int x4), (5, .long x5), (7, .long x7)]) h dX5_lowest_18 (by decide) rfl ?_
      refine nw_lload (pc := 20) h dX5_lowest_20 5 rfl ?_
      refine nw_lstore (pc := 22) (lv' := [(5, .long x7), (9, .long (nw_lrem x5 x7)), (0, .long x0), (2, .long x2), (4, .int x4), (7, .long x7)]) h dX5_lowest_22 (by decide) rfl ?_
      refine nw_lload (pc := 24) h dX5_lowest_24 1 rfl ?_
      refine nw_lstore (pc := 26) (lv' := [(7, .long (nw_lrem x5 x7)), (5, .long x7), (9, .long (nw_lrem x5 x7)), (0, .long x0), (2, .long x2), (4, .int x4)]) h dX5_lowest_26 (by decide) rfl ?_
      refine nw_goto (pc := 28) (tgt := 6) h dX5_lowest_28 (by decide) ?_
      refine nw_sub (lv' := [(0, .long x0), (2, .long x2), (4, .int x4), (5, .long x7), (7, .long (nw_lrem x5 x7))]) [3, 4, 5, 1, 0] rfl ?_
      exact hH_6 _ _ _ _ _ _ (hf)
  have hL_6 :  ∀ (n : Nat) (σ : nw_ST) (x0 : Int64) (x2 : Int64) (x4 : Int32) (x5 : Int64) (x7 : Int64), f5_lowest_6 K n σ x0 x2 x4 x5 x7 → nw_G P X 11 σ [(0, .long x0), (2, .long x2), (4, .int x4), (5, .long x5), (7, .long x7)] 6 [] := by
    intro n
    induction n with
    | zero => intro σ x0 x2 x4 x5 x7 hf; exact False.elim hf
    | succ n ih => exact hB_6 _ ih
  unfold f5_lowest at hf
  refine nw_lload_n (pc := 0) h dX5_lowest_0 rfl 0 rfl ?_
  refine nw_lstore (pc := 1) (lv' := [(5, .long a1), (0, .long a1), (2, .long a2), (4, .int a3)]) h dX5_lowest_1 (by decide) rfl ?_
  refine nw_lload_n (pc := 3) h dX5_lowest_3 rfl 2 rfl ?_
  refine nw_lstore (pc := 4) (lv' := [(7, .long a2), (5, .long a1), (0, .long a1), (2, .long a2), (4, .int a3)]) h dX5_lowest_4 (by decide) rfl ?_
  obtain ⟨n_6, hf⟩ := hf
  refine nw_sub (lv' := [(0, .long a1), (2, .long a2), (4, .int a3), (5, .long a1), (7, .long a2)]) [2, 3, 4, 1, 0] rfl ?_
  exact hL_6 n_6 _ _ _ _ _ _ hf
theorem klX5_89 {P : nw_PT} {X : nw_EX} {cc : ByteArray} {nL : Nat} {σ : nw_ST} {lv : List (Nat × Value)} {pc : Nat} {rest : List Value} {a1 : Int32} {a2 : Int32} {a3 : Int32} (h : nw_ok P X cc RX5 nL) (hR : rm5_in.frames + 1 ≤ X.2.2.2.1.frames ∧ 8 + (3 + 11) + rm5_in.locals ≤ X.2.2.2.1.locals)  (hst : (rest.map fun v => v.category).sum ≤ 8) (hd : decode cc pc = .ok (.invokestatic 89, 3)) (k : nw_G P X nL σ lv (pc + 3) (.int (v5_in a1 a2 a3) :: rest)) : nw_G P X nL σ lv pc (.int a3 :: .int a2 :: .int a1 :: rest) :=
  nw_callS (As := [.int a1, .int a2, .int a3]) (rest := rest) h (ct5_in _ P h.2.2 σ a1 a2 a3) (nw_goodS nw_w340 nw_w341 nw_w342 nw_w343) yd5_in.2 rfl hR ⟨rfl, rfl⟩ hst rfl hd (fun v s2 z => by obtain ⟨r, rfl, rfl, rfl⟩ := z; exact k)
def v5_isText (a1 : Int32) : Int32 := (v5_in a1 (0 : Int32) (1 : Int32))
theorem z5_isText (a1 : Int32) : nw_isZ (v5_isText a1) := by
  unfold v5_isText; repeat' split
  all_goals first | exact (z5_in a1 (0 : Int32) (1 : Int32))
def rm5_isText : Room := { frames := 1, cells := 0, slots := 0, locals := 22 }
theorem yd5_isText : yX5_isText.cls = RX5 ∧ yX5_isText.cls ≠ "java/lang/invoke/MethodHandle" ∧ yX5_isText.cls ≠ "java/lang/invoke/VarHandle" ∧ (parseMethodDescriptor yX5_isText.desc).map (fun d => d.parameters.length) = some 1 := by decide +kernel
set_option maxHeartbeats 4000000 in
set_option maxRecDepth 100000 in
theorem ct5_isText (l : Launch) (P : nw_PT) (hD : nw_D P) (σ : nw_ST) (a1 : Int32)   : nw_MT l yX5_isText cX5_isText 1 (some .boolean) rm5_isText P [.int a1] σ (nw_Ki (fun r s2 => r = (v5_isText a1) ∧ s2 = σ)) := by
  refine nw_enter (by decide) (by first | decide | exact Nat.le_of_ble_eq_true rfl) hD ?_
  intro X hl h he hR
  subst hl
  have h : nw_ok P X cX5_isText RX5 1 := h
  show nw_G P X 1 σ [(0, .int a1)] 0 []
  refine nw_iload_n (pc := 0) h dX5_isText_0 rfl 0 rfl ?_
  refine nw_iconst (pc := 1) (v := 0) h dX5_isText_1 (by decide) ?_
  refine nw_iconst (pc := 2) (v := 1) h dX5_isText_2 (by decide) ?_
  refine klX5_89 (pc := 3) h (by rw [hR]; decide) (Nat.le_of_ble_eq_true rfl) dX5_isText_3 ?_
  exact nw_zret (pc := 6) h he dX5_isText_6 (z5_in a1 (0 : Int32) (1 : Int32)) ⟨_, rfl, rfl, rfl⟩
def v5_isTime (a1 : Int32) : Int32 := (v5_in a1 (0 : Int32) (239 : Int32))
theorem z5_isTime (a1 : Int32) : nw_isZ (v5_isTime a1) := by
  unfold v5_isTime; repeat' split
  all_goals first | exact (z5_in a1 (0 : Int32) (239 : Int32))
def rm5_isTime : Room := { frames := 1, cells := 0, slots := 0, locals := 22 }
theorem yd5_isTime : yX5_isTime.cls = RX5 ∧ yX5_isTime.cls ≠ "java/lang/invoke/MethodHandle" ∧ yX5_isTime.cls ≠ "java/lang/invoke/VarHandle" ∧ (parseMethodDescriptor yX5_isTime.desc).map (fun d => d.parameters.length) = some 1 := by decide +kernel
set_option maxHeartbeats 4000000 in
set_option maxRecDepth 100000 in
theorem ct5_isTime (l : Launch) (P : nw_PT) (hD : nw_D P) (σ : nw_ST) (a1 : Int32)   : nw_MT l yX5_isTime cX5_isTime 1 (some .boolean) rm5_isTime P [.int a1] σ (nw_Ki (fun r s2 => r = (v5_isTime a1) ∧ s2 = σ)) := by
  refine nw_enter (by decide) (by first | decide | exact Nat.le_of_ble_eq_true rfl) hD ?_
  intro X hl h he hR
  subst hl
  have h : nw_ok P X cX5_isTime RX5 1 := h
  show nw_G P X 1 σ [(0, .int a1)] 0 []
  refine nw_iload_n (pc := 0) h dX5_isTime_0 rfl 0 rfl ?_
  refine nw_iconst (pc := 1) (v := 0) h dX5_isTime_1 (by decide) ?_
  refine nw_sipush (pc := 2) (v := 239) h dX5_isTime_2 (by decide) ?_
  refine klX5_89 (pc := 5) h (by rw [hR]; decide) (Nat.le_of_ble_eq_true rfl) dX5_isTime_5 ?_
  exact nw_zret (pc := 8) h he dX5_isTime_8 (z5_in a1 (0 : Int32) (239 : Int32)) ⟨_, rfl, rfl, rfl⟩
def v5_isNumber (a1 : Int32) : Int32 := (v5_in a1 (1 : Int32) (400 : Int32))
theorem z5_isNumber (a1 : Int32) : nw_isZ (v5_isNumber a1) := by
  unfold v5_isNumber; repeat' split
  all_goals first | exact (z5_in a1 (1 : Int32) (400 : Int32))
def rm5_isNumber : Room := { frames := 1, cells := 0, slots := 0, locals := 22 }
theorem yd5_isNumber : yX5_isNumber.cls = RX5 ∧ yX5_isNumber.cls ≠ "java/lang/invoke/MethodHandle" ∧ yX5_isNumber.cls ≠ "java/lang/invoke/VarHandle" ∧ (parseMethodDescriptor yX5_isNumber.desc).map (fun d => d.parameters.length) = some 1 := by decide +kernel
set_option maxHeartbeats 4000000 in
set_option maxRecDepth 100000 in
theorem ct5_isNumber (l : Launch) (P : nw_PT) (hD : nw_D P) (σ : nw_ST) (a1 : Int32)   : nw_MT l yX5_isNumber cX5_isNumber 1 (some .boolean) rm5_isNumber P [.int a1] σ (nw_Ki (fun r s2 => r = (v5_isNumber a1) ∧ s2 = σ)) := by
  refine nw_enter (by decide) (by first | decide | exact Nat.le_of_ble_eq_true rfl) hD ?_
  intro X hl h he hR
  subst hl
  have h : nw_ok P X cX5_isNumber RX5 1 := h
  show nw_G P X 1 σ [(0, .int a1)] 0 []
  refine nw_iload_n (pc := 0) h dX5_isNumber_0 rfl 0 rfl ?_
  refine nw_iconst (pc := 1) (v := 1) h dX5_isNumber_1 (by decide) ?_
  refine nw_sipush (pc := 2) (v := 400) h dX5_isNumber_2 (by decide) ?_
  refine klX5_89 (pc := 5) h (by rw [hR]; decide) (Nat.le_of_ble_eq_true rfl) dX5_isNumber_5 ?_
  exact nw_zret (pc := 8) h he dX5_isNumber_8 (z5_in a1 (1 : Int32) (400 : Int32)) ⟨_, rfl, rfl, rfl⟩
theorem klX5_93 {P : nw_PT} {X : nw_EX} {cc : ByteArray} {nL : Nat} {σ : nw_ST} {lv : List (Nat × Value)} {pc : Nat} {rest : List Value} {a1 : Int32} (h : nw_ok P X cc RX5 nL) (hR : rm5_isText.frames + 1 ≤ X.2.2.2.1.frames ∧ 8 + (1 + 11) + rm5_isText.locals ≤ X.2.2.2.1.locals)  (hst : (rest.map fun v => v.category).sum ≤ 8) (hd : decode cc pc = .ok (.invokestatic 93, 3)) (k : nw_G P X nL σ lv (pc + 3) (.int (v5_isText a1) :: rest)) : nw_G P X nL σ lv pc (.int a1 :: rest) :=
  nw_callS (As := [.int a1]) (rest := rest) h (ct5_isText _ P h.2.2 σ a1) (nw_goodS nw_w344 nw_w345 nw_w342 nw_w346) yd5_isText.2 rfl hR ⟨rfl, rfl⟩ hst rfl hd (fun v s2 z => by obtain ⟨r, rfl, rfl, rfl⟩ := z; exact k)
theorem gf5_7 {P : nw_PT} {X : nw_EX} {cc : ByteArray} {nL : Nat} {σ : nw_ST} {lv : List (Nat × Value)} {pc : Nat} {st : List Value} {q : Nat} (h : nw_ok P X cc RX5 nL) (hq : nw_cl q = 5) {r : Nat} (hr : nw_rf q 0 = r) (hd : decode cc pc = .ok (.getfield 7, 3)) (k : nw_G P X nL σ lv (pc + 3) (.ref (P.2.1 r) :: st)) : nw_G P X nL σ lv pc (.ref (P.2.1 q) :: st) := by
  subst hr; intro H locs ls h1 h2 h3
  exact va_get (D := P.1) (ci := 5) (C := RX5) (T := TX5) (N := 38) h.1.1 h.1.2.1 h.1.2.2.2.2 in_T5 h.1.2.2.2.1 h.2.1.1 h1 q (nw_at5 hq) rfl 0 (by decide) (h.1.2.2.2.2 _ nw_w347) (fun _ z => z) rfl hd (k H locs ls h1 h2 h3)
theorem gf5_13 {P : nw_PT} {X : nw_EX} {cc : ByteArray} {nL : Nat} {σ : nw_ST} {lv : List (Nat × Value)} {pc : Nat} {st : List Value} {q : Nat} (h : nw_ok P X cc RX5 nL) (hq : nw_cl q = 5) {r : Nat} (hr : nw_rf q 1 = r) (hd : decode cc pc = .ok (.getfield 13, 3)) (k : nw_G P X nL σ lv (pc + 3) (.ref (P.2.1 r) :: st)) : nw_G P X nL σ lv pc (.ref (P.2.1 q) :: st) := by
  subst hr; intro H locs ls h1 h2 h3
  exact va_get (D := P.1) (ci := 5) (C := RX5) (T := TX5) (N := 38) h.1.1 h.1.2.1 h.1.2.2.2.2 in_T5 h.1.2.2.2.1 h.2.1.1 h1 q (nw_at5 hq) rfl 1 (by decide) (h.1.2.2.2.2 _ nw_w348) (fun _ z => z) rfl hd (k H locs ls h1 h2 h3)
def f5_type_18 (K : Int32 → nw_ST → Prop) (σ : nw_ST) : Prop := (K (-2 : Int32) σ)
def f5_type_38 (K : Int32 → nw_ST → Prop) (σ : nw_ST) (x1 : Int32) (x2 : Int32) (y0 : Int32) (y1 : Int32) : Prop := (((y1 = y0) → (K (-4 : Int32) σ)) ∧ (¬ (y1 = y0) → ((vp_in x1 2) ∧ ((vp_in (((47 : Int32) * x1) + (nw_gA σ 38 x1.toNatClampNeg)) 94) ∧ ((vp_in x1 2) ∧ ((vp_in x1 2) ∧ ((vp_in x1 2) ∧ (K (nw_gA (nw_sA (nw_sA σ 39 (((47 : Int32) * x1) + (nw_gA σ 38 x1.toNatClampNeg)).toNatClampNeg x2) 38 x1.toNatClampNeg ((nw_gA (nw_sA σ 39 (((47 : Int32) * x1) + (nw_gA σ 38 x1.toNatClampNeg)).toNatClampNeg x2) 38 x1.toNatClampNeg) + (1 : Int32))) 38 x1.toNatClampNeg) (nw_sA (nw_sA σ 39 (((47 : Int32) * x1) + (nw_gA σ 38 x1.toNatClampNeg)).toNatClampNeg x2) 38 x1.toNatClampNeg ((nw_gA (nw_sA σ 39 (((47 : Int32) * x1) + (nw_gA σ 38 x1.toNatClampNeg)).toNatClampNeg x2) 38 x1.toNatClampNeg) + (1 : Int32)))))))))))
def f5_type (K : Int32 → nw_ST → Prop) (σ : nw_ST) (a1 : Int32) (a2 : Int32) : Prop := ((((v5_isText a1) = 0) → (f5_type_18 K σ)) ∧ (¬ ((v5_isText a1) = 0) → ((((v5_in a2 (0 : Int32) (255 : Int32)) = 0) → (f5_type_18 K σ)) ∧ (¬ ((v5_in a2 (0 : Int32) (255 : Int32)) = 0) → ((vp_in a1 2) ∧ (f5_type_38 K σ a1 a2 (if (a1 = 0) then (35 : Int32) else (47 : Int32)) (nw_gA σ 38 a1.toNatClampNeg)))))))
def rm5_type : Room := { frames := 2, cells := 0, slots := 0, locals := 42 }
theorem yd5_type : yX5_type.cls = RX5 ∧ yX5_type.cls ≠ "java/lang/invoke/MethodHandle" ∧ yX5_type.cls ≠ "java/lang/invoke/VarHandle" ∧ (parseMethodDescriptor yX5_type.desc).map (fun d => d.parameters.length) = some 2 := by decide +kernel
set_option maxHeartbeats 4000000 in
set_option maxRecDepth 100000 in
theorem ct5_type (l : Launch) (P : nw_PT) (hD : nw_D P) (σ : nw_ST) (a1 : Int32) (a2 : Int32)  (K : Int32 → nw_ST → Prop) (hf : f5_type K σ a1 a2) : nw_MT l yX5_type cX5_type 3 (some .int) rm5_type P [.ref (P.2.1 37), .int a1, .int a2] σ (nw_Ki K) := by
  refine nw_enter (by decide) (by first | decide | exact Nat.le_of_ble_eq_true rfl) hD ?_
  intro X hl h he hR
  subst hl
  have h : nw_ok P X cX5_type RX5 3 := h
  show nw_G P X 3 σ [(0, .ref (P.2.1 37)), (1, .int a1), (2, .int a2)] 0 []
  have hL_18 :  ∀ (σ : nw_ST), f5_type_18 K σ → nw_G P X 3 σ [] 18 [] := by
    intro σ hf
    unfold f5_type_18 at hf
    refine nw_bipush (pc := 18) (v := -2) h dX5_type_18 (by decide) ?_
    exact nw_iret (pc := 20) h he dX5_type_20 ⟨_, rfl, hf⟩
  have hL_38 :  ∀ (σ : nw_ST) (x1 : Int32) (x2 : Int32) (y0 : Int32) (y1 : Int32), f5_type_38 K σ x1 x2 y0 y1 → nw_G P X 3 σ [(0, .ref (P.2.1 37)), (1, .int x1), (2, .int x2)] 38 [.int y0, .int y1] := by
    intro σ x1 x2 y0 y1 hf
    unfold f5_type_38 at hf
    refine nw_icmp_ne (pc := 38) (tgt := 44) h dX5_type_38 (by decide) (fun c_38 => ?_) (fun c_38 => ?_)
    · have hf := hf.2 c_38
      refine nw_aload_n (pc := 44) h dX5_type_44 rfl 0 rfl ?_
      refine gf5_13 (pc := 45) (r := 39) h rfl rfl dX5_type_45 ?_
      refine nw_bipush (pc := 48) (v := 47) h dX5_type_48 (by decide) ?_
      refine nw_iload_n (pc := 50) h dX5_type_50 rfl 1 rfl ?_
      refine nw_imul (pc := 51) h dX5_type_51 ?_
      refine nw_aload_n (pc := 52) h dX5_type_52 rfl 0 rfl ?_
      refine gf5_7 (pc := 53) (r := 38) h rfl rfl dX5_type_53 ?_
      refine nw_iload_n (pc := 56) h dX5_type_56 rfl 1 rfl ?_
      obtain ⟨h_57, hf⟩ := hf
      refine nw_iald (pc := 57) (n := 2) h rfl rfl h_57 dX5_type_57 ?_
      refine nw_iadd (pc := 58) h dX5_type_58 ?_
      refine nw_iload_n (pc := 59) h dX5_type_59 rfl 2 rfl ?_
      obtain ⟨h_60, hf⟩ := hf
      refine nw_iast (pc := 60) (n := 94) h rfl rfl h_60 dX5_type_60 ?_
      refine nw_aload_n (pc := 61) h dX5_type_61 rfl 0 rfl ?_
      refine gf5_7 (pc := 62) (r := 38) h rfl rfl dX5_type_62 ?_
      refine nw_iload_n (pc := 65) h dX5_type_65 rfl 1 rfl ?_
      refine nw_dup2 (pc := 66) h dX5_type_66 rfl rfl ?_
      obtain ⟨h_67, hf⟩ := hf
      refine nw_iald (pc := 67) (n := 2) h rfl rfl h_67 dX5_type_67 ?_
      refine nw_iconst (pc := 68) (v := 1) h dX5_type_68 (by decide) ?_
      refine nw_iadd (pc := 69) h dX5_type_69 ?_
      obtain ⟨h_70, hf⟩ := hf
      refine nw_iast (pc := 70) (n := 2) h rfl rfl h_70 dX5_type_70 ?_
      refine nw_aload_n (pc := 71) h dX5_type_71 rfl 0 rfl ?_
      refine gf5_7 (pc := 72) (r := 38) h rfl rfl dX5_type_72 ?_
      refine nw_iload_n (pc := 75) h dX5_type_75 rfl 1 rfl ?_
      obtain ⟨h_76, hf⟩ := hf
      refine nw_iald (pc := 76) (n := 2) h rfl rfl h_76 dX5_type_76 ?_
      exact nw_iret (pc := 77) h he dX5_type_77 ⟨_, rfl, hf⟩
    · have hf := hf.1 c_38
      refine nw_bipush (pc := 41) (v := -4) h dX5_type_41 (by decide) ?_
      exact nw_iret (pc := 43) h he dX5_type_43 ⟨_, rfl, hf⟩
  unfold f5_type at hf
  refine nw_iload_n (pc := 0) h dX5_type_0 rfl 1 rfl ?_
  refine klX5_93 (pc := 1) h (by rw [hR]; decide) (Nat.le_of_ble_eq_true rfl) dX5_type_1 ?_
  refine nw_if_eq (pc := 4) (tgt := 18) h dX5_type_4 (by decide) (fun c_4 => ?_) (fun c_4 => ?_)
  · have hf := hf.1 c_4
    refine nw_sub (lv' := []) [] rfl ?_
    exact hL_18 _ (hf)
  · have hf := hf.2 c_4
    refine nw_iload_n (pc := 7) h dX5_type_7 rfl 2 rfl ?_
    refine nw_iconst (pc := 8) (v := 0) h dX5_type_8 (by decide) ?_
    refine nw_sipush (pc := 9) (v := 255) h dX5_type_9 (by decide) ?_
    refine klX5_89 (pc := 12) h (by rw [hR]; decide) (Nat.le_of_ble_eq_true rfl) dX5_type_12 ?_
    refine nw_if_ne (pc := 15) (tgt := 21) h dX5_type_15 (by decide) (fun c_15 => ?_) (fun c_15 => ?_)
    · have hf := hf.2 c_15
      refine nw_aload_n (pc := 21) h dX5_type_21 rfl 0 rfl ?_
      refine gf5_7 (pc := 22) (r := 38) h rfl rfl dX5_type_22 ?_
      refine nw_iload_n (pc := 25) h dX5_type_25 rfl 1 rfl ?_
      obtain ⟨h_26, hf⟩ := hf
      refine nw_iald (pc := 26) (n := 2) h rfl rfl h_26 dX5_type_26 ?_
      refine nw_iload_n (pc := 27) h dX5_type_27 rfl 1 rfl ?_
      refine nw_if_ne (pc := 28) (tgt := 36) h dX5_type_28 (by decide) (fun c_28 => ?_) (fun c_28 => ?_)
      · skip
        refine nw_bipush (pc := 36) (v := 47) h dX5_type_36 (by decide) ?_
        simp only [if_neg c_28] at hf
        exact hL_38 _ _ _ _ _ hf
      · skip
        refine nw_bipush (pc := 31) (v := 35) h dX5_type_31 (by decide) ?_
        refine nw_goto (pc := 33) (tgt := 38) h dX5_type_33 (by decide) ?_
        simp only [if_pos c_28] at hf
        exact hL_38 _ _ _ _ _ hf
    · have hf := hf.1 c_15
      refine nw_sub (lv' := []) [] rfl ?_
      exact hL_18 _ (hf)
def f5_wipe (K : Int32 → nw_ST → Prop) (σ : nw_ST) (a1 : Int32) : Prop := ((((v5_isText a1) = 0) → (K (-2 : Int32) σ)) ∧ (¬ ((v5_isText a1) = 0) → ((vp_in a1 2) ∧ ((vp_in a1 2) ∧ (K (nw_gA σ 38 a1.toNatClampNeg) (nw_sA σ 38 a1.toNatClampNeg (0 : Int32)))))))
def rm5_wipe : Room := { frames := 2, cells := 0, slots := 0, locals := 42 }
theorem yd5_wipe : yX5_wipe.cls = RX5 ∧ yX5_wipe.cls ≠ "java/lang/invoke/MethodHandle" ∧ yX5_wipe.cls ≠ "java/lang/invoke/VarHandle" ∧ (parseMethodDescriptor yX5_wipe.desc).map (fun d => d.parameters.length) = some 1 := by decide +kernel
set_option maxHeartbeats 4000000 in
set_option maxRecDepth 100000 in
theorem ct5_wipe (l : Launch) (P : nw_PT) (hD : nw_D P) (σ : nw_ST) (a1 : Int32)  (K : Int32 → nw_ST → Prop) (hf : f5_wipe K σ a1) : nw_MT l yX5_wipe cX5_wipe 3 (some .int) rm5_wipe P [.ref (P.2.1 37), .int a1] σ (nw_Ki K) := by
  refine nw_enter (by decide) (by first | decide | exact Nat.le_of_ble_eq_true rfl) hD ?_
  intro X hl h he hR
  subst hl
  have h : nw_ok P X cX5_wipe RX5 3 := h
  show nw_G P X 3 σ [(0, .ref (P.2.1 37)), (1, .int a1)] 0 []
  unfold f5_wipe at hf
  refine nw_iload_n (pc := 0) h dX5_wipe_0 rfl 1 rfl ?_
  refine klX5_93 (pc := 1) h (by rw [hR]; decide) (Nat.le_of_ble_eq_true rfl) dX5_wipe_1 ?_
  refine nw_if_ne (pc := 4) (tgt := 10) h dX5_wipe_4 (by decide) (fun c_4 => ?_) (fun c_4 => ?_)
  · have hf := hf.2 c_4
    refine nw_aload_n (pc := 10) h dX5_wipe_10 rfl 0 rfl ?_
    refine gf5_7 (pc := 11) (r := 38) h rfl rfl dX5_wipe_11 ?_
    refine nw_iload_n (pc := 14) h dX5_wipe_14 rfl 1 rfl ?_
    obtain ⟨h_15, hf⟩ := hf
    refine nw_iald (pc := 15) (n := 2) h rfl rfl h_15 dX5_wipe_15 ?_
    refine nw_istore_n (pc := 16) (lv' := [(2, .int (nw_gA σ 38 a1.toNatClampNeg)), (0, .ref (P.2.1 37)), (1, .int a1)]) h dX5_wipe_16 rfl (by decide) rfl ?_
    refine nw_aload_n (pc := 17) h dX5_wipe_17 rfl 1 rfl ?_
    refine gf5_7 (pc := 18) (r := 38) h rfl rfl dX5_wipe_18 ?_
    refine nw_iload_n (pc := 21) h dX5_wipe_21 rfl 2 rfl ?_
    refine nw_iconst (pc := 22) (v := 0) h dX5_wipe_22 (by decide) ?_
    obtain ⟨h_23, hf⟩ := hf
    refine nw_iast (pc := 23) (n := 2) h rfl rfl h_23 dX5_wipe_23 ?_
    refine nw_iload_n (pc := 24) h dX5_wipe_24 rfl 0 rfl ?_
    exact nw_iret (pc := 25) h he dX5_wipe_25 ⟨_, rfl, hf⟩
  · have hf := hf.1 c_4
    refine nw_bipush (pc := 7) (v := -2) h dX5_wipe_7 (by decide) ?_
    exact nw_iret (pc := 9) h he dX5_wipe_9 ⟨_, rfl, hf⟩
def f5_undo (K : Int32 → nw_ST → Prop) (σ : nw_ST) (a1 : Int32) : Prop := ((((v5_isText a1) = 0) → (K (-2 : Int32) σ)) ∧ (¬ ((v5_isText a1) = 0) → ((vp_in a1 2) ∧ ((((nw_gA σ 38 a1.toNatClampNeg) = 0) → (K (-3 : Int32) σ)) ∧ (¬ ((nw_gA σ 38 a1.toNatClampNeg) = 0) → ((vp_in a1 2) ∧ ((vp_in a1 2) ∧ ((vp_in a1 2) ∧ (K (nw_gA (nw_sA σ 38 a1.toNatClampNeg ((nw_gA σ 38 a1.toNatClampNeg) - (1 : Int32))) 38 a1.toNatClampNeg) (nw_sA σ 38 a1.toNatClampNeg ((nw_gA σ 38 a1.toNatClampNeg) - (1 : Int32))))))))))))
def rm5_undo : Room := { frames := 2, cells := 0, slots := 0, locals := 42 }
theorem yd5_undo : yX5_undo.cls = RX5 ∧ yX5_undo.cls ≠ "java/lang/invoke/MethodHandle" ∧ yX5_undo.cls ≠ "java/lang/invoke/VarHandle" ∧ (parseMethodDescriptor yX5_undo.desc).map (fun d => d.parameters.length) = some 1 := by decide +kernel
set_option maxHeartbeats 4000000 in
set_option maxRecDepth 100000 in
theorem ct5_undo (l : Launch) (P : nw_PT) (hD : nw_D P) (σ : nw_ST) (a1 : Int32)  (K : Int32 → nw_ST → Prop) (hf : f5_undo K σ a1) : nw_MT l yX5_undo cX5_undo 2 (some .int) rm5_undo P [.ref (P.2.1 37), .int a1] σ (nw_Ki K) := by
  refine nw_enter (by decide) (by first | decide | exact Nat.le_of_ble_eq_true rfl) hD ?_
  intro X hl h he hR
  subst hl
  have h : nw_ok P X cX5_undo RX5 2 := h
  show nw_G P X 2 σ [(0, .ref (P.2.1 37)), (1, .int a1)] 0 []
  unfold f5_undo at hf
  refine nw_iload_n (pc := 0) h dX5_undo_0 rfl 1 rfl ?_
  refine klX5_93 (pc := 1) h (by rw [hR]; decide) (Nat.le_of_ble_eq_true rfl) dX5_undo_1 ?_
  refine nw_if_ne (pc := 4) (tgt := 10) h dX5_undo_4 (by decide) (fun c_4 => ?_) (fun c_4 => ?_)
  · have hf := hf.2 c_4
    refine nw_aload_n (pc := 10) h dX5_undo_10 rfl 0 rfl ?_
    refine gf5_7 (pc := 11) (r := 38) h rfl rfl dX5_undo_11 ?_
    refine nw_iload_n (pc := 14) h dX5_undo_14 rfl 1 rfl ?_
    obtain ⟨h_15, hf⟩ := hf
    refine nw_iald (pc := 15) (n := 2) h rfl rfl h_15 dX5_undo_15 ?_
    refine nw_if_ne (pc := 16) (tgt := 22) h dX5_undo_16 (by decide) (fun c_16 => ?_) (fun c_16 => ?_)
    · have hf := hf.2 c_16
      refine nw_aload_n (pc := 22) h dX5_undo_22 rfl 0 rfl ?_
      refine gf5_7 (pc := 23) (r := 38) h rfl rfl dX5_undo_23 ?_
      refine nw_iload_n (pc := 26) h dX5_undo_26 rfl 1 rfl ?_
      refine nw_dup2 (pc := 27) h dX5_undo_27 rfl rfl ?_
      obtain ⟨h_28, hf⟩ := hf
      refine nw_iald (pc := 28) (n := 2) h rfl rfl h_28 dX5_undo_28 ?_
      refine nw_iconst (pc := 29) (v := 1) h dX5_undo_29 (by decide) ?_
      refine nw_isub (pc := 30) h dX5_undo_30 ?_
      obtain ⟨h_31, hf⟩ := hf
      refine nw_iast (pc := 31) (n := 2) h rfl rfl h_31 dX5_undo_31 ?_
      refine nw_aload_n (pc := 32) h dX5_undo_32 rfl 0 rfl ?_
      refine gf5_7 (pc := 33) (r := 38) h rfl rfl dX5_undo_33 ?_
      refine nw_iload_n (pc := 36) h dX5_undo_36 rfl 1 rfl ?_
      obtain ⟨h_37, hf⟩ := hf
      refine nw_iald (pc := 37) (n := 2) h rfl rfl h_37 dX5_undo_37 ?_
      exact nw_iret (pc := 38) h he dX5_undo_38 ⟨_, rfl, hf⟩
    · have hf := hf.1 c_16
      refine nw_bipush (pc := 19) (v := -3) h dX5_undo_19 (by decide) ?_
      exact nw_iret (pc := 21) h he dX5_undo_21 ⟨_, rfl, hf⟩
  · have hf := hf.1 c_4
    refine nw_bipush (pc := 7) (v := -2) h dX5_undo_7 (by decide) ?_
    exact nw_iret (pc := 9) h he dX5_undo_9 ⟨_, rfl, hf⟩
def v5_figureAt (σ : nw_ST) (a1 : Int32) (a2 : Int32) : Int32 := (if ((nw_gA σ 38 a1.toNatClampNeg) ≤ a2) then (-1 : Int32) else (if ((v5_in ((nw_gA σ 39 (((47 : Int32) * a1) + a2).toNatClampNeg) - (48 : Int32)) (0 : Int32) (9 : Int32)) = 0) then (-1 : Int32) else ((nw_gA σ 39 (((47 : Int32) * a1) + a2).toNatClampNeg) - (48 : Int32))))
def o5_figureAt (σ : nw_ST) (a1 : Int32) (a2 : Int32) : Prop := ((vp_in a1 2) ∧ ((((nw_gA σ 38 a1.toNatClampNeg) ≤ a2) → True) ∧ (¬ ((nw_gA σ 38 a1.toNatClampNeg) ≤ a2) → (vp_in (((47 : Int32) * a1) + a2) 94))))
def rm5_figureAt : Room := { frames := 1, cells := 0, slots := 0, locals := 22 }
theorem yd5_figureAt : yX5_figureAt.cls = RX5 ∧ yX5_figureAt.cls ≠ "java/lang/invoke/MethodHandle" ∧ yX5_figureAt.cls ≠ "java/lang/invoke/VarHandle" ∧ (parseMethodDescriptor yX5_figureAt.desc).map (fun d => d.parameters.length) = some 2 := by decide +kernel
set_option maxHeartbeats 4000000 in
set_option maxRecDepth 100000 in
theorem ct5_figureAt (l : Launch) (P : nw_PT) (hD : nw_D P) (σ : nw_ST) (a1 : Int32) (a2 : Int32)  (ho : o5_figureAt σ a1 a2) : nw_MT l yX5_figureAt cX5_figureAt 4 (some .int) rm5_figureAt P [.ref (P.2.1 37), .int a1, .int a2] σ (nw_Ki (fun r s2 => r = (v5_figureAt σ a1 a2) ∧ s2 = σ)) := by
  refine nw_enter (by decide) (by first | decide | exact Nat.le_of_ble_eq_true rfl) hD ?_
  intro X hl h he hR
  subst hl
  have h : nw_ok P X cX5_figureAt RX5 4 := h
  show nw_G P X 4 σ [(0, .ref (P.2.1 37)), (1, .int a1), (2, .int a2)] 0 []
  unfold o5_figureAt at ho
  refine nw_iload_n (pc := 0) h dX5_figureAt_0 rfl 2 rfl ?_
  refine nw_aload_n (pc := 1) h dX5_figureAt_1 rfl 0 rfl ?_
  refine gf5_7 (pc := 2) (r := 38) h rfl rfl dX5_figureAt_2 ?_
  refine nw_iload_n (pc := 5) h dX5_figureAt_5 rfl 1 rfl ?_
  obtain ⟨h_6, ho⟩ := ho
  refine nw_iald (pc := 6) (n := 2) h rfl rfl h_6 dX5_figureAt_6 ?_
  refine nw_icmp_ge (pc := 7) (tgt := 27) h dX5_figureAt_7 (by decide) (fun c_7 => ?_) (fun c_7 => ?_)
  · skip
    have ho := ho.1 c_7
    refine nw_iconst (pc := 27) (v := -1) h dX5_figureAt_27 (by decide) ?_
    refine nw_istore_n (pc := 28) (lv' := [(3, .int (-1 : Int32)), (0, .ref (P.2.1 37)), (1, .int a1), (2, .int a2)]) h dX5_figureAt_28 rfl (by decide) rfl ?_
    refine nw_iload_n (pc := 29) h dX5_figureAt_29 rfl 0 rfl ?_
    refine nw_iconst (pc := 30) (v := 0) h dX5_figureAt_30 (by decide) ?_
    refine nw_bipush (pc := 31) (v := 9) h dX5_figureAt_31 (by decide) ?_
    refine klX5_89 (pc := 33) h (by rw [hR]; decide) (Nat.le_of_ble_eq_true rfl) dX5_figureAt_33 ?_
    refine nw_if_eq (pc := 36) (tgt := 43) h dX5_figureAt_36 (by decide) (fun c_36 => ?_) (fun c_36 => ?_)
    · skip
      refine nw_iconst (pc := 43) (v := -1) h dX5_figureAt_43 (by decide) ?_
      exact nw_iret (pc := 44) h he dX5_figureAt_44 ⟨_, rfl, (by unfold v5_figureAt; rw [if_pos c_7]), rfl⟩
    · skip
      refine nw_iload_n (pc := 39) h dX5_figureAt_39 rfl 0 rfl ?_
      refine nw_goto (pc := 40) (tgt := 44) h dX5_figureAt_40 (by decide) ?_
      exact nw_iret (pc := 44) h he dX5_figureAt_44 ⟨_, rfl, (by unfold v5_figureAt; rw [if_pos c_7]), rfl⟩
  · skip
    have ho := ho.2 c_7
    refine nw_aload_n (pc := 10) h dX5_figureAt_10 rfl 0 rfl ?_
    refine gf5_13 (pc := 11) (r := 39) h rfl rfl dX5_figureAt_11 ?_
    refine nw_bipush (pc := 14) (v := 47) h dX5_figureAt_14 (by decide) ?_
    refine nw_iload_n (pc := 16) h dX5_figureAt_16 rfl 1 rfl ?_
    refine nw_imul (pc := 17) h dX5_figureAt_17 ?_
    refine nw_iload_n (pc := 18) h dX5_figureAt_18 rfl 2 rfl ?_
    refine nw_iadd (pc := 19) h dX5_figureAt_19 ?_
    have h_20 := ho
    refine nw_iald (pc := 20) (n := 94) h rfl rfl h_20 dX5_figureAt_20 ?_
    refine nw_bipush (pc := 21) (v := 48) h dX5_figureAt_21 (by decide) ?_
    refine nw_isub (pc := 23) h dX5_figureAt_23 ?_
    refine nw_goto (pc := 24) (tgt := 28) h dX5_figureAt_24 (by decide) ?_
    refine nw_istore_n (pc := 28) (lv' := [(3, .int ((nw_gA σ 39 (((47 : Int32) * a1) + a2).toNatClampNeg) - (48 : Int32))), (0, .ref (P.2.1 37)), (1, .int a1), (2, .int a2)]) h dX5_figureAt_28 rfl (by decide) rfl ?_
    refine nw_iload_n (pc := 29) h dX5_figureAt_29 rfl 0 rfl ?_
    refine nw_iconst (pc := 30) (v := 0) h dX5_figureAt_30 (by decide) ?_
    refine nw_bipush (pc := 31) (v := 9) h dX5_figureAt_31 (by decide) ?_
    refine klX5_89 (pc := 33) h (by rw [hR]; decide) (Nat.le_of_ble_eq_true rfl) dX5_figureAt_33 ?_
    refine nw_if_eq (pc := 36) (tgt := 43) h dX5_figureAt_36 (by decide) (fun c_36 => ?_) (fun c_36 => ?_)
    · skip
      refine nw_iconst (pc := 43) (v := -1) h dX5_figureAt_43 (by decide) ?_
      exact nw_iret (pc := 44) h he dX5_figureAt_44 ⟨_, rfl, (by unfold v5_figureAt; rw [if_neg c_7, if_pos c_36]), rfl⟩
    · skip
      refine nw_iload_n (pc := 39) h dX5_figureAt_39 rfl 0 rfl ?_
      refine nw_goto (pc := 40) (tgt := 44) h dX5_figureAt_40 (by decide) ?_
      exact nw_iret (pc := 44) h he dX5_figureAt_44 ⟨_, rfl, (by unfold v5_figureAt; rw [if_neg c_7, if_neg c_36]), rfl⟩
theorem klX5_97 {P : nw_PT} {X : nw_EX} {cc : ByteArray} {nL : Nat} {σ : nw_ST} {lv : List (Nat × Value)} {pc : Nat} {rest : List Value} {a1 : Int32} {a2 : Int32} (h : nw_ok P X cc RX5 nL) (hR : rm5_figureAt.frames + 1 ≤ X.2.2.2.1.frames ∧ 8 + (4 + 11) + rm5_figureAt.locals ≤ X.2.2.2.1.locals)  (ho : o5_figureAt σ a1 a2) (hst : (rest.map fun v => v.category).sum ≤ 8) (hd : decode cc pc = .ok (.invokevirtual 97, 3)) (k : nw_G P X nL σ lv (pc + 3) (.int (v5_figureAt σ a1 a2) :: rest)) : nw_G P X nL σ lv pc (.int a2 :: .int a1 :: .ref (P.2.1 37) :: rest) :=
  nw_callV (As := [.int a1, .int a2]) (rest := rest) (C := RX5) (ci := 5) h (ct5_figureAt _ P h.2.2 σ a1 a2 ho) (nw_goodV nw_w349 nw_w350 nw_w351 nw_w342 nw_w352) yd5_figureAt rfl hR ⟨rfl, rfl⟩ rfl (by decide) rfl rfl hst rfl hd (fun v s2 z => by obtain ⟨r, rfl, rfl, rfl⟩ := z; exact k)
def v5_twoAt (σ : nw_ST) (a1 : Int32) (a2 : Int32) : Int32 := (((10 : Int32) * (v5_figureAt σ a1 a2)) + (v5_figureAt σ a1 (a2 + (1 : Int32))))
def o5_twoAt (σ : nw_ST) (a1 : Int32) (a2 : Int32) : Prop := ((o5_figureAt σ a1 a2) ∧ (o5_figureAt σ a1 (a2 + (1 : Int32))))
def rm5_twoAt : Room := { frames := 2, cells := 0, slots := 0, locals := 45 }
theorem yd5_twoAt : yX5_twoAt.cls = RX5 ∧ yX5_twoAt.cls ≠ "java/lang/invoke/MethodHandle" ∧ yX5_twoAt.cls ≠ "java/lang/invoke/VarHandle" ∧ (parseMethodDescriptor yX5_twoAt.desc).map (fun d => d.parameters.length) = some 2 := by decide +kernel
set_option maxHeartbeats 4000000 in
set_option maxRecDepth 100000 in
theorem ct5_twoAt (l : Launch) (P : nw_PT) (hD : nw_D P) (σ : nw_ST) (a1 : Int32) (a2 : Int32)  (ho : o5_twoAt σ a1 a2) : nw_MT l yX5_twoAt cX5_twoAt 3 (some .int) rm5_twoAt P [.ref (P.2.1 37), .int a1, .int a2] σ (nw_Ki (fun r s2 => r = (v5_twoAt σ a1 a2) ∧ s2 = σ)) := by
  refine nw_enter (by decide) (by first | decide | exact Nat.le_of_ble_eq_true rfl) hD ?_
  intro X hl h he hR
  subst hl
  have h : nw_ok P X cX5_twoAt RX5 3 := h
  show nw_G P X 3 σ [(0, .ref (P.2.1 37)), (1, .int a1), (2, .int a2)] 0 []
  unfold o5_twoAt at ho
  refine nw_bipush (pc := 0) (v := 10) h dX5_twoAt_0 (by decide) ?_
  refine nw_aload_n (pc := 2) h dX5_twoAt_2 rfl 0 rfl ?_
  refine nw_iload_n (pc := 3) h dX5_twoAt_3 rfl 1 rfl ?_
  refine nw_iload_n (pc := 4) h dX5_twoAt_4 rfl 2 rfl ?_
  obtain ⟨h_5, ho⟩ := ho
  refine klX5_97 (pc := 5) h (by rw [hR]; decide) h_5 (Nat.le_of_ble_eq_true rfl) dX5_twoAt_5 ?_
  refine nw_imul (pc := 8) h dX5_twoAt_8 ?_
  refine nw_aload_n (pc := 9) h dX5_twoAt_9 rfl 0 rfl ?_
  refine nw_iload_n (pc := 10) h dX5_twoAt_10 rfl 1 rfl ?_
  refine nw_iload_n (pc := 11) h dX5_twoAt_11 rfl 2 rfl ?_
  refine nw_iconst (pc := 12) (v := 1) h dX5_twoAt_12 (by decide) ?_
  refine nw_iadd (pc := 13) h dX5_twoAt_13 ?_
  have h_14 := ho
  refine klX5_97 (pc := 14) h (by rw [hR]; decide) h_14 (Nat.le_of_ble_eq_true rfl) dX5_twoAt_14 ?_
  refine nw_iadd (pc := 17) h dX5_twoAt_17 ?_
  exact nw_iret (pc := 18) h he dX5_twoAt_18 ⟨_, rfl, rfl, rfl⟩
theorem gf5_25 {P : nw_PT} {X : nw_EX} {cc : ByteArray} {nL : Nat} {σ : nw_ST} {lv : List (Nat × Value)} {pc : Nat} {st : List Value} {q : Nat} (h : nw_ok P X cc RX5 nL) (hq : nw_cl q = 5) {r : Nat} (hr : nw_rf q 7 = r) (hd : decode cc pc = .ok (.getfield 25, 3)) (k : nw_G P X nL σ lv (pc + 3) (.ref (P.2.1 r) :: st)) : nw_G P X nL σ lv pc (.ref (P.2.1 q) :: st) := by
  subst hr; intro H locs ls h1 h2 h3
  exact va_get (D := P.1) (ci := 5) (C := RX5) (T := TX5) (N := 38) h.1.1 h.1.2.1 h.1.2.2.2.2 in_T5 h.1.2.2.2.1 h.2.1.1 h1 q (nw_at5 hq) rfl 7 (by decide) (h.1.2.2.2.2 _ nw_w353) (fun _ z => z) rfl hd (k H locs ls h1 h2 h3)
theorem klX5_101 {P : nw_PT} {X : nw_EX} {cc : ByteArray} {nL : Nat} {σ : nw_ST} {lv : List (Nat × Value)} {pc : Nat} {rest : List Value} {a1 : Int32} {a2 : Int32} (h : nw_ok P X cc RX5 nL) (hR : rm5_twoAt.frames + 1 ≤ X.2.2.2.1.frames ∧ 8 + (3 + 11) + rm5_twoAt.locals ≤ X.2.2.2.1.locals)  (ho : o5_twoAt σ a1 a2) (hst : (rest.map fun v => v.category).sum ≤ 8) (hd : decode cc pc = .ok (.invokevirtual 101, 3)) (k : nw_G P X nL σ lv (pc + 3) (.int (v5_twoAt σ a1 a2) :: rest)) : nw_G P X nL σ lv pc (.int a2 :: .int a1 :: .ref (P.2.1 37) :: rest) :=
  nw_callV (As := [.int a1, .int a2]) (rest := rest) (C := RX5) (ci := 5) h (ct5_twoAt _ P h.2.2 σ a1 a2 ho) (nw_goodV nw_w354 nw_w355 nw_w356 nw_w342 nw_w357) yd5_twoAt rfl hR ⟨rfl, rfl⟩ rfl (by decide) rfl rfl hst rfl hd (fun v s2 z => by obtain ⟨r, rfl, rfl, rfl⟩ := z; exact k)
theorem gf5_28 {P : nw_PT} {X : nw_EX} {cc : ByteArray} {nL : Nat} {σ : nw_ST} {lv : List (Nat × Value)} {pc : Nat} {st : List Value} {q : Nat} (h : nw_ok P X cc RX5 nL) (hq : nw_cl q = 5) {r : Nat} (hr : nw_rf q 8 = r) (hd : decode cc pc = .ok (.getfield 28, 3)) (k : nw_G P X nL σ lv (pc + 3) (.ref (P.2.1 r) :: st)) : nw_G P X nL σ lv pc (.ref (P.2.1 q) :: st) := by
  subst hr; intro H locs ls h1 h2 h3
  exact va_get (D := P.1) (ci := 5) (C := RX5) (T := TX5) (N := 38) h.1.1 h.1.2.1 h.1.2.2.2.2 in_T5 h.1.2.2.2.1 h.2.1.1 h1 q (nw_at5 hq) rfl 8 (by decide) (h.1.2.2.2.2 _ nw_w358) (fun _ z => z) rfl hd (k H locs ls h1 h2 h3)
theorem gf5_31 {P : nw_PT} {X : nw_EX} {cc : ByteArray} {nL : Nat} {σ : nw_ST} {lv : List (Nat × Value)} {pc : Nat} {st : List Value} {q : Nat} (h : nw_ok P X cc RX5 nL) (hq : nw_cl q = 5) {r : Nat} (hr : nw_rf q 9 = r) (hd : decode cc pc = .ok (.getfield 31, 3)) (k : nw_G P X nL σ lv (pc + 3) (.ref (P.2.1 r) :: st)) : nw_G P X nL σ lv pc (.ref (P.2.1 q) :: st) := by
  subst hr; intro H locs ls h1 h2 h3
  exact va_get (D := P.1) (ci := 5) (C := RX5) (T := TX5) (N := 38) h.1.1 h.1.2.1 h.1.2.2.2.2 in_T5 h.1.2.2.2.1 h.2.1.1 h1 q (nw_at5 hq) rfl 9 (by decide) (h.1.2.2.2.2 _ nw_w359) (fun _ z => z) rfl hd (k H locs ls h1 h2 h3)
theorem gf5_16 {P : nw_PT} {X : nw_EX} {cc : ByteArray} {nL : Nat} {σ : nw_ST} {lv : List (Nat × Value)} {pc : Nat} {st : List Value} {q : Nat} (h : nw_ok P X cc RX5 nL) (hq : nw_cl q = 5) {r : Nat} (hr : nw_rf q 3 = r) (hd : decode cc pc = .ok (.getfield 16, 3)) (k : nw_G P X nL σ lv (pc + 3) (.ref (P.2.1 r) :: st)) : nw_G P X nL σ lv pc (.ref (P.2.1 q) :: st) := by
  subst hr; intro H locs ls h1 h2 h3
  exact va_get (D := P.1) (ci := 5) (C := RX5) (T := TX5) (N := 38) h.1.1 h.1.2.1 h.1.2.2.2.2 in_T5 h.1.2.2.2.1 h.2.1.1 h1 q (nw_at5 hq) rfl 3 (by decide) (h.1.2.2.2.2 _ nw_w360) (fun _ z => z) rfl hd (k H locs ls h1 h2 h3)
theorem gf5_19 {P : nw_PT} {X : nw_EX} {cc : ByteArray} {nL : Nat} {σ : nw_ST} {lv : List (Nat × Value)} {pc : Nat} {st : List Value} {q : Nat} (h : nw_ok P X cc RX5 nL) (hq : nw_cl q = 5) {r : Nat} (hr : nw_rf q 4 = r) (hd : decode cc pc = .ok (.getfield 19, 3)) (k : nw_G P X nL σ lv (pc + 3) (.ref (P.2.1 r) :: st)) : nw_G P X nL σ lv pc (.ref (P.2.1 q) :: st) := by
  subst hr; intro H locs ls h1 h2 h3
  exact va_get (D := P.1) (ci := 5) (C := RX5) (T := TX5) (N := 38) h.1.1 h.1.2.1 h.1.2.2.2.2 in_T5 h.1.2.2.2.1 h.2.1.1 h1 q (nw_at5 hq) rfl 4 (by decide) (h.1.2.2.2.2 _ nw_w361) (fun _ z => z) rfl hd (k H locs ls h1 h2 h3)
theorem gf5_22 {P : nw_PT} {X : nw_EX} {cc : ByteArray} {nL : Nat} {σ : nw_ST} {lv : List (Nat × Value)} {pc : Nat} {st : List Value} {q : Nat} (h : nw_ok P X cc RX5 nL) (hq : nw_cl q = 5) {r : Nat} (hr : nw_rf q 5 = r) (hd : decode cc pc = .ok (.getfield 22, 3)) (k : nw_G P X nL σ lv (pc + 3) (.ref (P.2.1 r) :: st)) : nw_G P X nL σ lv pc (.ref (P.2.1 q) :: st) := by
  subst hr; intro H locs ls h1 h2 h3
  exact va_get (D := P.1) (ci := 5) (C := RX5) (T := TX5) (N := 38) h.1.1 h.1.2.1 h.1.2.2.2.2 in_T5 h.1.2.2.2.1 h.2.1.1 h1 q (nw_at5 hq) rfl 5 (by decide) (h.1.2.2.2.2 _ nw_w362) (fun _ z => z) rfl hd (k H locs ls h1 h2 h3)
def f5_readsOne_217 (K : Int32 → nw_ST → Prop) (σ : nw_ST) (x4 : Int32) (y0 : Int32) (y1 : Int32) : Prop := ((vp_in y1 9) ∧ (K x4 (nw_sA σ 45 y1.toNatClampNeg y0)))
def f5_readsOne_193 (K : Int32 → nw_ST → Prop) (σ : nw_ST) (x2 : Int32) (x3 : Int32) (x4 : Int32) (y0 : Int32) (y1 : Int32) : Prop := ((vp_in y1 9) ∧ ((((x4 = (5 : Int32)) → (o5_figureAt (nw_sA σ 44 y1.toNatClampNeg y0) (1 : Int32) (x3 + (4 : Int32)))) ∧ (¬ (x4 = (5 : Int32)) → True)) ∧ (f5_readsOne_217 K (nw_sA σ 44 y1.toNatClampNeg y0) x4 (if (x4 = (5 : Int32)) then (v5_figureAt (nw_sA σ 44 y1.toNatClampNeg y0) (1 : Int32) (x3 + (4 : Int32))) else (0 : Int32)) x2)))
def f5_readsOne_169 (K : Int32 → nw_ST → Prop) (σ : nw_ST) (x2 : Int32) (x3 : Int32) (x4 : Int32) (y0 : Int32) (y1 : Int32) : Prop := ((vp_in y1 9) ∧ ((((x4 = (5 : Int32)) → (o5_twoAt (nw_sA σ 43 y1.toNatClampNeg y0) (1 : Int32) (x3 + (2 : Int32)))) ∧ (¬ (x4 = (5 : Int32)) → True)) ∧ (f5_readsOne_193 K (nw_sA σ 43 y1.toNatClampNeg y0) x2 x3 x4 (if (x4 = (5 : Int32)) then (v5_twoAt (nw_sA σ 43 y1.toNatClampNeg y0) (1 : Int32) (x3 + (2 : Int32))) else (0 : Int32)) x2)))
def f5_readsOne_148 (K : Int32 → nw_ST → Prop) (σ : nw_ST) (x2 : Int32) (x3 : Int32) (x4 : Int32) : Prop := ((((x4 = (5 : Int32)) → (o5_twoAt σ (1 : Int32) x3)) ∧ (¬ (x4 = (5 : Int32)) → True)) ∧ (f5_readsOne_169 K σ x2 x3 x4 (if (x4 = (5 : Int32)) then (v5_twoAt σ (1 : Int32) x3) else (1 : Int32)) x2))
def f5_readsOne_127 (K : Int32 → nw_ST → Prop) (σ : nw_ST) (x4 : Int32) (y0 : Int32) (y1 : Int32) : Prop := ((vp_in y1 7) ∧ (K x4 (nw_sA σ 42 y1.toNatClampNeg y0)))
def f5_readsOne_103 (K : Int32 → nw_ST → Prop) (σ : nw_ST) (x2 : Int32) (x3 : Int32) (x4 : Int32) (y0 : Int32) (y1 : Int32) : Prop := ((vp_in y1 7) ∧ ((((x4 = (5 : Int32)) → (o5_twoAt (nw_sA σ 41 y1.toNatClampNeg y0) (0 : Int32) (x3 + (3 : Int32)))) ∧ (¬ (x4 = (5 : Int32)) → True)) ∧ (f5_readsOne_127 K (nw_sA σ 41 y1.toNatClampNeg y0) x4 (if (x4 = (5 : Int32)) then (v5_twoAt (nw_sA σ 41 y1.toNatClampNeg y0) (0 : Int32) (x3 + (3 : Int32))) else (0 : Int32)) x2)))
def f5_readsOne_68 (K : Int32 → nw_ST → Prop) (σ : nw_ST) (x2 : Int32) (x3 : Int32) (x4 : Int32) : Prop := ((o5_figureAt σ (0 : Int32) x3) ∧ ((vp_in x2 7) ∧ ((((x4 = (5 : Int32)) → (o5_twoAt (nw_sA σ 40 x2.toNatClampNeg (v5_figureAt σ (0 : Int32) x3)) (0 : Int32) (x3 + (1 : Int32)))) ∧ (¬ (x4 = (5 : Int32)) → True)) ∧ (f5_readsOne_103 K (nw_sA σ 40 x2.toNatClampNeg (v5_figureAt σ (0 : Int32) x3)) x2 x3 x4 (if (x4 = (5 : Int32)) then (v5_twoAt (nw_sA σ 40 x2.toNatClampNeg (v5_figureAt σ (0 : Int32) x3)) (0 : Int32) (x3 + (1 : Int32))) else (2 : Int32)) x2))))
def f5_readsOne_48 (K : Int32 → nw_ST → Prop) (σ : nw_ST) (x2 : Int32) (x3 : Int32) (x4 : Int32) : Prop := (((x4 ≤ (2 : Int32)) → (f5_readsOne_68 K σ x2 x3 x4)) ∧ (¬ (x4 ≤ (2 : Int32)) → ((o5_twoAt σ (0 : Int32) (x3 + (1 : Int32))) ∧ ((((2 : Int32) ≤ (v5_twoAt σ (0 : Int32) (x3 + (1 : Int32)))) → (f5_readsOne_68 K σ x2 x3 x4)) ∧ (¬ ((2 : Int32) ≤ (v5_twoAt σ (0 : Int32) (x3 + (1 : Int32)))) → (K (2 : Int32) σ))))))
def f5_readsOne_28 (K : Int32 → nw_ST → Prop) (σ : nw_ST) (x1 : Int32) (x2 : Int32) (x3 : Int32) (x4 : Int32) : Prop := (((x1 = 0) → (((x4 ≤ 0) → (f5_readsOne_48 K σ x2 x3 x4)) ∧ (¬ (x4 ≤ 0) → ((o5_figureAt σ (0 : Int32) x3) ∧ ((((v5_figureAt σ (0 : Int32) x3) = 0) → (K (0 : Int32) σ)) ∧ (¬ ((v5_figureAt σ (0 : Int32) x3) = 0) → (f5_readsOne_48 K σ x2 x3 x4))))))) ∧ (¬ (x1 = 0) → (((x4 ≤ (1 : Int32)) → (f5_readsOne_148 K σ x2 x3 x4)) ∧ (¬ (x4 ≤ (1 : Int32)) → ((o5_twoAt σ (1 : Int32) x3) ∧ ((((v5_twoAt σ (1 : Int32) x3) = 0) → (K (1 : Int32) σ)) ∧ (¬ ((v5_twoAt σ (1 : Int32) x3) = 0) → (f5_readsOne_148 K σ x2 x3 x4))))))))
def b5_readsOne_3 (K : Int32 → nw_ST → Prop) (H_3 : nw_ST → Int32 → Int32 → Int32 → Int32 → Prop) (σ : nw_ST) (x1 : Int32) (x2 : Int32) (x3 : Int32) (x4 : Int32) : Prop := ((((5 : Int32) ≤ x4) → (f5_readsOne_28 K σ x1 x2 x3 x4)) ∧ (¬ ((5 : Int32) ≤ x4) → ((o5_figureAt σ x1 (x3 + x4)) ∧ ((((v5_figureAt σ x1 (x3 + x4)) = (-1 : Int32)) → (f5_readsOne_28 K σ x1 x2 x3 x4)) ∧ (¬ ((v5_figureAt σ x1 (x3 + x4)) = (-1 : Int32)) → (H_3 σ x1 x2 x3 (x4 + (1 : Int32))))))))
def f5_readsOne_3 (K : Int32 → nw_ST → Prop) : Nat → nw_ST → Int32 → Int32 → Int32 → Int32 → Prop
  | 0 => fun _ _ _ _ _ => False
  | n + 1 => b5_readsOne_3 K (f5_readsOne_3 K n)
def f5_readsOne (K : Int32 → nw_ST → Prop) (σ : nw_ST) (a1 : Int32) (a2 : Int32) (a3 : Int32) : Prop := (∃ n, f5_readsOne_3 K n σ a1 a2 a3 (0 : Int32))
def rm5_readsOne : Room := { frames := 3, cells := 0, slots := 0, locals := 67 }
theorem yd5_readsOne : yX5_readsOne.cls = RX5 ∧ yX5_readsOne.cls ≠ "java/lang/invoke/MethodHandle" ∧ yX5_readsOne.cls ≠ "java/lang/invoke/VarHandle" ∧ (parseMethodDescriptor yX5_readsOne.desc).map (fun d => d.parameters.length) = some 3 := by decide +kernel
set_option maxHeartbeats 4000000 in
set_option maxRecDepth 100000 in
theorem ct5_readsOne (l : Launch) (P : nw_PT) (hD : nw_D P) (σ : nw_ST) (a1 : Int32) (a2 : Int32) (a3 : Int32)  (K : Int32 → nw_ST → Prop) (hf : f5_readsOne K σ a1 a2 a3) : nw_MT l yX5_readsOne cX5_readsOne 5 (some .int) rm5_readsOne P [.ref (P.2.1 37), .int a1, .int a2, .int a3] σ (nw_Ki K) := by
  refine nw_enter (by decide) (by first | decide | exact Nat.le_of_ble_eq_true rfl) hD ?_
  intro X hl h he hR
  subst hl
  have h : nw_ok P X cX5_readsOne RX5 5 := h
  show nw_G P X 5 σ [(0, .ref (P.2.1 37)), (1, .int a1), (2, .int a2), (3, .int a3)] 0 []
  have hL_217 :  ∀ (σ : nw_ST) (x4 : Int32) (y0 : Int32) (y1 : Int32), f5_readsOne_217 K σ x4 y0 y1 → nw_G P X 5 σ [(4, .int x4)] 217 [.int y0, .int y1, .ref (P.2.1 45)] := by
    intro σ x4 y0 y1 hf
    unfold f5_readsOne_217 at hf
    obtain ⟨h_217, hf⟩ := hf
    refine nw_iast (pc := 217) (n := 9) h rfl rfl h_217 dX5_readsOne_217 ?_
    refine nw_iload (pc := 218) h dX5_readsOne_218 0 rfl ?_
    exact nw_iret (pc := 220) h he dX5_readsOne_220 ⟨_, rfl, hf⟩
  have hL_193 :  ∀ (σ : nw_ST) (x2 : Int32) (x3 : Int32) (x4 : Int32) (y0 : Int32) (y1 : Int32), f5_readsOne_193 K σ x2 x3 x4 y0 y1 → nw_G P X 5 σ [(0, .ref (P.2.1 37)), (2, .int x2), (3, .int x3), (4, .int x4)] 193 [.int y0, .int y1, .ref (P.2.1 44)] := by
    intro σ x2 x3 x4 y0 y1 hf
    unfold f5_readsOne_193 at hf
    obtain ⟨h_193, hf⟩ := hf
    refine nw_iast (pc := 193) (n := 9) h rfl rfl h_193 dX5_readsOne_193 ?_
    refine nw_aload_n (pc := 194) h dX5_readsOne_194 rfl 0 rfl ?_
    refine gf5_31 (pc := 195) (r := 45) h rfl rfl dX5_readsOne_195 ?_
    refine nw_iload_n (pc := 198) h dX5_readsOne_198 rfl 1 rfl ?_
    refine nw_iload (pc := 199) h dX5_readsOne_199 3 rfl ?_
    refine nw_iconst (pc := 201) (v := 5) h dX5_readsOne_201 (by decide) ?_
    obtain ⟨ho, hf⟩ := hf
    refine nw_icmp_ne (pc := 202) (tgt := 216) h dX5_readsOne_202 (by decide) (fun c_202 => ?_) (fun c_202 => ?_)
    · skip
      have ho := ho.2 c_202
      refine nw_iconst (pc := 216) (v := 0) h dX5_readsOne_216 (by decide) ?_
      simp only [if_neg c_202] at hf
      refine nw_sub (lv' := [(4, .int x4)]) [3] rfl ?_
      exact hL_217 _ _ _ _ hf
    · skip
      have ho := ho.1 c_202
      refine nw_aload_n (pc := 205) h dX5_readsOne_205 rfl 0 rfl ?_
      refine nw_iconst (pc := 206) (v := 1) h dX5_readsOne_206 (by decide) ?_
      refine nw_iload_n (pc := 207) h dX5_readsOne_207 rfl 2 rfl ?_
      refine nw_iconst (pc := 208) (v := 4) h dX5_readsOne_208 (by decide) ?_
      refine nw_iadd (pc := 209) h dX5_readsOne_209 ?_
      have h_210 := ho
      refine klX5_97 (pc := 210) h (by rw [hR]; decide) h_210 (Nat.le_of_ble_eq_true rfl) dX5_readsOne_210 ?_
      refine nw_goto (pc := 213) (tgt := 217) h dX5_readsOne_213 (by decide) ?_
      simp only [if_pos c_202] at hf
      refine nw_sub (lv' := [(4, .int x4)]) [3] rfl ?_
      exact hL_217 _ _ _ _ hf
  have hL_169 :  ∀ (σ : nw_ST) (x2 : Int32) (x3 : Int32) (x4 : Int32) (y0 : Int32) (y1 : Int32), f5_readsOne_169 K σ x2 x3 x4 y0 y1 → nw_G P X 5 σ [(0, .ref (P.2.1 37)), (2, .int x2), (3, .int x3), (4, .int x4)] 169 [.int y0, .int y1, .ref (P.2.1 43)] := by
    intro σ x2 x3 x4 y0 y1 hf
    unfold f5_readsOne_169 at hf
    obtain ⟨h_169, hf⟩ := hf
    refine nw_iast (pc := 169) (n := 9) h rfl rfl h_169 dX5_readsOne_169 ?_
    refine nw_aload_n (pc := 170) h dX5_readsOne_170 rfl 0 rfl ?_
    refine gf5_28 (pc := 171) (r := 44) h rfl rfl dX5_readsOne_171 ?_
    refine nw_iload_n (pc := 174) h dX5_readsOne_174 rfl 1 rfl ?_
    refine nw_iload (pc := 175) h dX5_readsOne_175 3 rfl ?_
    refine nw_iconst (pc := 177) (v := 5) h dX5_readsOne_177 (by decide) ?_
    obtain ⟨ho, hf⟩ := hf
    refine nw_icmp_ne (pc := 178) (tgt := 192) h dX5_readsOne_178 (by decide) (fun c_178 => ?_) (fun c_178 => ?_)
    · skip
      have ho := ho.2 c_178
      refine nw_iconst (pc := 192) (v := 0) h dX5_readsOne_192 (by decide) ?_
      simp only [if_neg c_178] at hf
      exact hL_193 _ _ _ _ _ _ hf
    · skip
      have ho := ho.1 c_178
      refine nw_aload_n (pc := 181) h dX5_readsOne_181 rfl 0 rfl ?_
      refine nw_iconst (pc := 182) (v := 1) h dX5_readsOne_182 (by decide) ?_
      refine nw_iload_n (pc := 183) h dX5_readsOne_183 rfl 2 rfl ?_
      refine nw_iconst (pc := 184) (v := 2) h dX5_readsOne_184 (by decide) ?_
      refine nw_iadd (pc := 185) h dX5_readsOne_185 ?_
      have h_186 := ho
      refine klX5_101 (pc := 186) h (by rw [hR]; decide) h_186 (Nat.le_of_ble_eq_true rfl) dX5_readsOne_186 ?_
      refine nw_goto (pc := 189) (tgt := 193) h dX5_readsOne_189 (by decide) ?_
      simp only [if_pos c_178] at hf
      exact hL_193 _ _ _ _ _ _ hf
  have hL_148 :  ∀ (σ : nw_ST) (x2 : Int32) (x3 : Int32) (x4 : Int32), f5_readsOne_148 K σ x2 x3 x4 → nw_G P X 5 σ [(0, .ref (P.2.1 37)), (2, .int x2), (3, .int x3), (4, .int x4)] 148 [] := by
    intro σ x2 x3 x4 hf
    unfold f5_readsOne_148 at hf
    refine nw_aload_n (pc := 148) h dX5_readsOne_148 rfl 0 rfl ?_
    refine gf5_25 (pc := 149) (r := 43) h rfl rfl dX5_readsOne_149 ?_
    refine nw_iload_n (pc := 152) h dX5_readsOne_152 rfl 1 rfl ?_
    refine nw_iload (pc := 153) h dX5_readsOne_153 3 rfl ?_
    refine nw_iconst (pc := 155) (v := 5) h dX5_readsOne_155 (by decide) ?_
    obtain ⟨ho, hf⟩ := hf
    refine nw_icmp_ne (pc := 156) (tgt := 168) h dX5_readsOne_156 (by decide) (fun c_156 => ?_) (fun c_156 => ?_)
    · skip
      have ho := ho.2 c_156
      refine nw_iconst (pc := 168) (v := 1) h dX5_readsOne_168 (by decide) ?_
      simp only [if_neg c_156] at hf
      exact hL_169 _ _ _ _ _ _ hf
    · skip
      have ho := ho.1 c_156
      refine nw_aload_n (pc := 159) h dX5_readsOne_159 rfl 0 rfl ?_
      refine nw_iconst (pc := 160) (v := 1) h dX5_readsOne_160 (by decide) ?_
      refine nw_iload_n (pc := 161) h dX5_readsOne_161 rfl 2 rfl ?_
      have h_162 := ho
      refine klX5_101 (pc := 162) h (by rw [hR]; decide) h_162 (Nat.le_of_ble_eq_true rfl) dX5_readsOne_162 ?_
      refine nw_goto (pc := 165) (tgt := 169) h dX5_readsOne_165 (by decide) ?_
      simp only [if_pos c_156] at hf
      exact hL_169 _ _ _ _ _ _ hf
  have hL_127 :  ∀ (σ : nw_ST) (x4 : Int32) (y0 : Int32) (y1 : Int32), f5_readsOne_127 K σ x4 y0 y1 → nw_G P X 5 σ [(4, .int x4)] 127 [.int y0, .int y1, .ref (P.2.1 42)] := by
    intro σ x4 y0 y1 hf
    unfold f5_readsOne_127 at hf
    obtain ⟨h_127, hf⟩ := hf
    refine nw_iast (pc := 127) (n := 7) h rfl rfl h_127 dX5_readsOne_127 ?_
    refine nw_iload (pc := 128) h dX5_readsOne_128 0 rfl ?_
    exact nw_iret (pc := 130) h he dX5_readsOne_130 ⟨_, rfl, hf⟩
  have hL_103 :  ∀ (σ : nw_ST) (x2 : Int32) (x3 : Int32) (x4 : Int32) (y0 : Int32) (y1 : Int32), f5_readsOne_103 K σ x2 x3 x4 y0 y1 → nw_G P X 5 σ [(0, .ref (P.2.1 37)), (2, .int x2), (3, .int x3), (4, .int x4)] 103 [.int y0, .int y1, .ref (P.2.1 41)] := by
    intro σ x2 x3 x4 y0 y1 hf
    unfold f5_readsOne_103 at hf
    obtain ⟨h_103, hf⟩ := hf
    refine nw_iast (pc := 103) (n := 7) h rfl rfl h_103 dX5_readsOne_103 ?_
    refine nw_aload_n (pc := 104) h dX5_readsOne_104 rfl 0 rfl ?_
    refine gf5_22 (pc := 105) (r := 42) h rfl rfl dX5_readsOne_105 ?_
    refine nw_iload_n (pc := 108) h dX5_readsOne_108 rfl 1 rfl ?_
    refine nw_iload (pc := 109) h dX5_readsOne_109 3 rfl ?_
    refine nw_iconst (pc := 111) (v := 5) h dX5_readsOne_111 (by decide) ?_
    obtain ⟨ho, hf⟩ := hf
    refine nw_icmp_ne (pc := 112) (tgt := 126) h dX5_readsOne_112 (by decide) (fun c_112 => ?_) (fun c_112 => ?_)
    · skip
      have ho := ho.2 c_112
      refine nw_iconst (pc := 126) (v := 0) h dX5_readsOne_126 (by decide) ?_
      simp only [if_neg c_112] at hf
      refine nw_sub (lv' := [(4, .int x4)]) [3] rfl ?_
      exact hL_127 _ _ _ _ hf
    · skip
      have ho := ho.1 c_112
      refine nw_aload_n (pc := 115) h dX5_readsOne_115 rfl 0 rfl ?_
      refine nw_iconst (pc := 116) (v := 0) h dX5_readsOne_116 (by decide) ?_
      refine nw_iload_n (pc := 117) h dX5_readsOne_117 rfl 2 rfl ?_
      refine nw_iconst (pc := 118) (v := 3) h dX5_readsOne_118 (by decide) ?_
      refine nw_iadd (pc := 119) h dX5_readsOne_119 ?_
      have h_120 := ho
      refine klX5_101 (pc := 120) h (by rw [hR]; decide) h_120 (Nat.le_of_ble_eq_true rfl) dX5_readsOne_120 ?_
      refine nw_goto (pc := 123) (tgt := 127) h dX5_readsOne_123 (by decide) ?_
      simp only [if_pos c_112] at hf
      refine nw_sub (lv' := [(4, .int x4)]) [3] rfl ?_
      exact hL_127 _ _ _ _ hf
  have hL_68 :  ∀ (σ : nw_ST) (x2 : Int32) (x3 : Int32) (x4 : Int32), f5_readsOne_68 K σ x2 x3 x4 → nw_G P X 5 σ [(0, .ref (P.2.1 37)), (2, .int x2), (3, .int x3), (4, .int x4)] 68 [] := by
    intro σ x2 x3 x4 hf
    unfold f5_readsOne_68 at hf
    refine nw_aload_n (pc := 68) h dX5_readsOne_68 rfl 0 rfl ?_
    refine gf5_16 (pc := 69) (r := 40) h rfl rfl dX5_readsOne_69 ?_
    refine nw_iload_n (pc := 72) h dX5_readsOne_72 rfl 1 rfl ?_
    refine nw_aload_n (pc := 73) h dX5_readsOne_73 rfl 0 rfl ?_
    refine nw_iconst (pc := 74) (v := 0) h dX5_readsOne_74 (by decide) ?_
    refine nw_iload_n (pc := 75) h dX5_readsOne_75 rfl 2 rfl ?_
    obtain ⟨h_76, hf⟩ := hf
    refine klX5_97 (pc := 76) h (by rw [hR]; decide) h_76 (Nat.le_of_ble_eq_true rfl) dX5_readsOne_76 ?_
    obtain ⟨h_79, hf⟩ := hf
    refine nw_iast (pc := 79) (n := 7) h rfl rfl h_79 dX5_readsOne_79 ?_
    refine nw_aload_n (pc := 80) h dX5_readsOne_80 rfl 0 rfl ?_
    refine gf5_19 (pc := 81) (r := 41) h rfl rfl dX5_readsOne_81 ?_
    refine nw_iload_n (pc := 84) h dX5_readsOne_84 rfl 1 rfl ?_
    refine nw_iload (pc := 85) h dX5_readsOne_85 3 rfl ?_
    refine nw_iconst (pc := 87) (v := 5) h dX5_readsOne_87 (by decide) ?_
    obtain ⟨ho, hf⟩ := hf
    refine nw_icmp_ne (pc := 88) (tgt := 102) h dX5_readsOne_88 (by decide) (fun c_88 => ?_) (fun c_88 => ?_)
    · skip
      have ho := ho.2 c_88
      refine nw_iconst (pc := 102) (v := 2) h dX5_readsOne_102 (by decide) ?_
      simp only [if_neg c_88] at hf
      exact hL_103 _ _ _ _ _ _ hf
    · skip
      have ho := ho.1 c_88
      refine nw_aload_n (pc := 91) h dX5_readsOne_91 rfl 0 rfl ?_
      refine nw_iconst (pc := 92) (v := 0) h dX5_readsOne_92 (by decide) ?_
      refine nw_iload_n (pc := 93) h dX5_readsOne_93 rfl 2 rfl ?_
      refine nw_iconst (pc := 94) (v := 1) h dX5_readsOne_94 (by decide) ?_
      refine nw_iadd (pc := 95) h dX5_readsOne_95 ?_
      have h_96 := ho
      refine klX5_101 (pc := 96) h (by rw [hR]; decide) h_96 (Nat.le_of_ble_eq_true rfl) dX5_readsOne_96 ?_
      refine nw_goto (pc := 99) (tgt := 103) h dX5_readsOne_99 (by decide) ?_
      simp only [if_pos c_88] at hf
      exact hL_103 _ _ _ _ _ _ hf
  have hL_48 :  ∀ (σ : nw_ST) (x2 : Int32) (x3 : Int32) (x4 : Int32), f5_readsOne_48 K σ x2 x3 x4 → nw_G P X 5 σ [(0, .ref (P.2.1 37)), (2, .int x2), (3, .int x3), (4, .int x4)] 48 [] := by
    intro σ x2 x3 x4 hf
    unfold f5_readsOne_48 at hf
    refine nw_iload (pc := 48) h dX5_readsOne_48 3 rfl ?_
    refine nw_iconst (pc := 50) (v := 2) h dX5_readsOne_50 (by decide) ?_
    refine nw_icmp_le (pc := 51) (tgt := 68) h dX5_readsOne_51 (by decide) (fun c_51 => ?_) (fun c_51 => ?_)
    · have hf := hf.1 c_51
      exact hL_68 _ _ _ _ (hf)
    · have hf := hf.2 c_51
      refine nw_aload_n (pc := 54) h dX5_readsOne_54 rfl 0 rfl ?_
      refine nw_iconst (pc := 55) (v := 0) h dX5_readsOne_55 (by decide) ?_
      refine nw_iload_n (pc := 56) h dX5_readsOne_56 rfl 2 rfl ?_
      refine nw_iconst (pc := 57) (v := 1) h dX5_readsOne_57 (by decide) ?_
      refine nw_iadd (pc := 58) h dX5_readsOne_58 ?_
      obtain ⟨h_59, hf⟩ := hf
      refine klX5_101 (pc := 59) h (by rw [hR]; decide) h_59 (Nat.le_of_ble_eq_true rfl) dX5_readsOne_59 ?_
      refine nw_iconst (pc := 62) (v := 2) h dX5_readsOne_62 (by decide) ?_
      refine nw_icmp_ge (pc := 63) (tgt := 68) h dX5_readsOne_63 (by decide) (fun c_63 => ?_) (fun c_63 => ?_)
      · have hf := hf.1 c_63
        exact hL_68 _ _ _ _ (hf)
      · have hf := hf.2 c_63
        refine nw_iconst (pc := 66) (v := 2) h dX5_readsOne_66 (by decide) ?_
        exact nw_iret (pc := 67) h he dX5_readsOne_67 ⟨_, rfl, hf⟩
  have hL_28 :  ∀ (σ : nw_ST) (x1 : Int32) (x2 : Int32) (x3 : Int32) (x4 : Int32), f5_readsOne_28 K σ x1 x2 x3 x4 → nw_G P X 5 σ [(0, .ref (P.2.1 37)), (1, .int x1), (2, .int x2), (3, .int x3), (4, .int x4)] 28 [] := by
    intro σ x1 x2 x3 x4 hf
    unfold f5_readsOne_28 at hf
    refine nw_iload_n (pc := 28) h dX5_readsOne_28 rfl 1 rfl ?_
    refine nw_if_ne (pc := 29) (tgt := 131) h dX5_readsOne_29 (by decide) (fun c_29 => ?_) (fun c_29 => ?_)
    · have hf := hf.2 c_29
      refine nw_iload (pc := 131) h dX5_readsOne_131 4 rfl ?_
      refine nw_iconst (pc := 133) (v := 1) h dX5_readsOne_133 (by decide) ?_
      refine nw_icmp_le (pc := 134) (tgt := 148) h dX5_readsOne_134 (by decide) (fun c_134 => ?_) (fun c_134 => ?_)
      · have hf := hf.1 c_134
        refine nw_sub (lv' := [(0, .ref (P.2.1 37)), (2, .int x2), (3, .int x3), (4, .int x4)]) [0, 2, 3, 4] rfl ?_
        exact hL_148 _ _ _ _ (hf)
      · have hf := hf.2 c_134
        refine nw_aload_n (pc := 137) h dX5_readsOne_137 rfl 0 rfl ?_
        refine nw_iconst (pc := 138) (v := 1) h dX5_readsOne_138 (by decide) ?_
        refine nw_iload_n (pc := 139) h dX5_readsOne_139 rfl 3 rfl ?_
        obtain ⟨h_140, hf⟩ := hf
        refine klX5_101 (pc := 140) h (by rw [hR]; decide) h_140 (Nat.le_of_ble_eq_true rfl) dX5_readsOne_140 ?_
        refine nw_if_ne (pc := 143) (tgt := 148) h dX5_readsOne_143 (by decide) (fun c_143 => ?_) (fun c_143 => ?_)
        · have hf := hf.2 c_143
          refine nw_sub (lv' := [(0, .ref (P.2.1 37)), (2, .int x2), (3, .int x3), (4, .int x4)]) [0, 2, 3, 4] rfl ?_
          exact hL_148 _ _ _ _ (hf)
        · have hf := hf.1 c_143
          refine nw_iconst (pc := 146) (v := 1) h dX5_readsOne_146 (by decide) ?_
          exact nw_iret (pc := 147) h he dX5_readsOne_147 ⟨_, rfl, hf⟩
    · have hf := hf.1 c_29
      refine nw_iload (pc := 32) h dX5_readsOne_32 4 rfl ?_
      refine nw_if_le (pc := 34) (tgt := 48) h dX5_readsOne_34 (by decide) (fun c_34 => ?_) (fun c_34 => ?_)
      · have hf := hf.1 c_34
        refine nw_sub (lv' := [(0, .ref (P.2.1 37)), (2, .int x2), (3, .int x3), (4, .int x4)]) [0, 2, 3, 4] rfl ?_
        exact hL_48 _ _ _ _ (hf)
      · have hf := hf.2 c_34
        refine nw_aload_n (pc := 37) h dX5_readsOne_37 rfl 0 rfl ?_
        refine nw_iconst (pc := 38) (v := 0) h dX5_readsOne_38 (by decide) ?_
        refine nw_iload_n (pc := 39) h dX5_readsOne_39 rfl 3 rfl ?_
        obtain ⟨h_40, hf⟩ := hf
        refine klX5_97 (pc := 40) h (by rw [hR]; decide) h_40 (Nat.le_of_ble_eq_true rfl) dX5_readsOne_40 ?_
        refine nw_if_ne (pc := 43) (tgt := 48) h dX5_readsOne_43 (by decide) (fun c_43 => ?_) (fun c_43 => ?_)
        · have hf := hf.2 c_43
          refine nw_sub (lv' := [(0, .ref (P.2.1 37)), (2, .int x2), (3, .int x3), (4, .int x4)]) [0, 2, 3, 4] rfl ?_
          exact hL_48 _ _ _ _ (hf)
        · have hf := hf.1 c_43
          refine nw_iconst (pc := 46) (v := 0) h dX5_readsOne_46 (by decide) ?_
          exact nw_iret (pc := 47) h he dX5_readsOne_47 ⟨_, rfl, hf⟩
  have hB_3 : ∀ (H_3 : nw_ST → Int32 → Int32 → Int32 → Int32 → Prop) (hH_3 : (∀ (σ : nw_ST) (x1 : Int32) (x2 : Int32) (x3 : Int32) (x4 : Int32), H_3 σ x1 x2 x3 x4 → nw_G P X 5 σ [(0, .ref (P.2.1 37)), (1, .int x1), (2, .int x2), (3, .int x3), (4, .int x4)] 3 [])), ∀ (σ : nw_ST) (x1 : Int32) (x2 : Int32) (x3 : Int32) (x4 : Int32), b5_readsOne_3 K H_3 σ x1 x2 x3 x4 → nw_G P X 5 σ [(0, .ref (P.2.1 37)), (1, .int x1), (2, .int x2), (3, .int x3), (4, .int x4)] 3 [] := by
    intro H_3 hH_3 σ x1 x2 x3 x4 hf
    unfold b5_readsOne_3 at hf
    refine nw_iload (pc := 3) h dX5_readsOne_3 4 rfl ?_
    refine nw_iconst (pc := 5) (v := 5) h dX5_readsOne_5 (by decide) ?_
    refine nw_icmp_ge (pc := 6) (tgt := 28) h dX5_readsOne_6 (by decide) (fun c_6 => ?_) (fun c_6 => ?_)
    · have hf := hf.1 c_6
      exact hL_28 _ _ _ _ _ (hf)
    · have hf := hf.2 c_6
      refine nw_aload_n (pc := 9) h dX5_readsOne_9 rfl 0 rfl ?_
      refine nw_iload_n (pc := 10) h dX5_readsOne_10 rfl 1 rfl ?_
      refine nw_iload_n (pc := 11) h dX5_readsOne_11 rfl 3 rfl ?_
      refine nw_iload (pc := 12) h dX5_readsOne_12 4 rfl ?_
      refine nw_iadd (pc := 14) h dX5_readsOne_14 ?_
      obtain ⟨h_15, hf⟩ := hf
      refine klX5_97 (pc := 15) h (by rw [hR]; decide) h_15 (Nat.le_of_ble_eq_true rfl) dX5_readsOne_15 ?_
      refine nw_iconst (pc := 18) (v := -1) h dX5_readsOne_18 (by decide) ?_
      refine nw_icmp_eq (pc := 19) (tgt := 28) h dX5_readsOne_19 (by decide) (fun c_19 => ?_) (fun c_19 => ?_)
      · have hf := hf.1 c_19
        exact hL_28 _ _ _ _ _ (hf)
      · have hf := hf.2 c_19
        refine nw_iinc (pc := 22) (v := (x4 + (1 : Int32))) (lv' := [(4, .int (x4 + (1 : Int32))), (0, .ref (P.2.1 37)), (1, .int x1), (2, .int x2), (3, .int x3)]) h dX5_readsOne_22 (j := 4) rfl rfl (by decide) rfl ?_
        refine nw_goto (pc := 25) (tgt := 3) h dX5_readsOne_25 (by decide) ?_
        refine nw_sub (lv' := [(0, .ref (P.2.1 37)), (1, .int x1), (2, .int x2), (3, .int x3), (4, .int (x4 + (1 : Int32)))]) [1, 2, 3, 4, 0] rfl ?_
        exact hH_3 _ _ _ _ _ (hf)
  have hL_3 :  ∀ (n : Nat) (σ : nw_ST) (x1 : Int32) (x2 : Int32) (x3 : Int32) (x4 : Int32), f5_readsOne_3 K n σ x1 x2 x3 x4 → nw_G P X 5 σ [(0, .ref (P.2.1 37)), (1, .int x1), (2, .int x2), (3, .int x3), (4, .int x4)] 3 [] := by
    intro n
    induction n with
    | zero => intro σ x1 x2 x3 x4 hf; exact False.elim hf
    | succ n ih => exact hB_3 _ ih
  unfold f5_readsOne at hf
  refine nw_iconst (pc := 0) (v := 0) h dX5_readsOne_0 (by decide) ?_
  refine nw_istore (pc := 1) (lv' := [(4, .int (0 : Int32)), (0, .ref (P.2.1 37)), (1, .int a1), (2, .int a2), (3, .int a3)]) h dX5_readsOne_1 (by decide) rfl ?_
  obtain ⟨n_3, hf⟩ := hf
  refine nw_sub (lv' := [(0, .ref (P.2.1 37)), (1, .int a1), (2, .int a2), (3, .int a3), (4, .int (0 : Int32))]) [1, 2, 3, 4, 0] rfl ?_
  exact hL_3 n_3 _ _ _ _ _ hf
theorem gf5_104 {P : nw_PT} {X : nw_EX} {cc : ByteArray} {nL : Nat} {σ : nw_ST} {lv : List (Nat × Value)} {pc : Nat} {st : List Value} {q : Nat} (h : nw_ok P X cc RX5 nL) (hq : nw_cl q = 5) (hd : decode cc pc = .ok (.getfield 104, 3)) (k : nw_G P X nL σ lv (pc + 3) (.int (nw_gS σ q 2) :: st)) : nw_G P X nL σ lv pc (.ref (P.2.1 q) :: st) := by
  intro H locs ls h1 h2 h3
  exact va_get (D := P.1) (ci := 5) (C := RX5) (T := TX5) (N := 38) h.1.1 h.1.2.1 h.1.2.2.2.2 in_T5 h.1.2.2.2.1 h.2.1.1 h1 q (nw_at5 hq) rfl 2 (by decide) (h.1.2.2.2.2 _ nw_w363) (fun _ z => z) rfl hd (k H locs ls h1 h2 h3)
theorem pf5_104 {P : nw_PT} {X : nw_EX} {cc : ByteArray} {nL : Nat} {σ : nw_ST} {lv : List (Nat × Value)} {pc : Nat} {st : List Value} {q : Nat} (h : nw_ok P X cc RX5 nL) (hq : nw_cl q = 5) {v : Int32} (hd : decode cc pc = .ok (.putfield 104, 3)) (k : nw_G P X nL (nw_sS σ q 2 v) lv (pc + 3) st) : nw_G P X nL σ lv pc (.int v :: .ref (P.2.1 q) :: st) := by
  intro H locs ls h1 h2 h3
  exact va_put (D := P.1) (ci := 5) (ty := .int) (C := RX5) (T := TX5) (N := 38) h.1.1 h.1.2.1 h.1.2.2.2.2 in_T5 tyX5 tyX5_ok nmX5 h.1.2.2.2.1 h.2.1.1 h1 (h.2.2 σ) h2 q (nw_at5 hq) rfl 2 (by decide) (h.1.2.2.2.2 _ nw_w363) (fun _ z => z) rfl (by decide +kernel) rfl rfl (by show 2 < 38; decide) hd (fun H1 locs1 g1 _ g2 => k H1 locs1 ls (by rw [nw_set5_2 hq] at g1; exact g1) g2 h3)
theorem gf5_108 {P : nw_PT} {X : nw_EX} {cc : ByteArray} {nL : Nat} {σ : nw_ST} {lv : List (Nat × Value)} {pc : Nat} {st : List Value} {q : Nat} (h : nw_ok P X cc RX5 nL) (hq : nw_cl q = 5) (hd : decode cc pc = .ok (.getfield 108, 3)) (k : nw_G P X nL σ lv (pc + 3) (.int (nw_gS σ q 6) :: st)) : nw_G P X nL σ lv pc (.ref (P.2.1 q) :: st) := by
  intro H locs ls h1 h2 h3
  exact va_get (D := P.1) (ci := 5) (C := RX5) (T := TX5) (N := 38) h.1.1 h.1.2.1 h.1.2.2.2.2 in_T5 h.1.2.2.2.1 h.2.1.1 h1 q (nw_at5 hq) rfl 6 (by decide) (h.1.2.2.2.2 _ nw_w364) (fun _ z => z) rfl hd (k H locs ls h1 h2 h3)
theorem pf5_108 {P : nw_PT} {X : nw_EX} {cc : ByteArray} {nL : Nat} {σ : nw_ST} {lv : List (Nat × Value)} {pc : Nat} {st : List Value} {q : Nat} (h : nw_ok P X cc RX5 nL) (hq : nw_cl q = 5) {v : Int32} (hd : decode cc pc = .ok (.putfield 108, 3)) (k : nw_G P X nL (nw_sS σ q 6 v) lv (pc + 3) st) : nw_G P X nL σ lv pc (.int v :: .ref (P.2.1 q) :: st) := by
  intro H locs ls h1 h2 h3
  exact va_put (D := P.1) (ci := 5) (ty := .int) (C := RX5) (T := TX5) (N := 38) h.1.1 h.1.2.1 h.1.2.2.2.2 in_T5 tyX5 tyX5_ok nmX5 h.1.2.2.2.1 h.2.1.1 h1 (h.2.2 σ) h2 q (nw_at5 hq) rfl 6 (by decide) (h.1.2.2.2.2 _ nw_w364) (fun _ z => z) rfl (by decide +kernel) rfl rfl (by show 6 < 38; decide) hd (fun H1 locs1 g1 _ g2 => k H1 locs1 ls (by rw [nw_set5_6 hq] at g1; exact g1) g2 h3)
theorem klX5_111 {P : nw_PT} {X : nw_EX} {cc : ByteArray} {nL : Nat} {σ : nw_ST} {lv : List (Nat × Value)} {pc : Nat} {rest : List Value} {a1 : Int32} {a2 : Int32} {a3 : Int32} (h : nw_ok P X cc RX5 nL) (hR : rm5_readsOne.frames + 1 ≤ X.2.2.2.1.frames ∧ 8 + (5 + 11) + rm5_readsOne.locals ≤ X.2.2.2.1.locals)  {K : Int32 → nw_ST → Prop} (hf : f5_readsOne K σ a1 a2 a3) (hst : (rest.map fun v => v.category).sum ≤ 8) (hd : decode cc pc = .ok (.invokevirtual 111, 3)) (k : ∀ (r : Int32) (s2 : nw_ST), K r s2 → nw_G P X nL s2 lv (pc + 3) (.int r :: rest)) : nw_G P X nL σ lv pc (.int a3 :: .int a2 :: .int a1 :: .ref (P.2.1 37) :: rest) :=
  nw_callV (As := [.int a1, .int a2, .int a3]) (rest := rest) (C := RX5) (ci := 5) h (ct5_readsOne _ P h.2.2 σ a1 a2 a3 K hf) (nw_goodV nw_w365 nw_w366 nw_w367 nw_w342 nw_w368) yd5_readsOne rfl hR ⟨rfl, rfl⟩ rfl (by decide) rfl rfl hst rfl hd (fun v s2 z => by obtain ⟨r, rfl, z⟩ := z; exact k r s2 z)
def f5_readsText_144 (K : Int32 → nw_ST → Prop) (σ : nw_ST) (y0 : Int32) : Prop := (K (-1 : Int32) (nw_sS σ 37 6 y0))
def f5_readsText_127 (K : Int32 → nw_ST → Prop) (σ : nw_ST) (x1 : Int32) (x3 : Int32) (y0 : Int32) : Prop := (f5_readsText_144 K (nw_sS σ 37 2 y0) (if (x1 = (1 : Int32)) then x3 else (nw_gS (nw_sS σ 37 2 y0) 37 6)))
def f5_readsText_83 (K : Int32 → nw_ST → Prop) (H_50 : nw_ST → Int32 → Int32 → Int32 → Int32 → Prop) (σ : nw_ST) (x1 : Int32) (x2 : Int32) (x3 : Int32) (x4 : Int32) (y0 : Int32) : Prop := ((((5 : Int32) ≤ y0) → ((vp_in x1 2) ∧ ((((x4 + (5 : Int32)) = (nw_gA σ 38 x1.toNatClampNeg)) → (f5_readsText_127 K σ x1 (x3 + (1 : Int32)) (if (x1 = 0) then (x3 + (1 : Int32)) else (nw_gS σ 37 2)))) ∧ (¬ ((x4 + (5 : Int32)) = (nw_gA σ 38 x1.toNatClampNeg)) → ((vp_in (((47 : Int32) * x1) + (x4 + (5 : Int32))) 94) ∧ ((((nw_gA σ 39 (((47 : Int32) * x1) + (x4 + (5 : Int32))).toNatClampNeg) = (59 : Int32)) → (H_50 σ x1 x2 (x3 + (1 : Int32)) ((x4 + (5 : Int32)) + (1 : Int32)))) ∧ (¬ ((nw_gA σ 39 (((47 : Int32) * x1) + (x4 + (5 : Int32))).toNatClampNeg) = (59 : Int32)) → (K (x4 + (5 : Int32)) σ)))))))) ∧ (¬ ((5 : Int32) ≤ y0) → (K (x4 + y0) σ)))
def f5_readsText_66 (K : Int32 → nw_ST → Prop) (H_50 : nw_ST → Int32 → Int32 → Int32 → Int32 → Prop) (σ : nw_ST) (x1 : Int32) (x2 : Int32) (x3 : Int32) (x4 : Int32) : Prop := (((x3 = x2) → (f5_readsText_83 K H_50 σ x1 x2 x3 x4 (0 : Int32))) ∧ (¬ (x3 = x2) → (f5_readsOne (fun (r_80 : Int32) (s_80 : nw_ST) => (f5_readsText_83 K H_50 s_80 x1 x2 x3 x4 r_80)) σ x1 x3 x4)))
def b5_readsText_50 (K : Int32 → nw_ST → Prop) (H_50 : nw_ST → Int32 → Int32 → Int32 → Int32 → Prop) (σ : nw_ST) (x1 : Int32) (x2 : Int32) (x3 : Int32) (x4 : Int32) : Prop := ((vp_in x1 2) ∧ (((x4 < (nw_gA σ 38 x1.toNatClampNeg)) → (f5_readsText_66 K H_50 σ x1 x2 x3 x4)) ∧ (¬ (x4 < (nw_gA σ 38 x1.toNatClampNeg)) → (((x4 ≤ 0) → (K (-1 : Int32) σ)) ∧ (¬ (x4 ≤ 0) → (f5_readsText_66 K H_50 σ x1 x2 x3 x4))))))
def f5_readsText_50 (K : Int32 → nw_ST → Prop) : Nat → nw_ST → Int32 → Int32 → Int32 → Int32 → Prop
  | 0 => fun _ _ _ _ _ => False
  | n + 1 => b5_readsText_50 K (f5_readsText_50 K n)
def f5_readsText_47 (K : Int32 → nw_ST → Prop) (σ : nw_ST) (x1 : Int32) (x2 : Int32) (x3 : Int32) (x4 : Int32) (y0 : Int32) : Prop := (∃ n, f5_readsText_50 K n (nw_sS σ 37 6 y0) x1 x2 x3 x4)
def f5_readsText_30 (K : Int32 → nw_ST → Prop) (σ : nw_ST) (x1 : Int32) (x2 : Int32) (x3 : Int32) (x4 : Int32) (y0 : Int32) : Prop := (f5_readsText_47 K (nw_sS σ 37 2 y0) x1 x2 x3 x4 (if (x1 = (1 : Int32)) then (0 : Int32) else (nw_gS (nw_sS σ 37 2 y0) 37 6)))
def f5_readsText_11 (K : Int32 → nw_ST → Prop) (σ : nw_ST) (x1 : Int32) (y0 : Int32) : Prop := (f5_readsText_30 K σ x1 y0 (0 : Int32) (0 : Int32) (if (x1 = 0) then (0 : Int32) else (nw_gS σ 37 2)))
def f5_readsText (K : Int32 → nw_ST → Prop) (σ : nw_ST) (a1 : Int32) : Prop := (f5_readsText_11 K σ a1 (if (a1 = 0) then (6 : Int32) else (8 : Int32)))
def rm5_readsText : Room := { frames := 4, cells := 0, slots := 0, locals := 91 }
theorem yd5_readsText : yX5_readsText.cls = RX5 ∧ yX5_readsText.cls ≠ "java/lang/invoke/MethodHandle" ∧ yX5_readsText.cls ≠ "java/lang/invoke/VarHandle" ∧ (parseMethodDescriptor yX5_readsText.desc).map (fun d => d.parameters.length) = some 1 := by decide +kernel
set_option maxHeartbeats 4000000 in
set_option maxRecDepth 100000 in
theorem ct5_readsText (l : Launch) (P : nw_PT) (hD : nw_D P) (σ : nw_ST) (a1 : Int32)  (K : Int32 → nw_ST → Prop) (hf : f5_readsText K σ a1) : nw_MT l yX5_readsText cX5_readsText 6 (some .int) rm5_readsText P [.ref (P.2.1 37), .int a1] σ (nw_Ki K) := by
  refine nw_enter (by decide) (by first | decide | exact Nat.le_of_ble_eq_true rfl) hD ?_
  intro X hl h he hR
  subst hl
  have h : nw_ok P X cX5_readsText RX5 6 := h
  show nw_G P X 6 σ [(0, .ref (P.2.1 37)), (1, .int a1)] 0 []
  have hL_144 :  ∀ (σ : nw_ST) (y0 : Int32), f5_readsText_144 K σ y0 → nw_G P X 6 σ [] 144 [.int y0, .ref (P.2.1 37)] := by
    intro σ y0 hf
    unfold f5_readsText_144 at hf
    refine pf5_108 (pc := 144) h rfl dX5_readsText_144 ?_
    refine nw_iconst (pc := 147) (v := -1) h dX5_readsText_147 (by decide) ?_
    exact nw_iret (pc := 148) h he dX5_readsText_148 ⟨_, rfl, hf⟩
  have hL_127 :  ∀ (σ : nw_ST) (x1 : Int32) (x3 : Int32) (y0 : Int32), f5_readsText_127 K σ x1 x3 y0 → nw_G P X 6 σ [(0, .ref (P.2.1 37)), (1, .int x1), (3, .int x3)] 127 [.int y0, .ref (P.2.1 37)] := by
    intro σ x1 x3 y0 hf
    unfold f5_readsText_127 at hf
    refine pf5_104 (pc := 127) h rfl dX5_readsText_127 ?_
    refine nw_aload_n (pc := 130) h dX5_readsText_130 rfl 0 rfl ?_
    refine nw_iload_n (pc := 131) h dX5_readsText_131 rfl 1 rfl ?_
    refine nw_iconst (pc := 132) (v := 1) h dX5_readsText_132 (by decide) ?_
    refine nw_icmp_ne (pc := 133) (tgt := 140) h dX5_readsText_133 (by decide) (fun c_133 => ?_) (fun c_133 => ?_)
    · skip
      refine nw_aload_n (pc := 140) h dX5_readsText_140 rfl 0 rfl ?_
      refine gf5_108 (pc := 141) h rfl dX5_readsText_141 ?_
      simp only [if_neg c_133] at hf
      refine nw_sub (lv' := []) [] rfl ?_
      exact hL_144 _ _ hf
    · skip
      refine nw_iload_n (pc := 136) h dX5_readsText_136 rfl 2 rfl ?_
      refine nw_goto (pc := 137) (tgt := 144) h dX5_readsText_137 (by decide) ?_
      simp only [if_pos c_133] at hf
      refine nw_sub (lv' := []) [] rfl ?_
      exact hL_144 _ _ hf
  have hL_83 : ∀ (H_50 : nw_ST → Int32 → Int32 → Int32 → Int32 → Prop) (hH_50 : (∀ (σ : nw_ST) (x1 : Int32) (x2 : Int32) (x3 : Int32) (x4 : Int32), H_50 σ x1 x2 x3 x4 → nw_G P X 6 σ [(0, .ref (P.2.1 37)), (1, .int x1), (2, .int x2), (3, .int x3), (4, .int x4)] 50 [])), ∀ (σ : nw_ST) (x1 : Int32) (x2 : Int32) (x3 : Int32) (x4 : Int32) (y0 : Int32), f5_readsText_83 K H_50 σ x1 x2 x3 x4 y0 → nw_G P X 6 σ [(0, .ref (P.2.1 37)), (1, .int x1), (2, .int x2), (3, .int x3), (4, .int x4)] 83 [.int y0] := by
    intro H_50 hH_50 σ x1 x2 x3 x4 y0 hf
    unfold f5_readsText_83 at hf
    refine nw_istore (pc := 83) (lv' := [(5, .int y0), (0, .ref (P.2.1 37)), (1, .int x1), (2, .int x2), (3, .int x3), (4, .int x4)]) h dX5_readsText_83 (by decide) rfl ?_
    refine nw_iload (pc := 85) h dX5_readsText_85 0 rfl ?_
    refine nw_iconst (pc := 87) (v := 5) h dX5_readsText_87 (by decide) ?_
    refine nw_icmp_ge (pc := 88) (tgt := 97) h dX5_readsText_88 (by decide) (fun c_88 => ?_) (fun c_88 => ?_)
    · have hf := hf.1 c_88
      refine nw_iinc (pc := 97) (v := (x3 + (1 : Int32))) (lv' := [(3, .int (x3 + (1 : Int32))), (5, .int y0), (0, .ref (P.2.1 37)), (1, .int x1), (2, .int x2), (4, .int x4)]) h dX5_readsText_97 (j := 4) rfl rfl (by decide) rfl ?_
      refine nw_iinc (pc := 100) (v := (x4 + (5 : Int32))) (lv' := [(4, .int (x4 + (5 : Int32))), (3, .int (x3 + (1 : Int32))), (5, .int y0), (0, .ref (P.2.1 37)), (1, .int x1), (2, .int x2)]) h dX5_readsText_100 (j := 5) rfl rfl (by decide) rfl ?_
      refine nw_iload (pc := 103) h dX5_readsText_103 0 rfl ?_
      refine nw_aload_n (pc := 105) h dX5_readsText_105 rfl 3 rfl ?_
      refine gf5_7 (pc := 106) (r := 38) h rfl rfl dX5_readsText_106 ?_
      refine nw_iload_n (pc := 109) h dX5_readsText_109 rfl 4 rfl ?_
      obtain ⟨h_110, hf⟩ := hf
      refine nw_iald (pc := 110) (n := 2) h rfl rfl h_110 dX5_readsText_110 ?_
      refine nw_icmp_ne (pc := 111) (tgt := 149) h dX5_readsText_111 (by decide) (fun c_111 => ?_) (fun c_111 => ?_)
      · have hf := hf.2 c_111
        refine nw_aload_n (pc := 149) h dX5_readsText_149 rfl 3 rfl ?_
        refine gf5_13 (pc := 150) (r := 39) h rfl rfl dX5_readsText_150 ?_
        refine nw_bipush (pc := 153) (v := 47) h dX5_readsText_153 (by decide) ?_
        refine nw_iload_n (pc := 155) h dX5_readsText_155 rfl 4 rfl ?_
        refine nw_imul (pc := 156) h dX5_readsText_156 ?_
        refine nw_iload (pc := 157) h dX5_readsText_157 0 rfl ?_
        refine nw_iadd (pc := 159) h dX5_readsText_159 ?_
        obtain ⟨h_160, hf⟩ := hf
        refine nw_iald (pc := 160) (n := 94) h rfl rfl h_160 dX5_readsText_160 ?_
        refine nw_bipush (pc := 161) (v := 59) h dX5_readsText_161 (by decide) ?_
        refine nw_icmp_eq (pc := 163) (tgt := 169) h dX5_readsText_163 (by decide) (fun c_163 => ?_) (fun c_163 => ?_)
        · have hf := hf.1 c_163
          refine nw_iinc (pc := 169) (v := ((x4 + (5 : Int32)) + (1 : Int32))) (lv' := [(4, .int ((x4 + (5 : Int32)) + (1 : Int32))), (3, .int (x3 + (1 : Int32))), (5, .int y0), (0, .ref (P.2.1 37)), (1, .int x1), (2, .int x2)]) h dX5_readsText_169 (j := 0) rfl rfl (by decide) rfl ?_
          refine nw_goto (pc := 172) (tgt := 50) h dX5_readsText_172 (by decide) ?_
          refine nw_sub (lv' := [(0, .ref (P.2.1 37)), (1, .int x1), (2, .int x2), (3, .int (x3 + (1 : Int32))), (4, .int ((x4 + (5 : Int32)) + (1 : Int32)))]) [3, 4, 5, 1, 0] rfl ?_
          exact hH_50 _ _ _ _ _ (hf)
        · have hf := hf.2 c_163
          refine nw_iload (pc := 166) h dX5_readsText_166 0 rfl ?_
          exact nw_iret (pc := 168) h he dX5_readsText_168 ⟨_, rfl, hf⟩
      · have hf := hf.1 c_111
        refine nw_aload_n (pc := 114) h dX5_readsText_114 rfl 3 rfl ?_
        refine nw_iload_n (pc := 115) h dX5_readsText_115 rfl 4 rfl ?_
        refine nw_if_ne (pc := 116) (tgt := 123) h dX5_readsText_116 (by decide) (fun c_116 => ?_) (fun c_116 => ?_)
        · skip
          refine nw_aload_n (pc := 123) h dX5_readsText_123 rfl 3 rfl ?_
          refine gf5_104 (pc := 124) h rfl dX5_readsText_124 ?_
          simp only [if_neg c_116] at hf
          refine nw_sub (lv' := [(0, .ref (P.2.1 37)), (1, .int x1), (3, .int (x3 + (1 : Int32)))]) [3, 4, 1] rfl ?_
          exact hL_127 _ _ _ _ hf
        · skip
          refine nw_iload_n (pc := 119) h dX5_readsText_119 rfl 1 rfl ?_
          refine nw_goto (pc := 120) (tgt := 127) h dX5_readsText_120 (by decide) ?_
          simp only [if_pos c_116] at hf
          refine nw_sub (lv' := [(0, .ref (P.2.1 37)), (1, .int x1), (3, .int (x3 + (1 : Int32)))]) [3, 4, 1] rfl ?_
          exact hL_127 _ _ _ _ hf
    · have hf := hf.2 c_88
      refine nw_iload (pc := 91) h dX5_readsText_91 5 rfl ?_
      refine nw_iload (pc := 93) h dX5_readsText_93 0 rfl ?_
      refine nw_iadd (pc := 95) h dX5_readsText_95 ?_
      exact nw_iret (pc := 96) h he dX5_readsText_96 ⟨_, rfl, hf⟩
  have hL_66 : ∀ (H_50 : nw_ST → Int32 → Int32 → Int32 → Int32 → Prop) (hH_50 : (∀ (σ : nw_ST) (x1 : Int32) (x2 : Int32) (x3 : Int32) (x4 : Int32), H_50 σ x1 x2 x3 x4 → nw_G P X 6 σ [(0, .ref (P.2.1 37)), (1, .int x1), (2, .int x2), (3, .int x3), (4, .int x4)] 50 [])), ∀ (σ : nw_ST) (x1 : Int32) (x2 : Int32) (x3 : Int32) (x4 : Int32), f5_readsText_66 K H_50 σ x1 x2 x3 x4 → nw_G P X 6 σ [(0, .ref (P.2.1 37)), (1, .int x1), (2, .int x2), (3, .int x3), (4, .int x4)] 66 [] := by
    intro H_50 hH_50 σ x1 x2 x3 x4 hf
    unfold f5_readsText_66 at hf
    refine nw_iload_n (pc := 66) h dX5_readsText_66 rfl 3 rfl ?_
    refine nw_iload_n (pc := 67) h dX5_readsText_67 rfl 2 rfl ?_
    refine nw_icmp_ne (pc := 68) (tgt := 75) h dX5_readsText_68 (by decide) (fun c_68 => ?_) (fun c_68 => ?_)
    · have hf := hf.2 c_68
      refine nw_aload_n (pc := 75) h dX5_readsText_75 rfl 0 rfl ?_
      refine nw_iload_n (pc := 76) h dX5_readsText_76 rfl 1 rfl ?_
      refine nw_iload_n (pc := 77) h dX5_readsText_77 rfl 3 rfl ?_
      refine nw_iload (pc := 78) h dX5_readsText_78 4 rfl ?_
      refine klX5_111 (pc := 80) h (by rw [hR]; decide) hf (Nat.le_of_ble_eq_true rfl) dX5_readsText_80 (fun r_80 s_80 hf => ?_)
      exact hL_83 H_50 hH_50 _ _ _ _ _ _ (hf)
    · have hf := hf.1 c_68
      refine nw_iconst (pc := 71) (v := 0) h dX5_readsText_71 (by decide) ?_
      refine nw_goto (pc := 72) (tgt := 83) h dX5_readsText_72 (by decide) ?_
      exact hL_83 H_50 hH_50 _ _ _ _ _ _ (hf)
  have hB_50 : ∀ (H_50 : nw_ST → Int32 → Int32 → Int32 → Int32 → Prop) (hH_50 : (∀ (σ : nw_ST) (x1 : Int32) (x2 : Int32) (x3 : Int32) (x4 : Int32), H_50 σ x1 x2 x3 x4 → nw_G P X 6 σ [(0, .ref (P.2.1 37)), (1, .int x1), (2, .int x2), (3, .int x3), (4, .int x4)] 50 [])), ∀ (σ : nw_ST) (x1 : Int32) (x2 : Int32) (x3 : Int32) (x4 : Int32), b5_readsText_50 K H_50 σ x1 x2 x3 x4 → nw_G P X 6 σ [(0, .ref (P.2.1 37)), (1, .int x1), (2, .int x2), (3, .int x3), (4, .int x4)] 50 [] := by
    intro H_50 hH_50 σ x1 x2 x3 x4 hf
    unfold b5_readsText_50 at hf
    refine nw_iload (pc := 50) h dX5_readsText_50 4 rfl ?_
    refine nw_aload_n (pc := 52) h dX5_readsText_52 rfl 0 rfl ?_
    refine gf5_7 (pc := 53) (r := 38) h rfl rfl dX5_readsText_53 ?_
    refine nw_iload_n (pc := 56) h dX5_readsText_56 rfl 1 rfl ?_
    obtain ⟨h_57, hf⟩ := hf
    refine nw_iald (pc := 57) (n := 2) h rfl rfl h_57 dX5_readsText_57 ?_
    refine nw_icmp_lt (pc := 58) (tgt := 66) h dX5_readsText_58 (by decide) (fun c_58 => ?_) (fun c_58 => ?_)
    · have hf := hf.1 c_58
      exact hL_66 H_50 hH_50 _ _ _ _ _ (hf)
    · have hf := hf.2 c_58
      refine nw_iload (pc := 61) h dX5_readsText_61 4 rfl ?_
      refine nw_if_le (pc := 63) (tgt := 175) h dX5_readsText_63 (by decide) (fun c_63 => ?_) (fun c_63 => ?_)
      · have hf := hf.1 c_63
        refine nw_iconst (pc := 175) (v := -1) h dX5_readsText_175 (by decide) ?_
        exact nw_iret (pc := 176) h he dX5_readsText_176 ⟨_, rfl, hf⟩
      · have hf := hf.2 c_63
        exact hL_66 H_50 hH_50 _ _ _ _ _ (hf)
  have hL_50 :  ∀ (n : Nat) (σ : nw_ST) (x1 : Int32) (x2 : Int32) (x3 : Int32) (x4 : Int32), f5_readsText_50 K n σ x1 x2 x3 x4 → nw_G P X 6 σ [(0, .ref (P.2.1 37)), (1, .int x1), (2, .int x2), (3, .int x3), (4, .int x4)] 50 [] := by
    intro n
    induction n with
    | zero => intro σ x1 x2 x3 x4 hf; exact False.elim hf
    | succ n ih => exact hB_50 _ ih
  have hL_47 :  ∀ (σ : nw_ST) (x1 : Int32) (x2 : Int32) (x3 : Int32) (x4 : Int32) (y0 : Int32), f5_readsText_47 K σ x1 x2 x3 x4 y0 → nw_G P X 6 σ [(0, .ref (P.2.1 37)), (1, .int x1), (2, .int x2), (3, .int x3), (4, .int x4)] 47 [.int y0, .ref (P.2.1 37)] := by
    intro σ x1 x2 x3 x4 y0 hf
    unfold f5_readsText_47 at hf
    refine pf5_108 (pc := 47) h rfl dX5_readsText_47 ?_
    obtain ⟨n_50, hf⟩ := hf
    exact hL_50 n_50 _ _ _ _ _ hf
  have hL_30 :  ∀ (σ : nw_ST) (x1 : Int32) (x2 : Int32) (x3 : Int32) (x4 : Int32) (y0 : Int32), f5_readsText_30 K σ x1 x2 x3 x4 y0 → nw_G P X 6 σ [(0, .ref (P.2.1 37)), (1, .int x1), (2, .int x2), (3, .int x3), (4, .int x4)] 30 [.int y0, .ref (P.2.1 37)] := by
    intro σ x1 x2 x3 x4 y0 hf
    unfold f5_readsText_30 at hf
    refine pf5_104 (pc := 30) h rfl dX5_readsText_30 ?_
    refine nw_aload_n (pc := 33) h dX5_readsText_33 rfl 0 rfl ?_
    refine nw_iload_n (pc := 34) h dX5_readsText_34 rfl 1 rfl ?_
    refine nw_iconst (pc := 35) (v := 1) h dX5_readsText_35 (by decide) ?_
    refine nw_icmp_ne (pc := 36) (tgt := 43) h dX5_readsText_36 (by decide) (fun c_36 => ?_) (fun c_36 => ?_)
    · skip
      refine nw_aload_n (pc := 43) h dX5_readsText_43 rfl 0 rfl ?_
      refine gf5_108 (pc := 44) h rfl dX5_readsText_44 ?_
      simp only [if_neg c_36] at hf
      exact hL_47 _ _ _ _ _ _ hf
    · skip
      refine nw_iconst (pc := 39) (v := 0) h dX5_readsText_39 (by decide) ?_
      refine nw_goto (pc := 40) (tgt := 47) h dX5_readsText_40 (by decide) ?_
      simp only [if_pos c_36] at hf
      exact hL_47 _ _ _ _ _ _ hf
  have hL_11 :  ∀ (σ : nw_ST) (x1 : Int32) (y0 : Int32), f5_readsText_11 K σ x1 y0 → nw_G P X 6 σ [(0, .ref (P.2.1 37)), (1, .int x1)] 11 [.int y0] := by
    intro σ x1 y0 hf
    unfold f5_readsText_11 at hf
    refine nw_istore_n (pc := 11) (lv' := [(2, .int y0), (0, .ref (P.2.1 37)), (1, .int x1)]) h dX5_readsText_11 rfl (by decide) rfl ?_
    refine nw_iconst (pc := 12) (v := 0) h dX5_readsText_12 (by decide) ?_
    refine nw_istore_n (pc := 13) (lv' := [(3, .int (0 : Int32)), (2, .int y0), (0, .ref (P.2.1 37)), (1, .int x1)]) h dX5_readsText_13 rfl (by decide) rfl ?_
    refine nw_iconst (pc := 14) (v := 0) h dX5_readsText_14 (by decide) ?_
    refine nw_istore (pc := 15) (lv' := [(4, .int (0 : Int32)), (3, .int (0 : Int32)), (2, .int y0), (0, .ref (P.2.1 37)), (1, .int x1)]) h dX5_readsText_15 (by decide) rfl ?_
    refine nw_aload_n (pc := 17) h dX5_readsText_17 rfl 3 rfl ?_
    refine nw_iload_n (pc := 18) h dX5_readsText_18 rfl 4 rfl ?_
    refine nw_if_ne (pc := 19) (tgt := 26) h dX5_readsText_19 (by decide) (fun c_19 => ?_) (fun c_19 => ?_)
    · skip
      refine nw_aload_n (pc := 26) h dX5_readsText_26 rfl 3 rfl ?_
      refine gf5_104 (pc := 27) h rfl dX5_readsText_27 ?_
      simp only [if_neg c_19] at hf
      refine nw_sub (lv' := [(0, .ref (P.2.1 37)), (1, .int x1), (2, .int y0), (3, .int (0 : Int32)), (4, .int (0 : Int32))]) [3, 4, 2, 1, 0] rfl ?_
      exact hL_30 _ _ _ _ _ _ hf
    · skip
      refine nw_iconst (pc := 22) (v := 0) h dX5_readsText_22 (by decide) ?_
      refine nw_goto (pc := 23) (tgt := 30) h dX5_readsText_23 (by decide) ?_
      simp only [if_pos c_19] at hf
      refine nw_sub (lv' := [(0, .ref (P.2.1 37)), (1, .int x1), (2, .int y0), (3, .int (0 : Int32)), (4, .int (0 : Int32))]) [3, 4, 2, 1, 0] rfl ?_
      exact hL_30 _ _ _ _ _ _ hf
  unfold f5_readsText at hf
  refine nw_iload_n (pc := 0) h dX5_readsText_0 rfl 1 rfl ?_
  refine nw_if_ne (pc := 1) (tgt := 9) h dX5_readsText_1 (by decide) (fun c_1 => ?_) (fun c_1 => ?_)
  · skip
    refine nw_bipush (pc := 9) (v := 8) h dX5_readsText_9 (by decide) ?_
    simp only [if_neg c_1] at hf
    exact hL_11 _ _ _ hf
  · skip
    refine nw_bipush (pc := 4) (v := 6) h dX5_readsText_4 (by decide) ?_
    refine nw_goto (pc := 6) (tgt := 11) h dX5_readsText_6 (by decide) ?_
    simp only [if_pos c_1] at hf
    exact hL_11 _ _ _ hf
theorem klX5_115 {P : nw_PT} {X : nw_EX} {cc : ByteArray} {nL : Nat} {σ : nw_ST} {lv : List (Nat × Value)} {pc : Nat} {rest : List Value} {a1 : Int32} (h : nw_ok P X cc RX5 nL) (hR : rm5_readsText.frames + 1 ≤ X.2.2.2.1.frames ∧ 8 + (6 + 11) + rm5_readsText.locals ≤ X.2.2.2.1.locals)  {K : Int32 → nw_ST → Prop} (hf : f5_readsText K σ a1) (hst : (rest.map fun v => v.category).sum ≤ 8) (hd : decode cc pc = .ok (.invokevirtual 115, 3)) (k : ∀ (r : Int32) (s2 : nw_ST), K r s2 → nw_G P X nL s2 lv (pc + 3) (.int r :: rest)) : nw_G P X nL σ lv pc (.int a1 :: .ref (P.2.1 37) :: rest) :=
  nw_callV (As := [.int a1]) (rest := rest) (C := RX5) (ci := 5) h (ct5_readsText _ P h.2.2 σ a1 K hf) (nw_goodV nw_w369 nw_w370 nw_w371 nw_w342 nw_w372) yd5_readsText rfl hR ⟨rfl, rfl⟩ rfl (by decide) rfl rfl hst rfl hd (fun v s2 z => by obtain ⟨r, rfl, z⟩ := z; exact k r s2 z)
def f5_faultOf_21 (K : Int32 → nw_ST → Prop) (σ : nw_ST) (y0 : Int32) : Prop := (K y0 σ)
def f5_faultOf (K : Int32 → nw_ST → Prop) (σ : nw_ST) (a1 : Int32) : Prop := (f5_readsText (fun (r_2 : Int32) (s_2 : nw_ST) => (f5_readsText (fun (r_8 : Int32) (s_8 : nw_ST) => (f5_faultOf_21 K s_8 (if (a1 = 0) then r_2 else r_8))) s_2 (1 : Int32))) σ (0 : Int32))
def rm5_faultOf : Room := { frames := 5, cells := 0, slots := 0, locals := 116 }
theorem yd5_faultOf : yX5_faultOf.cls = RX5 ∧ yX5_faultOf.cls ≠ "java/lang/invoke/MethodHandle" ∧ yX5_faultOf.cls ≠ "java/lang/invoke/VarHandle" ∧ (parseMethodDescriptor yX5_faultOf.desc).map (fun d => d.parameters.length) = some 1 := by decide +kernel
set_option maxHeartbeats 4000000 in
set_option maxRecDepth 100000 in
theorem ct5_faultOf (l : Launch) (P : nw_PT) (hD : nw_D P) (σ : nw_ST) (a1 : Int32)  (K : Int32 → nw_ST → Prop) (hf : f5_faultOf K σ a1) : nw_MT l yX5_faultOf cX5_faultOf 4 (some .int) rm5_faultOf P [.ref (P.2.1 37), .int a1] σ (nw_Ki K) := by
  refine nw_enter (by decide) (by first | decide | exact Nat.le_of_ble_eq_true rfl) hD ?_
  intro X hl h he hR
  subst hl
  have h : nw_ok P X cX5_faultOf RX5 4 := h
  show nw_G P X 4 σ [(0, .ref (P.2.1 37)), (1, .int a1)] 0 []
  have hL_21 :  ∀ (σ : nw_ST) (y0 : Int32), f5_faultOf_21 K σ y0 → nw_G P X 4 σ [] 21 [.int y0] := by
    intro σ y0 hf
    unfold f5_faultOf_21 at hf
    exact nw_iret (pc := 21) h he dX5_faultOf_21 ⟨_, rfl, hf⟩
  unfold f5_faultOf at hf
  refine nw_aload_n (pc := 0) h dX5_faultOf_0 rfl 0 rfl ?_
  refine nw_iconst (pc := 1) (v := 0) h dX5_faultOf_1 (by decide) ?_
  refine klX5_115 (pc := 2) h (by rw [hR]; decide) hf (Nat.le_of_ble_eq_true rfl) dX5_faultOf_2 (fun r_2 s_2 hf => ?_)
  refine nw_istore_n (pc := 5) (lv' := [(2, .int r_2), (0, .ref (P.2.1 37)), (1, .int a1)]) h dX5_faultOf_5 rfl (by decide) rfl ?_
  refine nw_aload_n (pc := 6) h dX5_faultOf_6 rfl 1 rfl ?_
  refine nw_iconst (pc := 7) (v := 1) h dX5_faultOf_7 (by decide) ?_
  refine klX5_115 (pc := 8) h (by rw [hR]; decide) hf (Nat.le_of_ble_eq_true rfl) dX5_faultOf_8 (fun r_8 s_8 hf => ?_)
  refine nw_istore_n (pc := 11) (lv' := [(3, .int r_8), (2, .int r_2), (0, .ref (P.2.1 37)), (1, .int a1)]) h dX5_faultOf_11 rfl (by decide) rfl ?_
  refine nw_iload_n (pc := 12) h dX5_faultOf_12 rfl 3 rfl ?_
  refine nw_if_ne (pc := 13) (tgt := 20) h dX5_faultOf_13 (by decide) (fun c_13 => ?_) (fun c_13 => ?_)
  · skip
    refine nw_iload_n (pc := 20) h dX5_faultOf_20 rfl 0 rfl ?_
    simp only [if_neg c_13] at hf
    refine nw_sub (lv' := []) [] rfl ?_
    exact hL_21 _ _ hf
  · skip
    refine nw_iload_n (pc := 16) h dX5_faultOf_16 rfl 1 rfl ?_
    refine nw_goto (pc := 17) (tgt := 21) h dX5_faultOf_17 (by decide) ?_
    simp only [if_pos c_13] at hf
    refine nw_sub (lv' := []) [] rfl ?_
    exact hL_21 _ _ hf
theorem klX5_119 {P : nw_PT} {X : nw_EX} {cc : ByteArray} {nL : Nat} {σ : nw_ST} {lv : List (Nat × Value)} {pc : Nat} {rest : List Value} {a1 : Int32} (h : nw_ok P X cc RX5 nL) (hR : rm5_faultOf.frames + 1 ≤ X.2.2.2.1.frames ∧ 8 + (4 + 11) + rm5_faultOf.locals ≤ X.2.2.2.1.locals)  {K : Int32 → nw_ST → Prop} (hf : f5_faultOf K σ a1) (hst : (rest.map fun v => v.category).sum ≤ 8) (hd : decode cc pc = .ok (.invokevirtual 119, 3)) (k : ∀ (r : Int32) (s2 : nw_ST), K r s2 → nw_G P X nL s2 lv (pc + 3) (.int r :: rest)) : nw_G P X nL σ lv pc (.int a1 :: .ref (P.2.1 37) :: rest) :=
  nw_callV (As := [.int a1]) (rest := rest) (C := RX5) (ci := 5) h (ct5_faultOf _ P h.2.2 σ a1 K hf) (nw_goodV nw_w373 nw_w374 nw_w375 nw_w342 nw_w376) yd5_faultOf rfl hR ⟨rfl, rfl⟩ rfl (by decide) rfl rfl hst rfl hd (fun v s2 z => by obtain ⟨r, rfl, z⟩ := z; exact k r s2 z)
def f5_reads (K : nw_ST → Prop) (σ : nw_ST)  : Prop := (f5_faultOf (fun (r_2 : Int32) (s_2 : nw_ST) => (K s_2)) σ (0 : Int32))
def rm5_reads : Room := { frames := 6, cells := 0, slots := 0, locals := 139 }
theorem yd5_reads : yX5_reads.cls = RX5 ∧ yX5_reads.cls ≠ "java/lang/invoke/MethodHandle" ∧ yX5_reads.cls ≠ "java/lang/invoke/VarHandle" ∧ (parseMethodDescriptor yX5_reads.desc).map (fun d => d.parameters.length) = some 0 := by decide +kernel
set_option maxHeartbeats 4000000 in
set_option maxRecDepth 100000 in
theorem ct5_reads (l : Launch) (P : nw_PT) (hD : nw_D P) (σ : nw_ST)   (K : nw_ST → Prop) (hf : f5_reads K σ ) : nw_MT l yX5_reads cX5_reads 2 none rm5_reads P [.ref (P.2.1 37)] σ (nw_Kv K) := by
  refine nw_enter (by decide) (by first | decide | exact Nat.le_of_ble_eq_true rfl) hD ?_
  intro X hl h he hR
  subst hl
  have h : nw_ok P X cX5_reads RX5 2 := h
  show nw_G P X 2 σ [(0, .ref (P.2.1 37))] 0 []
  unfold f5_reads at hf
  refine nw_aload_n (pc := 0) h dX5_reads_0 rfl 0 rfl ?_
  refine nw_iconst (pc := 1) (v := 0) h dX5_reads_1 (by decide) ?_
  refine klX5_119 (pc := 2) h (by rw [hR]; decide) hf (Nat.le_of_ble_eq_true rfl) dX5_reads_2 (fun r_2 s_2 hf => ?_)
  refine nw_istore_n (pc := 5) (lv' := [(1, .int r_2), (0, .ref (P.2.1 37))]) h dX5_reads_5 rfl (by decide) rfl ?_
  exact nw_vret (pc := 6) h he dX5_reads_6 ⟨rfl, hf⟩
def f5_fault_17 (K : Int32 → nw_ST → Prop) (σ : nw_ST) (y0 : Int32) : Prop := (K y0 σ)
def f5_fault (K : Int32 → nw_ST → Prop) (σ : nw_ST) (a1 : Int32) : Prop := ((((v5_isText a1) = 0) → (f5_fault_17 K σ (-2 : Int32))) ∧ (¬ ((v5_isText a1) = 0) → (f5_faultOf (fun (r_9 : Int32) (s_9 : nw_ST) => (f5_fault_17 K s_9 r_9)) σ a1)))
def rm5_fault : Room := { frames := 6, cells := 0, slots := 0, locals := 139 }
theorem yd5_fault : yX5_fault.cls = RX5 ∧ yX5_fault.cls ≠ "java/lang/invoke/MethodHandle" ∧ yX5_fault.cls ≠ "java/lang/invoke/VarHandle" ∧ (parseMethodDescriptor yX5_fault.desc).map (fun d => d.parameters.length) = some 1 := by decide +kernel
set_option maxHeartbeats 4000000 in
set_option maxRecDepth 100000 in
theorem ct5_fault (l : Launch) (P : nw_PT) (hD : nw_D P) (σ : nw_ST) (a1 : Int32)  (K : Int32 → nw_ST → Prop) (hf : f5_fault K σ a1) : nw_MT l yX5_fault cX5_fault 2 (some .int) rm5_fault P [.ref (P.2.1 37), .int a1] σ (nw_Ki K) := by
  refine nw_enter (by decide) (by first | decide | exact Nat.le_of_ble_eq_true rfl) hD ?_
  intro X hl h he hR
  subst hl
  have h : nw_ok P X cX5_fault RX5 2 := h
  show nw_G P X 2 σ [(0, .ref (P.2.1 37)), (1, .int a1)] 0 []
  have hL_17 :  ∀ (σ : nw_ST) (y0 : Int32), f5_fault_17 K σ y0 → nw_G P X 2 σ [] 17 [.int y0] := by
    intro σ y0 hf
    unfold f5_fault_17 at hf
    exact nw_iret (pc := 17) h he dX5_fault_17 ⟨_, rfl, hf⟩
  unfold f5_fault at hf
  refine nw_iload_n (pc := 0) h dX5_fault_0 rfl 1 rfl ?_
  refine klX5_93 (pc := 1) h (by rw [hR]; decide) (Nat.le_of_ble_eq_true rfl) dX5_fault_1 ?_
  refine nw_if_eq (pc := 4) (tgt := 15) h dX5_fault_4 (by decide) (fun c_4 => ?_) (fun c_4 => ?_)
  · have hf := hf.1 c_4
    refine nw_bipush (pc := 15) (v := -2) h dX5_fault_15 (by decide) ?_
    refine nw_sub (lv' := []) [] rfl ?_
    exact hL_17 _ _ (hf)
  · have hf := hf.2 c_4
    refine nw_aload_n (pc := 7) h dX5_fault_7 rfl 0 rfl ?_
    refine nw_iload_n (pc := 8) h dX5_fault_8 rfl 1 rfl ?_
    refine klX5_119 (pc := 9) h (by rw [hR]; decide) hf (Nat.le_of_ble_eq_true rfl) dX5_fault_9 (fun r_9 s_9 hf => ?_)
    refine nw_goto (pc := 12) (tgt := 17) h dX5_fault_12 (by decide) ?_
    refine nw_sub (lv' := []) [] rfl ?_
    exact hL_17 _ _ (hf)
theorem klX5_122 {P : nw_PT} {X : nw_EX} {cc : ByteArray} {nL : Nat} {σ : nw_ST} {lv : List (Nat × Value)} {pc : Nat} {rest : List Value}  (h : nw_ok P X cc RX5 nL) (hR : rm5_reads.frames + 1 ≤ X.2.2.2.1.frames ∧ 8 + (2 + 11) + rm5_reads.locals ≤ X.2.2.2.1.locals)  {K : nw_ST → Prop} (hf : f5_reads K σ) (hst : (rest.map fun v => v.category).sum ≤ 8) (hd : decode cc pc = .ok (.invokevirtual 122, 3)) (k : ∀ (s2 : nw_ST), K s2 → nw_G P X nL s2 lv (pc + 3) rest) : nw_G P X nL σ lv pc (.ref (P.2.1 37) :: rest) :=
  nw_callV (As := []) (rest := rest) (C := RX5) (ci := 5) h (ct5_reads _ P h.2.2 σ  K hf) (nw_goodV nw_w377 nw_w378 nw_w379 nw_w342 nw_w380) yd5_reads rfl hR ⟨rfl, rfl⟩ rfl (by decide) rfl rfl hst rfl hd (fun v s2 z => by obtain ⟨rfl, z⟩ := z; exact k s2 z)
def f5_isSwell (K : Int32 → nw_ST → Prop) (σ : nw_ST) (a1 : Int32) : Prop := (f5_reads (fun (s_1 : nw_ST) => (K (v5_in a1 (0 : Int32) ((nw_gS s_1 37 2) - (1 : Int32))) s_1)) σ)
def rm5_isSwell : Room := { frames := 7, cells := 0, slots := 0, locals := 160 }
theorem yd5_isSwell : yX5_isSwell.cls = RX5 ∧ yX5_isSwell.cls ≠ "java/lang/invoke/MethodHandle" ∧ yX5_isSwell.cls ≠ "java/lang/invoke/VarHandle" ∧ (parseMethodDescriptor yX5_isSwell.desc).map (fun d => d.parameters.length) = some 1 := by decide +kernel
set_option maxHeartbeats 4000000 in
set_option maxRecDepth 100000 in
theorem ct5_isSwell (l : Launch) (P : nw_PT) (hD : nw_D P) (σ : nw_ST) (a1 : Int32)  (K : Int32 → nw_ST → Prop) (hf : f5_isSwell K σ a1) : nw_MT l yX5_isSwell cX5_isSwell 2 (some .boolean) rm5_isSwell P [.ref (P.2.1 37), .int a1] σ (nw_Ki K) := by
  refine nw_enter (by decide) (by first | decide | exact Nat.le_of_ble_eq_true rfl) hD ?_
  intro X hl h he hR
  subst hl
  have h : nw_ok P X cX5_isSwell RX5 2 := h
  show nw_G P X 2 σ [(0, .ref (P.2.1 37)), (1, .int a1)] 0 []
  unfold f5_isSwell at hf
  refine nw_aload_n (pc := 0) h dX5_isSwell_0 rfl 0 rfl ?_
  refine klX5_122 (pc := 1) h (by rw [hR]; decide) hf (Nat.le_of_ble_eq_true rfl) dX5_isSwell_1 (fun s_1 hf => ?_)
  refine nw_iload_n (pc := 4) h dX5_isSwell_4 rfl 1 rfl ?_
  refine nw_iconst (pc := 5) (v := 0) h dX5_isSwell_5 (by decide) ?_
  refine nw_aload_n (pc := 6) h dX5_isSwell_6 rfl 0 rfl ?_
  refine gf5_104 (pc := 7) h rfl dX5_isSwell_7 ?_
  refine nw_iconst (pc := 10) (v := 1) h dX5_isSwell_10 (by decide) ?_
  refine nw_isub (pc := 11) h dX5_isSwell_11 ?_
  refine klX5_89 (pc := 12) h (by rw [hR]; decide) (Nat.le_of_ble_eq_true rfl) dX5_isSwell_12 ?_
  exact nw_zret (pc := 15) h he dX5_isSwell_15 (z5_in a1 (0 : Int32) ((nw_gS s_1 37 2) - (1 : Int32))) ⟨_, rfl, hf⟩
def f5_isFind (K : Int32 → nw_ST → Prop) (σ : nw_ST) (a1 : Int32) : Prop := (f5_reads (fun (s_1 : nw_ST) => (K (v5_in a1 (0 : Int32) ((nw_gS s_1 37 6) - (1 : Int32))) s_1)) σ)
def rm5_isFind : Room := { frames := 7, cells := 0, slots := 0, locals := 160 }
theorem yd5_isFind : yX5_isFind.cls = RX5 ∧ yX5_isFind.cls ≠ "java/lang/invoke/MethodHandle" ∧ yX5_isFind.cls ≠ "java/lang/invoke/VarHandle" ∧ (parseMethodDescriptor yX5_isFind.desc).map (fun d => d.parameters.length) = some 1 := by decide +kernel
set_option maxHeartbeats 4000000 in
set_option maxRecDepth 100000 in
theorem ct5_isFind (l : Launch) (P : nw_PT) (hD : nw_D P) (σ : nw_ST) (a1 : Int32)  (K : Int32 → nw_ST → Prop) (hf : f5_isFind K σ a1) : nw_MT l yX5_isFind cX5_isFind 2 (some .boolean) rm5_isFind P [.ref (P.2.1 37), .int a1] σ (nw_Ki K) := by
  refine nw_enter (by decide) (by first | decide | exact Nat.le_of_ble_eq_true rfl) hD ?_
  intro X hl h he hR
  subst hl
  have h : nw_ok P X cX5_isFind RX5 2 := h
  show nw_G P X 2 σ [(0, .ref (P.2.1 37)), (1, .int a1)] 0 []
  unfold f5_isFind at hf
  refine nw_aload_n (pc := 0) h dX5_isFind_0 rfl 0 rfl ?_
  refine klX5_122 (pc := 1) h (by rw [hR]; decide) hf (Nat.le_of_ble_eq_true rfl) dX5_isFind_1 (fun s_1 hf => ?_)
  refine nw_iload_n (pc := 4) h dX5_isFind_4 rfl 1 rfl ?_
  refine nw_iconst (pc := 5) (v := 0) h dX5_isFind_5 (by decide) ?_
  refine nw_aload_n (pc := 6) h dX5_isFind_6 rfl 0 rfl ?_
  refine gf5_108 (pc := 7) h rfl dX5_isFind_7 ?_
  refine nw_iconst (pc := 10) (v := 1) h dX5_isFind_10 (by decide) ?_
  refine nw_isub (pc := 11) h dX5_isFind_11 ?_
  refine klX5_89 (pc := 12) h (by rw [hR]; decide) (Nat.le_of_ble_eq_true rfl) dX5_isFind_12 ?_
  exact nw_zret (pc := 15) h he dX5_isFind_15 (z5_in a1 (0 : Int32) ((nw_gS s_1 37 6) - (1 : Int32))) ⟨_, rfl, hf⟩
def v5_swellOf (σ : nw_ST) (a1 : Int32) (a2 : Int32) : Int32 := (if (a2 = 0) then (nw_gA σ 40 a1.toNatClampNeg) else (if (a2 = (1 : Int32)) then (nw_gA σ 41 a1.toNatClampNeg) else (nw_gA σ 42 a1.toNatClampNeg)))
def o5_swellOf (σ : nw_ST) (a1 : Int32) (a2 : Int32) : Prop := (((a2 = 0) → (vp_in a1 7)) ∧ (¬ (a2 = 0) → (((a2 = (1 : Int32)) → (vp_in a1 7)) ∧ (¬ (a2 = (1 : Int32)) → (vp_in a1 7)))))
def rm5_swellOf : Room := { frames := 0, cells := 0, slots := 0, locals := 0 }
theorem yd5_swellOf : yX5_swellOf.cls = RX5 ∧ yX5_swellOf.cls ≠ "java/lang/invoke/MethodHandle" ∧ yX5_swellOf.cls ≠ "java/lang/invoke/VarHandle" ∧ (parseMethodDescriptor yX5_swellOf.desc).map (fun d => d.parameters.length) = some 2 := by decide +kernel
set_option maxHeartbeats 4000000 in
set_option maxRecDepth 100000 in
theorem ct5_swellOf (l : Launch) (P : nw_PT) (hD : nw_D P) (σ : nw_ST) (a1 : Int32) (a2 : Int32)  (ho : o5_swellOf σ a1 a2) : nw_MT l yX5_swellOf cX5_swellOf 3 (some .int) rm5_swellOf P [.ref (P.2.1 37), .int a1, .int a2] σ (nw_Ki (fun r s2 => r = (v5_swellOf σ a1 a2) ∧ s2 = σ)) := by
  refine nw_enter (by decide) (by first | decide | exact Nat.le_of_ble_eq_true rfl) hD ?_
  intro X hl h he hR
  subst hl
  have h : nw_ok P X cX5_swellOf RX5 3 := h
  show nw_G P X 3 σ [(0, .ref (P.2.1 37)), (1, .int a1), (2, .int a2)] 0 []
  unfold o5_swellOf at ho
  refine nw_iload_n (pc := 0) h dX5_swellOf_0 rfl 2 rfl ?_
  refine nw_if_ne (pc := 1) (tgt := 13) h dX5_swellOf_1 (by decide) (fun c_1 => ?_) (fun c_1 => ?_)
  · skip
    have ho := ho.2 c_1
    refine nw_iload_n (pc := 13) h dX5_swellOf_13 rfl 2 rfl ?_
    refine nw_iconst (pc := 14) (v := 1) h dX5_swellOf_14 (by decide) ?_
    refine nw_icmp_ne (pc := 15) (tgt := 27) h dX5_swellOf_15 (by decide) (fun c_15 => ?_) (fun c_15 => ?_)
    · skip
      have ho := ho.2 c_15
      refine nw_aload_n (pc := 27) h dX5_swellOf_27 rfl 0 rfl ?_
      refine gf5_22 (pc := 28) (r := 42) h rfl rfl dX5_swellOf_28 ?_
      refine nw_iload_n (pc := 31) h dX5_swellOf_31 rfl 1 rfl ?_
      have h_32 := ho
      refine nw_iald (pc := 32) (n := 7) h rfl rfl h_32 dX5_swellOf_32 ?_
      exact nw_iret (pc := 33) h he dX5_swellOf_33 ⟨_, rfl, (by unfold v5_swellOf; rw [if_neg c_1, if_neg c_15]), rfl⟩
    · skip
      have ho := ho.1 c_15
      refine nw_aload_n (pc := 18) h dX5_swellOf_18 rfl 0 rfl ?_
      refine gf5_19 (pc := 19) (r := 41) h rfl rfl dX5_swellOf_19 ?_
      refine nw_iload_n (pc := 22) h dX5_swellOf_22 rfl 1 rfl ?_
      have h_23 := ho
      refine nw_iald (pc := 23) (n := 7) h rfl rfl h_23 dX5_swellOf_23 ?_
      refine nw_goto (pc := 24) (tgt := 33) h dX5_swellOf_24 (by decide) ?_
      exact nw_iret (pc := 33) h he dX5_swellOf_33 ⟨_, rfl, (by unfold v5_swellOf; rw [if_neg c_1, if_pos c_15]), rfl⟩
  · skip
    have ho := ho.1 c_1
    refine nw_aload_n (pc := 4) h dX5_swellOf_4 rfl 0 rfl ?_
    refine gf5_16 (pc := 5) (r := 40) h rfl rfl dX5_swellOf_5 ?_
    refine nw_iload_n (pc := 8) h dX5_swellOf_8 rfl 1 rfl ?_
    have h_9 := ho
    refine nw_iald (pc := 9) (n := 7) h rfl rfl h_9 dX5_swellOf_9 ?_
    refine nw_goto (pc := 10) (tgt := 33) h dX5_swellOf_10 (by decide) ?_
    exact nw_iret (pc := 33) h he dX5_swellOf_33 ⟨_, rfl, (by unfold v5_swellOf; rw [if_pos c_1]), rfl⟩
theorem klX5_125 {P : nw_PT} {X : nw_EX} {cc : ByteArray} {nL : Nat} {σ : nw_ST} {lv : List (Nat × Value)} {pc : Nat} {rest : List Value} {a1 : Int32} (h : nw_ok P X cc RX5 nL) (hR : rm5_isSwell.frames + 1 ≤ X.2.2.2.1.frames ∧ 8 + (2 + 11) + rm5_isSwell.locals ≤ X.2.2.2.1.locals)  {K : Int32 → nw_ST → Prop} (hf : f5_isSwell K σ a1) (hst : (rest.map fun v => v.category).sum ≤ 8) (hd : decode cc pc = .ok (.invokevirtual 125, 3)) (k : ∀ (r : Int32) (s2 : nw_ST), K r s2 → nw_G P X nL s2 lv (pc + 3) (.int r :: rest)) : nw_G P X nL σ lv pc (.int a1 :: .ref (P.2.1 37) :: rest) :=
  nw_callV (As := [.int a1]) (rest := rest) (C := RX5) (ci := 5) h (ct5_isSwell _ P h.2.2 σ a1 K hf) (nw_goodV nw_w381 nw_w382 nw_w383 nw_w342 nw_w384) yd5_isSwell rfl hR ⟨rfl, rfl⟩ rfl (by decide) rfl rfl hst rfl hd (fun v s2 z => by obtain ⟨r, rfl, z⟩ := z; exact k r s2 z)
theorem klX5_128 {P : nw_PT} {X : nw_EX} {cc : ByteArray} {nL : Nat} {σ : nw_ST} {lv : List (Nat × Value)} {pc : Nat} {rest : List Value} {a1 : Int32} {a2 : Int32} (h : nw_ok P X cc RX5 nL) (hR : rm5_swellOf.frames + 1 ≤ X.2.2.2.1.frames ∧ 8 + (3 + 11) + rm5_swellOf.locals ≤ X.2.2.2.1.locals)  (ho : o5_swellOf σ a1 a2) (hst : (rest.map fun v => v.category).sum ≤ 8) (hd : decode cc pc = .ok (.invokevirtual 128, 3)) (k : nw_G P X nL σ lv (pc + 3) (.int (v5_swellOf σ a1 a2) :: rest)) : nw_G P X nL σ lv pc (.int a2 :: .int a1 :: .ref (P.2.1 37) :: rest) :=
  nw_callV (As := [.int a1, .int a2]) (rest := rest) (C := RX5) (ci := 5) h (ct5_swellOf _ P h.2.2 σ a1 a2 ho) (nw_goodV nw_w385 nw_w386 nw_w387 nw_w342 nw_w388) yd5_swellOf rfl hR ⟨rfl, rfl⟩ rfl (by decide) rfl rfl hst rfl hd (fun v s2 z => by obtain ⟨r, rfl, rfl, rfl⟩ := z; exact k)
def f5_swell_28 (K : Int32 → nw_ST → Prop) (σ : nw_ST) (y0 : Int32) : Prop := (K y0 σ)
def f5_swell (K : Int32 → nw_ST → Prop) (σ : nw_ST) (a1 : Int32) (a2 : Int32) : Prop := (f5_isSwell (fun (r_2 : Int32) (s_2 : nw_ST) => ((((r_2 = 0) → True) ∧ (¬ (r_2 = 0) → ((((v5_in a2 (0 : Int32) (2 : Int32)) = 0) → True) ∧ (¬ ((v5_in a2 (0 : Int32) (2 : Int32)) = 0) → (o5_swellOf s_2 a1 a2))))) ∧ (f5_swell_28 K s_2 (if (r_2 = 0) then (-2 : Int32) else (if ((v5_in a2 (0 : Int32) (2 : Int32)) = 0) then (-2 : Int32) else (v5_swellOf s_2 a1 a2)))))) σ a1)
def rm5_swell : Room := { frames := 8, cells := 0, slots := 0, locals := 181 }
theorem yd5_swell : yX5_swell.cls = RX5 ∧ yX5_swell.cls ≠ "java/lang/invoke/MethodHandle" ∧ yX5_swell.cls ≠ "java/lang/invoke/VarHandle" ∧ (parseMethodDescriptor yX5_swell.desc).map (fun d => d.parameters.length) = some 2 := by decide +kernel
set_option maxHeartbeats 4000000 in
set_option maxRecDepth 100000 in
theorem ct5_swell (l : Launch) (P : nw_PT) (hD : nw_D P) (σ : nw_ST) (a1 : Int32) (a2 : Int32)  (K : Int32 → nw_ST → Prop) (hf : f5_swell K σ a1 a2) : nw_MT l yX5_swell cX5_swell 3 (some .int) rm5_swell P [.ref (P.2.1 37), .int a1, .int a2] σ (nw_Ki K) := by
  refine nw_enter (by decide) (by first | decide | exact Nat.le_of_ble_eq_true rfl) hD ?_
  intro X hl h he hR
  subst hl
  have h : nw_ok P X cX5_swell RX5 3 := h
  show nw_G P X 3 σ [(0, .ref (P.2.1 37)), (1, .int a1), (2, .int a2)] 0 []
  have hL_28 :  ∀ (σ : nw_ST) (y0 : Int32), f5_swell_28 K σ y0 → nw_G P X 3 σ [] 28 [.int y0] := by
    intro σ y0 hf
    unfold f5_swell_28 at hf
    exact nw_iret (pc := 28) h he dX5_swell_28 ⟨_, rfl, hf⟩
  unfold f5_swell at hf
  refine nw_aload_n (pc := 0) h dX5_swell_0 rfl 0 rfl ?_
  refine nw_iload_n (pc := 1) h dX5_swell_1 rfl 1 rfl ?_
  refine klX5_125 (pc := 2) h (by rw [hR]; decide) hf (Nat.le_of_ble_eq_true rfl) dX5_swell_2 (fun r_2 s_2 hf => ?_)
  obtain ⟨ho, hf⟩ := hf
  refine nw_if_eq (pc := 5) (tgt := 26) h dX5_swell_5 (by decide) (fun c_5 => ?_) (fun c_5 => ?_)
  · skip
    have ho := ho.1 c_5
    refine nw_bipush (pc := 26) (v := -2) h dX5_swell_26 (by decide) ?_
    simp only [if_pos c_5] at hf
    refine nw_sub (lv' := []) [] rfl ?_
    exact hL_28 _ _ hf
  · skip
    have ho := ho.2 c_5
    refine nw_iload_n (pc := 8) h dX5_swell_8 rfl 2 rfl ?_
    refine nw_iconst (pc := 9) (v := 0) h dX5_swell_9 (by decide) ?_
    refine nw_iconst (pc := 10) (v := 2) h dX5_swell_10 (by decide) ?_
    refine klX5_89 (pc := 11) h (by rw [hR]; decide) (Nat.le_of_ble_eq_true rfl) dX5_swell_11 ?_
    refine nw_if_eq (pc := 14) (tgt := 26) h dX5_swell_14 (by decide) (fun c_14 => ?_) (fun c_14 => ?_)
    · skip
      have ho := ho.1 c_14
      refine nw_bipush (pc := 26) (v := -2) h dX5_swell_26 (by decide) ?_
      simp only [if_neg c_5, if_pos c_14] at hf
      refine nw_sub (lv' := []) [] rfl ?_
      exact hL_28 _ _ hf
    · skip
      have ho := ho.2 c_14
      refine nw_aload_n (pc := 17) h dX5_swell_17 rfl 0 rfl ?_
      refine nw_iload_n (pc := 18) h dX5_swell_18 rfl 1 rfl ?_
      refine nw_iload_n (pc := 19) h dX5_swell_19 rfl 2 rfl ?_
      have h_20 := ho
      refine klX5_128 (pc := 20) h (by rw [hR]; decide) h_20 (Nat.le_of_ble_eq_true rfl) dX5_swell_20 ?_
      refine nw_goto (pc := 23) (tgt := 28) h dX5_swell_23 (by decide) ?_
      simp only [if_neg c_5, if_neg c_14] at hf
      refine nw_sub (lv' := []) [] rfl ?_
      exact hL_28 _ _ hf
