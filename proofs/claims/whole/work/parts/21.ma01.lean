def v5_findOf (σ : nw_ST) (a1 : Int32) (a2 : Int32) : Int32 := (if (a2 = 0) then (nw_gA σ 43 a1.toNatClampNeg) else (if (a2 = (1 : Int32)) then (nw_gA σ 44 a1.toNatClampNeg) else (nw_gA σ 45 a1.toNatClampNeg)))
def o5_findOf (σ : nw_ST) (a1 : Int32) (a2 : Int32) : Prop := (((a2 = 0) → (vp_in a1 9)) ∧ (¬ (a2 = 0) → (((a2 = (1 : Int32)) → (vp_in a1 9)) ∧ (¬ (a2 = (1 : Int32)) → (vp_in a1 9)))))
def rm5_findOf : Room := { frames := 0, cells := 0, slots := 0, locals := 0 }
theorem yd5_findOf : yX5_findOf.cls = RX5 ∧ yX5_findOf.cls ≠ "java/lang/invoke/MethodHandle" ∧ yX5_findOf.cls ≠ "java/lang/invoke/VarHandle" ∧ (parseMethodDescriptor yX5_findOf.desc).map (fun d => d.parameters.length) = some 2 := by decide +kernel
set_option maxHeartbeats 4000000 in
set_option maxRecDepth 100000 in
theorem ct5_findOf (l : Launch) (P : nw_PT) (hD : nw_D P) (σ : nw_ST) (a1 : Int32) (a2 : Int32)  (ho : o5_findOf σ a1 a2) : nw_MT l yX5_findOf cX5_findOf 3 (some .int) rm5_findOf P [.ref (P.2.1 37), .int a1, .int a2] σ (nw_Ki (fun r s2 => r = (v5_findOf σ a1 a2) ∧ s2 = σ)) := by
  refine nw_enter (by decide) (by first | decide | exact Nat.le_of_ble_eq_true rfl) hD ?_
  intro X hl h he hR
  subst hl
  have h : nw_ok P X cX5_findOf RX5 3 := h
  show nw_G P X 3 σ [(0, .ref (P.2.1 37)), (1, .int a1), (2, .int a2)] 0 []
  unfold o5_findOf at ho
  refine nw_iload_n (pc := 0) h dX5_findOf_0 rfl 2 rfl ?_
  refine nw_if_ne (pc := 1) (tgt := 13) h dX5_findOf_1 (by decide) (fun c_1 => ?_) (fun c_1 => ?_)
  · skip
    have ho := ho.2 c_1
    refine nw_iload_n (pc := 13) h dX5_findOf_13 rfl 2 rfl ?_
    refine nw_iconst (pc := 14) (v := 1) h dX5_findOf_14 (by decide) ?_
    refine nw_icmp_ne (pc := 15) (tgt := 27) h dX5_findOf_15 (by decide) (fun c_15 => ?_) (fun c_15 => ?_)
    · skip
      have ho := ho.2 c_15
      refine nw_aload_n (pc := 27) h dX5_findOf_27 rfl 0 rfl ?_
      refine gf5_31 (pc := 28) (r := 45) h rfl rfl dX5_findOf_28 ?_
      refine nw_iload_n (pc := 31) h dX5_findOf_31 rfl 1 rfl ?_
      have h_32 := ho
      refine nw_iald (pc := 32) (n := 9) h rfl rfl h_32 dX5_findOf_32 ?_
      exact nw_iret (pc := 33) h he dX5_findOf_33 ⟨_, rfl, (by unfold v5_findOf; rw [if_neg c_1, if_neg c_15]), rfl⟩
    · skip
      have ho := ho.1 c_15
      refine nw_aload_n (pc := 18) h dX5_findOf_18 rfl 0 rfl ?_
      refine gf5_28 (pc := 19) (r := 44) h rfl rfl dX5_findOf_19 ?_
      refine nw_iload_n (pc := 22) h dX5_findOf_22 rfl 1 rfl ?_
      have h_23 := ho
      refine nw_iald (pc := 23) (n := 9) h rfl rfl h_23 dX5_findOf_23 ?_
      refine nw_goto (pc := 24) (tgt := 33) h dX5_findOf_24 (by decide) ?_
      exact nw_iret (pc := 33) h he dX5_findOf_33 ⟨_, rfl, (by unfold v5_findOf; rw [if_neg c_1, if_pos c_15]), rfl⟩
  · skip
    have ho := ho.1 c_1
    refine nw_aload_n (pc := 4) h dX5_findOf_4 rfl 0 rfl ?_
    refine gf5_25 (pc := 5) (r := 43) h rfl rfl dX5_findOf_5 ?_
    refine nw_iload_n (pc := 8) h dX5_findOf_8 rfl 1 rfl ?_
    have h_9 := ho
    refine nw_iald (pc := 9) (n := 9) h rfl rfl h_9 dX5_findOf_9 ?_
    refine nw_goto (pc := 10) (tgt := 33) h dX5_findOf_10 (by decide) ?_
    exact nw_iret (pc := 33) h he dX5_findOf_33 ⟨_, rfl, (by unfold v5_findOf; rw [if_pos c_1]), rfl⟩
theorem klX5_131 {P : nw_PT} {X : nw_EX} {cc : ByteArray} {nL : Nat} {σ : nw_ST} {lv : List (Nat × Value)} {pc : Nat} {rest : List Value} {a1 : Int32} (h : nw_ok P X cc RX5 nL) (hR : rm5_isFind.frames + 1 ≤ X.2.2.2.1.frames ∧ 8 + (2 + 11) + rm5_isFind.locals ≤ X.2.2.2.1.locals)  {K : Int32 → nw_ST → Prop} (hf : f5_isFind K σ a1) (hst : (rest.map fun v => v.category).sum ≤ 8) (hd : decode cc pc = .ok (.invokevirtual 131, 3)) (k : ∀ (r : Int32) (s2 : nw_ST), K r s2 → nw_G P X nL s2 lv (pc + 3) (.int r :: rest)) : nw_G P X nL σ lv pc (.int a1 :: .ref (P.2.1 37) :: rest) :=
  nw_callV (As := [.int a1]) (rest := rest) (C := RX5) (ci := 5) h (ct5_isFind _ P h.2.2 σ a1 K hf) (nw_goodV nw_w389 nw_w390 nw_w391 nw_w342 nw_w392) yd5_isFind rfl hR ⟨rfl, rfl⟩ rfl (by decide) rfl rfl hst rfl hd (fun v s2 z => by obtain ⟨r, rfl, z⟩ := z; exact k r s2 z)
theorem klX5_134 {P : nw_PT} {X : nw_EX} {cc : ByteArray} {nL : Nat} {σ : nw_ST} {lv : List (Nat × Value)} {pc : Nat} {rest : List Value} {a1 : Int32} {a2 : Int32} (h : nw_ok P X cc RX5 nL) (hR : rm5_findOf.frames + 1 ≤ X.2.2.2.1.frames ∧ 8 + (3 + 11) + rm5_findOf.locals ≤ X.2.2.2.1.locals)  (ho : o5_findOf σ a1 a2) (hst : (rest.map fun v => v.category).sum ≤ 8) (hd : decode cc pc = .ok (.invokevirtual 134, 3)) (k : nw_G P X nL σ lv (pc + 3) (.int (v5_findOf σ a1 a2) :: rest)) : nw_G P X nL σ lv pc (.int a2 :: .int a1 :: .ref (P.2.1 37) :: rest) :=
  nw_callV (As := [.int a1, .int a2]) (rest := rest) (C := RX5) (ci := 5) h (ct5_findOf _ P h.2.2 σ a1 a2 ho) (nw_goodV nw_w393 nw_w394 nw_w395 nw_w342 nw_w396) yd5_findOf rfl hR ⟨rfl, rfl⟩ rfl (by decide) rfl rfl hst rfl hd (fun v s2 z => by obtain ⟨r, rfl, rfl, rfl⟩ := z; exact k)
def f5_find_28 (K : Int32 → nw_ST → Prop) (σ : nw_ST) (y0 : Int32) : Prop := (K y0 σ)
def f5_find (K : Int32 → nw_ST → Prop) (σ : nw_ST) (a1 : Int32) (a2 : Int32) : Prop := (f5_isFind (fun (r_2 : Int32) (s_2 : nw_ST) => ((((r_2 = 0) → True) ∧ (¬ (r_2 = 0) → ((((v5_in a2 (0 : Int32) (2 : Int32)) = 0) → True) ∧ (¬ ((v5_in a2 (0 : Int32) (2 : Int32)) = 0) → (o5_findOf s_2 a1 a2))))) ∧ (f5_find_28 K s_2 (if (r_2 = 0) then (-2 : Int32) else (if ((v5_in a2 (0 : Int32) (2 : Int32)) = 0) then (-2 : Int32) else (v5_findOf s_2 a1 a2)))))) σ a1)
def rm5_find : Room := { frames := 8, cells := 0, slots := 0, locals := 181 }
theorem yd5_find : yX5_find.cls = RX5 ∧ yX5_find.cls ≠ "java/lang/invoke/MethodHandle" ∧ yX5_find.cls ≠ "java/lang/invoke/VarHandle" ∧ (parseMethodDescriptor yX5_find.desc).map (fun d => d.parameters.length) = some 2 := by decide +kernel
set_option maxHeartbeats 4000000 in
set_option maxRecDepth 100000 in
theorem ct5_find (l : Launch) (P : nw_PT) (hD : nw_D P) (σ : nw_ST) (a1 : Int32) (a2 : Int32)  (K : Int32 → nw_ST → Prop) (hf : f5_find K σ a1 a2) : nw_MT l yX5_find cX5_find 3 (some .int) rm5_find P [.ref (P.2.1 37), .int a1, .int a2] σ (nw_Ki K) := by
  refine nw_enter (by decide) (by first | decide | exact Nat.le_of_ble_eq_true rfl) hD ?_
  intro X hl h he hR
  subst hl
  have h : nw_ok P X cX5_find RX5 3 := h
  show nw_G P X 3 σ [(0, .ref (P.2.1 37)), (1, .int a1), (2, .int a2)] 0 []
  have hL_28 :  ∀ (σ : nw_ST) (y0 : Int32), f5_find_28 K σ y0 → nw_G P X 3 σ [] 28 [.int y0] := by
    intro σ y0 hf
    unfold f5_find_28 at hf
    exact nw_iret (pc := 28) h he dX5_find_28 ⟨_, rfl, hf⟩
  unfold f5_find at hf
  refine nw_aload_n (pc := 0) h dX5_find_0 rfl 0 rfl ?_
  refine nw_iload_n (pc := 1) h dX5_find_1 rfl 1 rfl ?_
  refine klX5_131 (pc := 2) h (by rw [hR]; decide) hf (Nat.le_of_ble_eq_true rfl) dX5_find_2 (fun r_2 s_2 hf => ?_)
  obtain ⟨ho, hf⟩ := hf
  refine nw_if_eq (pc := 5) (tgt := 26) h dX5_find_5 (by decide) (fun c_5 => ?_) (fun c_5 => ?_)
  · skip
    have ho := ho.1 c_5
    refine nw_bipush (pc := 26) (v := -2) h dX5_find_26 (by decide) ?_
    simp only [if_pos c_5] at hf
    refine nw_sub (lv' := []) [] rfl ?_
    exact hL_28 _ _ hf
  · skip
    have ho := ho.2 c_5
    refine nw_iload_n (pc := 8) h dX5_find_8 rfl 2 rfl ?_
    refine nw_iconst (pc := 9) (v := 0) h dX5_find_9 (by decide) ?_
    refine nw_iconst (pc := 10) (v := 2) h dX5_find_10 (by decide) ?_
    refine klX5_89 (pc := 11) h (by rw [hR]; decide) (Nat.le_of_ble_eq_true rfl) dX5_find_11 ?_
    refine nw_if_eq (pc := 14) (tgt := 26) h dX5_find_14 (by decide) (fun c_14 => ?_) (fun c_14 => ?_)
    · skip
      have ho := ho.1 c_14
      refine nw_bipush (pc := 26) (v := -2) h dX5_find_26 (by decide) ?_
      simp only [if_neg c_5, if_pos c_14] at hf
      refine nw_sub (lv' := []) [] rfl ?_
      exact hL_28 _ _ hf
    · skip
      have ho := ho.2 c_14
      refine nw_aload_n (pc := 17) h dX5_find_17 rfl 0 rfl ?_
      refine nw_iload_n (pc := 18) h dX5_find_18 rfl 1 rfl ?_
      refine nw_iload_n (pc := 19) h dX5_find_19 rfl 2 rfl ?_
      have h_20 := ho
      refine klX5_134 (pc := 20) h (by rw [hR]; decide) h_20 (Nat.le_of_ble_eq_true rfl) dX5_find_20 ?_
      refine nw_goto (pc := 23) (tgt := 28) h dX5_find_23 (by decide) ?_
      simp only [if_neg c_5, if_neg c_14] at hf
      refine nw_sub (lv' := []) [] rfl ?_
      exact hL_28 _ _ hf
theorem gf5_137 {P : nw_PT} {X : nw_EX} {cc : ByteArray} {nL : Nat} {σ : nw_ST} {lv : List (Nat × Value)} {pc : Nat} {st : List Value} {q : Nat} (h : nw_ok P X cc RX5 nL) (hq : nw_cl q = 5) (hd : decode cc pc = .ok (.getfield 137, 3)) (k : nw_G P X nL σ lv (pc + 3) (.int (nw_gS σ q 10) :: st)) : nw_G P X nL σ lv pc (.ref (P.2.1 q) :: st) := by
  intro H locs ls h1 h2 h3
  exact va_get (D := P.1) (ci := 5) (C := RX5) (T := TX5) (N := 38) h.1.1 h.1.2.1 h.1.2.2.2.2 in_T5 h.1.2.2.2.1 h.2.1.1 h1 q (nw_at5 hq) rfl 10 (by decide) (h.1.2.2.2.2 _ nw_w397) (fun _ z => z) rfl hd (k H locs ls h1 h2 h3)
theorem pf5_137 {P : nw_PT} {X : nw_EX} {cc : ByteArray} {nL : Nat} {σ : nw_ST} {lv : List (Nat × Value)} {pc : Nat} {st : List Value} {q : Nat} (h : nw_ok P X cc RX5 nL) (hq : nw_cl q = 5) {v : Int32} (hd : decode cc pc = .ok (.putfield 137, 3)) (k : nw_G P X nL (nw_sS σ q 10 v) lv (pc + 3) st) : nw_G P X nL σ lv pc (.int v :: .ref (P.2.1 q) :: st) := by
  intro H locs ls h1 h2 h3
  exact va_put (D := P.1) (ci := 5) (ty := .int) (C := RX5) (T := TX5) (N := 38) h.1.1 h.1.2.1 h.1.2.2.2.2 in_T5 tyX5 tyX5_ok nmX5 h.1.2.2.2.1 h.2.1.1 h1 (h.2.2 σ) h2 q (nw_at5 hq) rfl 10 (by decide) (h.1.2.2.2.2 _ nw_w397) (fun _ z => z) rfl (by decide +kernel) rfl rfl (by show 10 < 38; decide) hd (fun H1 locs1 g1 _ g2 => k H1 locs1 ls (by rw [nw_set5_10 hq] at g1; exact g1) g2 h3)
def f5_depth (K : Int32 → nw_ST → Prop) (σ : nw_ST) (a1 : Int32) : Prop := ((((v5_in a1 (0 : Int32) (55 : Int32)) = 0) → (K (-2 : Int32) σ)) ∧ (¬ ((v5_in a1 (0 : Int32) (55 : Int32)) = 0) → (K (nw_gS σ 37 10) (nw_sS σ 37 10 a1))))
def rm5_depth : Room := { frames := 1, cells := 0, slots := 0, locals := 22 }
theorem yd5_depth : yX5_depth.cls = RX5 ∧ yX5_depth.cls ≠ "java/lang/invoke/MethodHandle" ∧ yX5_depth.cls ≠ "java/lang/invoke/VarHandle" ∧ (parseMethodDescriptor yX5_depth.desc).map (fun d => d.parameters.length) = some 1 := by decide +kernel
set_option maxHeartbeats 4000000 in
set_option maxRecDepth 100000 in
theorem ct5_depth (l : Launch) (P : nw_PT) (hD : nw_D P) (σ : nw_ST) (a1 : Int32)  (K : Int32 → nw_ST → Prop) (hf : f5_depth K σ a1) : nw_MT l yX5_depth cX5_depth 3 (some .int) rm5_depth P [.ref (P.2.1 37), .int a1] σ (nw_Ki K) := by
  refine nw_enter (by decide) (by first | decide | exact Nat.le_of_ble_eq_true rfl) hD ?_
  intro X hl h he hR
  subst hl
  have h : nw_ok P X cX5_depth RX5 3 := h
  show nw_G P X 3 σ [(0, .ref (P.2.1 37)), (1, .int a1)] 0 []
  unfold f5_depth at hf
  refine nw_iload_n (pc := 0) h dX5_depth_0 rfl 1 rfl ?_
  refine nw_iconst (pc := 1) (v := 0) h dX5_depth_1 (by decide) ?_
  refine nw_bipush (pc := 2) (v := 55) h dX5_depth_2 (by decide) ?_
  refine klX5_89 (pc := 4) h (by rw [hR]; decide) (Nat.le_of_ble_eq_true rfl) dX5_depth_4 ?_
  refine nw_if_ne (pc := 7) (tgt := 13) h dX5_depth_7 (by decide) (fun c_7 => ?_) (fun c_7 => ?_)
  · have hf := hf.2 c_7
    refine nw_aload_n (pc := 13) h dX5_depth_13 rfl 0 rfl ?_
    refine gf5_137 (pc := 14) h rfl dX5_depth_14 ?_
    refine nw_istore_n (pc := 17) (lv' := [(2, .int (nw_gS σ 37 10)), (0, .ref (P.2.1 37)), (1, .int a1)]) h dX5_depth_17 rfl (by decide) rfl ?_
    refine nw_aload_n (pc := 18) h dX5_depth_18 rfl 1 rfl ?_
    refine nw_iload_n (pc := 19) h dX5_depth_19 rfl 2 rfl ?_
    refine pf5_137 (pc := 20) h rfl dX5_depth_20 ?_
    refine nw_iload_n (pc := 23) h dX5_depth_23 rfl 0 rfl ?_
    exact nw_iret (pc := 24) h he dX5_depth_24 ⟨_, rfl, hf⟩
  · have hf := hf.1 c_7
    refine nw_bipush (pc := 10) (v := -2) h dX5_depth_10 (by decide) ?_
    exact nw_iret (pc := 12) h he dX5_depth_12 ⟨_, rfl, hf⟩
theorem gf5_140 {P : nw_PT} {X : nw_EX} {cc : ByteArray} {nL : Nat} {σ : nw_ST} {lv : List (Nat × Value)} {pc : Nat} {st : List Value} {q : Nat} (h : nw_ok P X cc RX5 nL) (hq : nw_cl q = 5) (hd : decode cc pc = .ok (.getfield 140, 3)) (k : nw_G P X nL σ lv (pc + 3) (.int (nw_gS σ q 11) :: st)) : nw_G P X nL σ lv pc (.ref (P.2.1 q) :: st) := by
  intro H locs ls h1 h2 h3
  exact va_get (D := P.1) (ci := 5) (C := RX5) (T := TX5) (N := 38) h.1.1 h.1.2.1 h.1.2.2.2.2 in_T5 h.1.2.2.2.1 h.2.1.1 h1 q (nw_at5 hq) rfl 11 (by decide) (h.1.2.2.2.2 _ nw_w398) (fun _ z => z) rfl hd (k H locs ls h1 h2 h3)
theorem gf5_34 {P : nw_PT} {X : nw_EX} {cc : ByteArray} {nL : Nat} {σ : nw_ST} {lv : List (Nat × Value)} {pc : Nat} {st : List Value} {q : Nat} (h : nw_ok P X cc RX5 nL) (hq : nw_cl q = 5) {r : Nat} (hr : nw_rf q 12 = r) (hd : decode cc pc = .ok (.getfield 34, 3)) (k : nw_G P X nL σ lv (pc + 3) (.ref (P.2.1 r) :: st)) : nw_G P X nL σ lv pc (.ref (P.2.1 q) :: st) := by
  subst hr; intro H locs ls h1 h2 h3
  exact va_get (D := P.1) (ci := 5) (C := RX5) (T := TX5) (N := 38) h.1.1 h.1.2.1 h.1.2.2.2.2 in_T5 h.1.2.2.2.1 h.2.1.1 h1 q (nw_at5 hq) rfl 12 (by decide) (h.1.2.2.2.2 _ nw_w399) (fun _ z => z) rfl hd (k H locs ls h1 h2 h3)
theorem gf5_37 {P : nw_PT} {X : nw_EX} {cc : ByteArray} {nL : Nat} {σ : nw_ST} {lv : List (Nat × Value)} {pc : Nat} {st : List Value} {q : Nat} (h : nw_ok P X cc RX5 nL) (hq : nw_cl q = 5) {r : Nat} (hr : nw_rf q 13 = r) (hd : decode cc pc = .ok (.getfield 37, 3)) (k : nw_G P X nL σ lv (pc + 3) (.ref (P.2.1 r) :: st)) : nw_G P X nL σ lv pc (.ref (P.2.1 q) :: st) := by
  subst hr; intro H locs ls h1 h2 h3
  exact va_get (D := P.1) (ci := 5) (C := RX5) (T := TX5) (N := 38) h.1.1 h.1.2.1 h.1.2.2.2.2 in_T5 h.1.2.2.2.1 h.2.1.1 h1 q (nw_at5 hq) rfl 13 (by decide) (h.1.2.2.2.2 _ nw_w400) (fun _ z => z) rfl hd (k H locs ls h1 h2 h3)
theorem pf5_140 {P : nw_PT} {X : nw_EX} {cc : ByteArray} {nL : Nat} {σ : nw_ST} {lv : List (Nat × Value)} {pc : Nat} {st : List Value} {q : Nat} (h : nw_ok P X cc RX5 nL) (hq : nw_cl q = 5) {v : Int32} (hd : decode cc pc = .ok (.putfield 140, 3)) (k : nw_G P X nL (nw_sS σ q 11 v) lv (pc + 3) st) : nw_G P X nL σ lv pc (.int v :: .ref (P.2.1 q) :: st) := by
  intro H locs ls h1 h2 h3
  exact va_put (D := P.1) (ci := 5) (ty := .int) (C := RX5) (T := TX5) (N := 38) h.1.1 h.1.2.1 h.1.2.2.2.2 in_T5 tyX5 tyX5_ok nmX5 h.1.2.2.2.1 h.2.1.1 h1 (h.2.2 σ) h2 q (nw_at5 hq) rfl 11 (by decide) (h.1.2.2.2.2 _ nw_w398) (fun _ z => z) rfl (by decide +kernel) rfl rfl (by show 11 < 38; decide) hd (fun H1 locs1 g1 _ g2 => k H1 locs1 ls (by rw [nw_set5_11 hq] at g1; exact g1) g2 h3)
def f5_slip_21 (K : Int32 → nw_ST → Prop) (σ : nw_ST) : Prop := (K (-2 : Int32) σ)
def f5_slip (K : Int32 → nw_ST → Prop) (σ : nw_ST) (a1 : Int32) (a2 : Int32) : Prop := ((((v5_in a1 (1 : Int32) (240 : Int32)) = 0) → (f5_slip_21 K σ)) ∧ (¬ ((v5_in a1 (1 : Int32) (240 : Int32)) = 0) → ((((v5_in a2 (1 : Int32) (11 : Int32)) = 0) → (f5_slip_21 K σ)) ∧ (¬ ((v5_in a2 (1 : Int32) (11 : Int32)) = 0) → ((((nw_gS σ 37 11) = (12 : Int32)) → (K (-4 : Int32) σ)) ∧ (¬ ((nw_gS σ 37 11) = (12 : Int32)) → ((vp_in (nw_gS σ 37 11) 13) ∧ ((vp_in (nw_gS (nw_sA σ 46 (nw_gS σ 37 11).toNatClampNeg a1) 37 11) 13) ∧ (K (nw_gS (nw_sS (nw_sA (nw_sA σ 46 (nw_gS σ 37 11).toNatClampNeg a1) 47 (nw_gS (nw_sA σ 46 (nw_gS σ 37 11).toNatClampNeg a1) 37 11).toNatClampNeg a2) 37 11 ((nw_gS (nw_sA (nw_sA σ 46 (nw_gS σ 37 11).toNatClampNeg a1) 47 (nw_gS (nw_sA σ 46 (nw_gS σ 37 11).toNatClampNeg a1) 37 11).toNatClampNeg a2) 37 11) + (1 : Int32))) 37 11) (nw_sS (nw_sA (nw_sA σ 46 (nw_gS σ 37 11).toNatClampNeg a1) 47 (nw_gS (nw_sA σ 46 (nw_gS σ 37 11).toNatClampNeg a1) 37 11).toNatClampNeg a2) 37 11 ((nw_gS (nw_sA (nw_sA σ 46 (nw_gS σ 37 11).toNatClampNeg a1) 47 (nw_gS (nw_sA σ 46 (nw_gS σ 37 11).toNatClampNeg a1) 37 11).toNatClampNeg a2) 37 11) + (1 : Int32))))))))))))
def rm5_slip : Room := { frames := 1, cells := 0, slots := 0, locals := 22 }
theorem yd5_slip : yX5_slip.cls = RX5 ∧ yX5_slip.cls ≠ "java/lang/invoke/MethodHandle" ∧ yX5_slip.cls ≠ "java/lang/invoke/VarHandle" ∧ (parseMethodDescriptor yX5_slip.desc).map (fun d => d.parameters.length) = some 2 := by decide +kernel
set_option maxHeartbeats 4000000 in
set_option maxRecDepth 100000 in
theorem ct5_slip (l : Launch) (P : nw_PT) (hD : nw_D P) (σ : nw_ST) (a1 : Int32) (a2 : Int32)  (K : Int32 → nw_ST → Prop) (hf : f5_slip K σ a1 a2) : nw_MT l yX5_slip cX5_slip 3 (some .int) rm5_slip P [.ref (P.2.1 37), .int a1, .int a2] σ (nw_Ki K) := by
  refine nw_enter (by decide) (by first | decide | exact Nat.le_of_ble_eq_true rfl) hD ?_
  intro X hl h he hR
  subst hl
  have h : nw_ok P X cX5_slip RX5 3 := h
  show nw_G P X 3 σ [(0, .ref (P.2.1 37)), (1, .int a1), (2, .int a2)] 0 []
  have hL_21 :  ∀ (σ : nw_ST), f5_slip_21 K σ → nw_G P X 3 σ [] 21 [] := by
    intro σ hf
    unfold f5_slip_21 at hf
    refine nw_bipush (pc := 21) (v := -2) h dX5_slip_21 (by decide) ?_
    exact nw_iret (pc := 23) h he dX5_slip_23 ⟨_, rfl, hf⟩
  unfold f5_slip at hf
  refine nw_iload_n (pc := 0) h dX5_slip_0 rfl 1 rfl ?_
  refine nw_iconst (pc := 1) (v := 1) h dX5_slip_1 (by decide) ?_
  refine nw_sipush (pc := 2) (v := 240) h dX5_slip_2 (by decide) ?_
  refine klX5_89 (pc := 5) h (by rw [hR]; decide) (Nat.le_of_ble_eq_true rfl) dX5_slip_5 ?_
  refine nw_if_eq (pc := 8) (tgt := 21) h dX5_slip_8 (by decide) (fun c_8 => ?_) (fun c_8 => ?_)
  · have hf := hf.1 c_8
    refine nw_sub (lv' := []) [] rfl ?_
    exact hL_21 _ (hf)
  · have hf := hf.2 c_8
    refine nw_iload_n (pc := 11) h dX5_slip_11 rfl 2 rfl ?_
    refine nw_iconst (pc := 12) (v := 1) h dX5_slip_12 (by decide) ?_
    refine nw_bipush (pc := 13) (v := 11) h dX5_slip_13 (by decide) ?_
    refine klX5_89 (pc := 15) h (by rw [hR]; decide) (Nat.le_of_ble_eq_true rfl) dX5_slip_15 ?_
    refine nw_if_ne (pc := 18) (tgt := 24) h dX5_slip_18 (by decide) (fun c_18 => ?_) (fun c_18 => ?_)
    · have hf := hf.2 c_18
      refine nw_aload_n (pc := 24) h dX5_slip_24 rfl 0 rfl ?_
      refine gf5_140 (pc := 25) h rfl dX5_slip_25 ?_
      refine nw_bipush (pc := 28) (v := 12) h dX5_slip_28 (by decide) ?_
      refine nw_icmp_ne (pc := 30) (tgt := 36) h dX5_slip_30 (by decide) (fun c_30 => ?_) (fun c_30 => ?_)
      · have hf := hf.2 c_30
        refine nw_aload_n (pc := 36) h dX5_slip_36 rfl 0 rfl ?_
        refine gf5_34 (pc := 37) (r := 46) h rfl rfl dX5_slip_37 ?_
        refine nw_aload_n (pc := 40) h dX5_slip_40 rfl 0 rfl ?_
        refine gf5_140 (pc := 41) h rfl dX5_slip_41 ?_
        refine nw_iload_n (pc := 44) h dX5_slip_44 rfl 1 rfl ?_
        obtain ⟨h_45, hf⟩ := hf
        refine nw_iast (pc := 45) (n := 13) h rfl rfl h_45 dX5_slip_45 ?_
        refine nw_aload_n (pc := 46) h dX5_slip_46 rfl 0 rfl ?_
        refine gf5_37 (pc := 47) (r := 47) h rfl rfl dX5_slip_47 ?_
        refine nw_aload_n (pc := 50) h dX5_slip_50 rfl 0 rfl ?_
        refine gf5_140 (pc := 51) h rfl dX5_slip_51 ?_
        refine nw_iload_n (pc := 54) h dX5_slip_54 rfl 2 rfl ?_
        obtain ⟨h_55, hf⟩ := hf
        refine nw_iast (pc := 55) (n := 13) h rfl rfl h_55 dX5_slip_55 ?_
        refine nw_aload_n (pc := 56) h dX5_slip_56 rfl 0 rfl ?_
        refine nw_dup (pc := 57) h dX5_slip_57 rfl ?_
        refine gf5_140 (pc := 58) h rfl dX5_slip_58 ?_
        refine nw_iconst (pc := 61) (v := 1) h dX5_slip_61 (by decide) ?_
        refine nw_iadd (pc := 62) h dX5_slip_62 ?_
        refine pf5_140 (pc := 63) h rfl dX5_slip_63 ?_
        refine nw_aload_n (pc := 66) h dX5_slip_66 rfl 0 rfl ?_
        refine gf5_140 (pc := 67) h rfl dX5_slip_67 ?_
        exact nw_iret (pc := 70) h he dX5_slip_70 ⟨_, rfl, hf⟩
      · have hf := hf.1 c_30
        refine nw_bipush (pc := 33) (v := -4) h dX5_slip_33 (by decide) ?_
        exact nw_iret (pc := 35) h he dX5_slip_35 ⟨_, rfl, hf⟩
    · have hf := hf.1 c_18
      refine nw_sub (lv' := []) [] rfl ?_
      exact hL_21 _ (hf)
theorem klX5_143 {P : nw_PT} {X : nw_EX} {cc : ByteArray} {nL : Nat} {σ : nw_ST} {lv : List (Nat × Value)} {pc : Nat} {rest : List Value} {a1 : Int32} (h : nw_ok P X cc RX5 nL) (hR : rm5_isTime.frames + 1 ≤ X.2.2.2.1.frames ∧ 8 + (1 + 11) + rm5_isTime.locals ≤ X.2.2.2.1.locals)  (hst : (rest.map fun v => v.category).sum ≤ 8) (hd : decode cc pc = .ok (.invokestatic 143, 3)) (k : nw_G P X nL σ lv (pc + 3) (.int (v5_isTime a1) :: rest)) : nw_G P X nL σ lv pc (.int a1 :: rest) :=
  nw_callS (As := [.int a1]) (rest := rest) h (ct5_isTime _ P h.2.2 σ a1) (nw_goodS nw_w401 nw_w402 nw_w342 nw_w403) yd5_isTime.2 rfl hR ⟨rfl, rfl⟩ hst rfl hd (fun v s2 z => by obtain ⟨r, rfl, rfl, rfl⟩ := z; exact k)
theorem gf5_146 {P : nw_PT} {X : nw_EX} {cc : ByteArray} {nL : Nat} {σ : nw_ST} {lv : List (Nat × Value)} {pc : Nat} {st : List Value} {q : Nat} (h : nw_ok P X cc RX5 nL) (hq : nw_cl q = 5) (hd : decode cc pc = .ok (.getfield 146, 3)) (k : nw_G P X nL σ lv (pc + 3) (.int (nw_gS σ q 14) :: st)) : nw_G P X nL σ lv pc (.ref (P.2.1 q) :: st) := by
  intro H locs ls h1 h2 h3
  exact va_get (D := P.1) (ci := 5) (C := RX5) (T := TX5) (N := 38) h.1.1 h.1.2.1 h.1.2.2.2.2 in_T5 h.1.2.2.2.1 h.2.1.1 h1 q (nw_at5 hq) rfl 14 (by decide) (h.1.2.2.2.2 _ nw_w404) (fun _ z => z) rfl hd (k H locs ls h1 h2 h3)
theorem gf5_40 {P : nw_PT} {X : nw_EX} {cc : ByteArray} {nL : Nat} {σ : nw_ST} {lv : List (Nat × Value)} {pc : Nat} {st : List Value} {q : Nat} (h : nw_ok P X cc RX5 nL) (hq : nw_cl q = 5) {r : Nat} (hr : nw_rf q 15 = r) (hd : decode cc pc = .ok (.getfield 40, 3)) (k : nw_G P X nL σ lv (pc + 3) (.ref (P.2.1 r) :: st)) : nw_G P X nL σ lv pc (.ref (P.2.1 q) :: st) := by
  subst hr; intro H locs ls h1 h2 h3
  exact va_get (D := P.1) (ci := 5) (C := RX5) (T := TX5) (N := 38) h.1.1 h.1.2.1 h.1.2.2.2.2 in_T5 h.1.2.2.2.1 h.2.1.1 h1 q (nw_at5 hq) rfl 15 (by decide) (h.1.2.2.2.2 _ nw_w405) (fun _ z => z) rfl hd (k H locs ls h1 h2 h3)
theorem pf5_146 {P : nw_PT} {X : nw_EX} {cc : ByteArray} {nL : Nat} {σ : nw_ST} {lv : List (Nat × Value)} {pc : Nat} {st : List Value} {q : Nat} (h : nw_ok P X cc RX5 nL) (hq : nw_cl q = 5) {v : Int32} (hd : decode cc pc = .ok (.putfield 146, 3)) (k : nw_G P X nL (nw_sS σ q 14 v) lv (pc + 3) st) : nw_G P X nL σ lv pc (.int v :: .ref (P.2.1 q) :: st) := by
  intro H locs ls h1 h2 h3
  exact va_put (D := P.1) (ci := 5) (ty := .int) (C := RX5) (T := TX5) (N := 38) h.1.1 h.1.2.1 h.1.2.2.2.2 in_T5 tyX5 tyX5_ok nmX5 h.1.2.2.2.1 h.2.1.1 h1 (h.2.2 σ) h2 q (nw_at5 hq) rfl 14 (by decide) (h.1.2.2.2.2 _ nw_w404) (fun _ z => z) rfl (by decide +kernel) rfl rfl (by show 14 < 38; decide) hd (fun H1 locs1 g1 _ g2 => k H1 locs1 ls (by rw [nw_set5_14 hq] at g1; exact g1) g2 h3)
def f5_wake (K : Int32 → nw_ST → Prop) (σ : nw_ST) (a1 : Int32) : Prop := ((((v5_isTime a1) = 0) → (K (-2 : Int32) σ)) ∧ (¬ ((v5_isTime a1) = 0) → ((((nw_gS σ 37 14) = (8 : Int32)) → (K (-4 : Int32) σ)) ∧ (¬ ((nw_gS σ 37 14) = (8 : Int32)) → ((vp_in (nw_gS σ 37 14) 9) ∧ (K (nw_gS (nw_sS (nw_sA σ 48 (nw_gS σ 37 14).toNatClampNeg a1) 37 14 ((nw_gS (nw_sA σ 48 (nw_gS σ 37 14).toNatClampNeg a1) 37 14) + (1 : Int32))) 37 14) (nw_sS (nw_sA σ 48 (nw_gS σ 37 14).toNatClampNeg a1) 37 14 ((nw_gS (nw_sA σ 48 (nw_gS σ 37 14).toNatClampNeg a1) 37 14) + (1 : Int32)))))))))
def rm5_wake : Room := { frames := 2, cells := 0, slots := 0, locals := 42 }
theorem yd5_wake : yX5_wake.cls = RX5 ∧ yX5_wake.cls ≠ "java/lang/invoke/MethodHandle" ∧ yX5_wake.cls ≠ "java/lang/invoke/VarHandle" ∧ (parseMethodDescriptor yX5_wake.desc).map (fun d => d.parameters.length) = some 1 := by decide +kernel
set_option maxHeartbeats 4000000 in
set_option maxRecDepth 100000 in
theorem ct5_wake (l : Launch) (P : nw_PT) (hD : nw_D P) (σ : nw_ST) (a1 : Int32)  (K : Int32 → nw_ST → Prop) (hf : f5_wake K σ a1) : nw_MT l yX5_wake cX5_wake 2 (some .int) rm5_wake P [.ref (P.2.1 37), .int a1] σ (nw_Ki K) := by
  refine nw_enter (by decide) (by first | decide | exact Nat.le_of_ble_eq_true rfl) hD ?_
  intro X hl h he hR
  subst hl
  have h : nw_ok P X cX5_wake RX5 2 := h
  show nw_G P X 2 σ [(0, .ref (P.2.1 37)), (1, .int a1)] 0 []
  unfold f5_wake at hf
  refine nw_iload_n (pc := 0) h dX5_wake_0 rfl 1 rfl ?_
  refine klX5_143 (pc := 1) h (by rw [hR]; decide) (Nat.le_of_ble_eq_true rfl) dX5_wake_1 ?_
  refine nw_if_ne (pc := 4) (tgt := 10) h dX5_wake_4 (by decide) (fun c_4 => ?_) (fun c_4 => ?_)
  · have hf := hf.2 c_4
    refine nw_aload_n (pc := 10) h dX5_wake_10 rfl 0 rfl ?_
    refine gf5_146 (pc := 11) h rfl dX5_wake_11 ?_
    refine nw_bipush (pc := 14) (v := 8) h dX5_wake_14 (by decide) ?_
    refine nw_icmp_ne (pc := 16) (tgt := 22) h dX5_wake_16 (by decide) (fun c_16 => ?_) (fun c_16 => ?_)
    · have hf := hf.2 c_16
      refine nw_aload_n (pc := 22) h dX5_wake_22 rfl 0 rfl ?_
      refine gf5_40 (pc := 23) (r := 48) h rfl rfl dX5_wake_23 ?_
      refine nw_aload_n (pc := 26) h dX5_wake_26 rfl 0 rfl ?_
      refine gf5_146 (pc := 27) h rfl dX5_wake_27 ?_
      refine nw_iload_n (pc := 30) h dX5_wake_30 rfl 1 rfl ?_
      obtain ⟨h_31, hf⟩ := hf
      refine nw_iast (pc := 31) (n := 9) h rfl rfl h_31 dX5_wake_31 ?_
      refine nw_aload_n (pc := 32) h dX5_wake_32 rfl 0 rfl ?_
      refine nw_dup (pc := 33) h dX5_wake_33 rfl ?_
      refine gf5_146 (pc := 34) h rfl dX5_wake_34 ?_
      refine nw_iconst (pc := 37) (v := 1) h dX5_wake_37 (by decide) ?_
      refine nw_iadd (pc := 38) h dX5_wake_38 ?_
      refine pf5_146 (pc := 39) h rfl dX5_wake_39 ?_
      refine nw_aload_n (pc := 42) h dX5_wake_42 rfl 0 rfl ?_
      refine gf5_146 (pc := 43) h rfl dX5_wake_43 ?_
      exact nw_iret (pc := 46) h he dX5_wake_46 ⟨_, rfl, hf⟩
    · have hf := hf.1 c_16
      refine nw_bipush (pc := 19) (v := -4) h dX5_wake_19 (by decide) ?_
      exact nw_iret (pc := 21) h he dX5_wake_21 ⟨_, rfl, hf⟩
  · have hf := hf.1 c_4
    refine nw_bipush (pc := 7) (v := -2) h dX5_wake_7 (by decide) ?_
    exact nw_iret (pc := 9) h he dX5_wake_9 ⟨_, rfl, hf⟩
theorem klX5_149 {P : nw_PT} {X : nw_EX} {cc : ByteArray} {nL : Nat} {σ : nw_ST} {lv : List (Nat × Value)} {pc : Nat} {rest : List Value} {a1 : Int32} (h : nw_ok P X cc RX5 nL) (hR : rm5_isNumber.frames + 1 ≤ X.2.2.2.1.frames ∧ 8 + (1 + 11) + rm5_isNumber.locals ≤ X.2.2.2.1.locals)  (hst : (rest.map fun v => v.category).sum ≤ 8) (hd : decode cc pc = .ok (.invokestatic 149, 3)) (k : nw_G P X nL σ lv (pc + 3) (.int (v5_isNumber a1) :: rest)) : nw_G P X nL σ lv pc (.int a1 :: rest) :=
  nw_callS (As := [.int a1]) (rest := rest) h (ct5_isNumber _ P h.2.2 σ a1) (nw_goodS nw_w406 nw_w407 nw_w342 nw_w408) yd5_isNumber.2 rfl hR ⟨rfl, rfl⟩ hst rfl hd (fun v s2 z => by obtain ⟨r, rfl, rfl, rfl⟩ := z; exact k)
theorem gf5_152 {P : nw_PT} {X : nw_EX} {cc : ByteArray} {nL : Nat} {σ : nw_ST} {lv : List (Nat × Value)} {pc : Nat} {st : List Value} {q : Nat} (h : nw_ok P X cc RX5 nL) (hq : nw_cl q = 5) (hd : decode cc pc = .ok (.getfield 152, 3)) (k : nw_G P X nL σ lv (pc + 3) (.int (nw_gS σ q 16) :: st)) : nw_G P X nL σ lv pc (.ref (P.2.1 q) :: st) := by
  intro H locs ls h1 h2 h3
  exact va_get (D := P.1) (ci := 5) (C := RX5) (T := TX5) (N := 38) h.1.1 h.1.2.1 h.1.2.2.2.2 in_T5 h.1.2.2.2.1 h.2.1.1 h1 q (nw_at5 hq) rfl 16 (by decide) (h.1.2.2.2.2 _ nw_w409) (fun _ z => z) rfl hd (k H locs ls h1 h2 h3)
theorem gf5_43 {P : nw_PT} {X : nw_EX} {cc : ByteArray} {nL : Nat} {σ : nw_ST} {lv : List (Nat × Value)} {pc : Nat} {st : List Value} {q : Nat} (h : nw_ok P X cc RX5 nL) (hq : nw_cl q = 5) {r : Nat} (hr : nw_rf q 17 = r) (hd : decode cc pc = .ok (.getfield 43, 3)) (k : nw_G P X nL σ lv (pc + 3) (.ref (P.2.1 r) :: st)) : nw_G P X nL σ lv pc (.ref (P.2.1 q) :: st) := by
  subst hr; intro H locs ls h1 h2 h3
  exact va_get (D := P.1) (ci := 5) (C := RX5) (T := TX5) (N := 38) h.1.1 h.1.2.1 h.1.2.2.2.2 in_T5 h.1.2.2.2.1 h.2.1.1 h1 q (nw_at5 hq) rfl 17 (by decide) (h.1.2.2.2.2 _ nw_w410) (fun _ z => z) rfl hd (k H locs ls h1 h2 h3)
theorem gf5_46 {P : nw_PT} {X : nw_EX} {cc : ByteArray} {nL : Nat} {σ : nw_ST} {lv : List (Nat × Value)} {pc : Nat} {st : List Value} {q : Nat} (h : nw_ok P X cc RX5 nL) (hq : nw_cl q = 5) {r : Nat} (hr : nw_rf q 18 = r) (hd : decode cc pc = .ok (.getfield 46, 3)) (k : nw_G P X nL σ lv (pc + 3) (.ref (P.2.1 r) :: st)) : nw_G P X nL σ lv pc (.ref (P.2.1 q) :: st) := by
  subst hr; intro H locs ls h1 h2 h3
  exact va_get (D := P.1) (ci := 5) (C := RX5) (T := TX5) (N := 38) h.1.1 h.1.2.1 h.1.2.2.2.2 in_T5 h.1.2.2.2.1 h.2.1.1 h1 q (nw_at5 hq) rfl 18 (by decide) (h.1.2.2.2.2 _ nw_w411) (fun _ z => z) rfl hd (k H locs ls h1 h2 h3)
theorem pf5_152 {P : nw_PT} {X : nw_EX} {cc : ByteArray} {nL : Nat} {σ : nw_ST} {lv : List (Nat × Value)} {pc : Nat} {st : List Value} {q : Nat} (h : nw_ok P X cc RX5 nL) (hq : nw_cl q = 5) {v : Int32} (hd : decode cc pc = .ok (.putfield 152, 3)) (k : nw_G P X nL (nw_sS σ q 16 v) lv (pc + 3) st) : nw_G P X nL σ lv pc (.int v :: .ref (P.2.1 q) :: st) := by
  intro H locs ls h1 h2 h3
  exact va_put (D := P.1) (ci := 5) (ty := .int) (C := RX5) (T := TX5) (N := 38) h.1.1 h.1.2.1 h.1.2.2.2.2 in_T5 tyX5 tyX5_ok nmX5 h.1.2.2.2.1 h.2.1.1 h1 (h.2.2 σ) h2 q (nw_at5 hq) rfl 16 (by decide) (h.1.2.2.2.2 _ nw_w409) (fun _ z => z) rfl (by decide +kernel) rfl rfl (by show 16 < 38; decide) hd (fun H1 locs1 g1 _ g2 => k H1 locs1 ls (by rw [nw_set5_16 hq] at g1; exact g1) g2 h3)
def f5_ticket_17 (K : Int32 → nw_ST → Prop) (σ : nw_ST) : Prop := (K (-2 : Int32) σ)
def f5_ticket (K : Int32 → nw_ST → Prop) (σ : nw_ST) (a1 : Int32) (a2 : Int32) : Prop := ((((v5_in a1 (0 : Int32) (7 : Int32)) = 0) → (f5_ticket_17 K σ)) ∧ (¬ ((v5_in a1 (0 : Int32) (7 : Int32)) = 0) → ((((v5_isNumber a2) = 0) → (f5_ticket_17 K σ)) ∧ (¬ ((v5_isNumber a2) = 0) → ((((nw_gS σ 37 16) = (12 : Int32)) → (K (-4 : Int32) σ)) ∧ (¬ ((nw_gS σ 37 16) = (12 : Int32)) → ((vp_in (nw_gS σ 37 16) 13) ∧ ((vp_in (nw_gS (nw_sA σ 49 (nw_gS σ 37 16).toNatClampNeg a1) 37 16) 13) ∧ (K (nw_gS (nw_sS (nw_sA (nw_sA σ 49 (nw_gS σ 37 16).toNatClampNeg a1) 50 (nw_gS (nw_sA σ 49 (nw_gS σ 37 16).toNatClampNeg a1) 37 16).toNatClampNeg a2) 37 16 ((nw_gS (nw_sA (nw_sA σ 49 (nw_gS σ 37 16).toNatClampNeg a1) 50 (nw_gS (nw_sA σ 49 (nw_gS σ 37 16).toNatClampNeg a1) 37 16).toNatClampNeg a2) 37 16) + (1 : Int32))) 37 16) (nw_sS (nw_sA (nw_sA σ 49 (nw_gS σ 37 16).toNatClampNeg a1) 50 (nw_gS (nw_sA σ 49 (nw_gS σ 37 16).toNatClampNeg a1) 37 16).toNatClampNeg a2) 37 16 ((nw_gS (nw_sA (nw_sA σ 49 (nw_gS σ 37 16).toNatClampNeg a1) 50 (nw_gS (nw_sA σ 49 (nw_gS σ 37 16).toNatClampNeg a1) 37 16).toNatClampNeg a2) 37 16) + (1 : Int32))))))))))))
def rm5_ticket : Room := { frames := 2, cells := 0, slots := 0, locals := 42 }
theorem yd5_ticket : yX5_ticket.cls = RX5 ∧ yX5_ticket.cls ≠ "java/lang/invoke/MethodHandle" ∧ yX5_ticket.cls ≠ "java/lang/invoke/VarHandle" ∧ (parseMethodDescriptor yX5_ticket.desc).map (fun d => d.parameters.length) = some 2 := by decide +kernel
set_option maxHeartbeats 4000000 in
set_option maxRecDepth 100000 in
theorem ct5_ticket (l : Launch) (P : nw_PT) (hD : nw_D P) (σ : nw_ST) (a1 : Int32) (a2 : Int32)  (K : Int32 → nw_ST → Prop) (hf : f5_ticket K σ a1 a2) : nw_MT l yX5_ticket cX5_ticket 3 (some .int) rm5_ticket P [.ref (P.2.1 37), .int a1, .int a2] σ (nw_Ki K) := by
  refine nw_enter (by decide) (by first | decide | exact Nat.le_of_ble_eq_true rfl) hD ?_
  intro X hl h he hR
  subst hl
  have h : nw_ok P X cX5_ticket RX5 3 := h
  show nw_G P X 3 σ [(0, .ref (P.2.1 37)), (1, .int a1), (2, .int a2)] 0 []
  have hL_17 :  ∀ (σ : nw_ST), f5_ticket_17 K σ → nw_G P X 3 σ [] 17 [] := by
    intro σ hf
    unfold f5_ticket_17 at hf
    refine nw_bipush (pc := 17) (v := -2) h dX5_ticket_17 (by decide) ?_
    exact nw_iret (pc := 19) h he dX5_ticket_19 ⟨_, rfl, hf⟩
  unfold f5_ticket at hf
  refine nw_iload_n (pc := 0) h dX5_ticket_0 rfl 1 rfl ?_
  refine nw_iconst (pc := 1) (v := 0) h dX5_ticket_1 (by decide) ?_
  refine nw_bipush (pc := 2) (v := 7) h dX5_ticket_2 (by decide) ?_
  refine klX5_89 (pc := 4) h (by rw [hR]; decide) (Nat.le_of_ble_eq_true rfl) dX5_ticket_4 ?_
  refine nw_if_eq (pc := 7) (tgt := 17) h dX5_ticket_7 (by decide) (fun c_7 => ?_) (fun c_7 => ?_)
  · have hf := hf.1 c_7
    refine nw_sub (lv' := []) [] rfl ?_
    exact hL_17 _ (hf)
  · have hf := hf.2 c_7
    refine nw_iload_n (pc := 10) h dX5_ticket_10 rfl 2 rfl ?_
    refine klX5_149 (pc := 11) h (by rw [hR]; decide) (Nat.le_of_ble_eq_true rfl) dX5_ticket_11 ?_
    refine nw_if_ne (pc := 14) (tgt := 20) h dX5_ticket_14 (by decide) (fun c_14 => ?_) (fun c_14 => ?_)
    · have hf := hf.2 c_14
      refine nw_aload_n (pc := 20) h dX5_ticket_20 rfl 0 rfl ?_
      refine gf5_152 (pc := 21) h rfl dX5_ticket_21 ?_
      refine nw_bipush (pc := 24) (v := 12) h dX5_ticket_24 (by decide) ?_
      refine nw_icmp_ne (pc := 26) (tgt := 32) h dX5_ticket_26 (by decide) (fun c_26 => ?_) (fun c_26 => ?_)
      · have hf := hf.2 c_26
        refine nw_aload_n (pc := 32) h dX5_ticket_32 rfl 0 rfl ?_
        refine gf5_43 (pc := 33) (r := 49) h rfl rfl dX5_ticket_33 ?_
        refine nw_aload_n (pc := 36) h dX5_ticket_36 rfl 0 rfl ?_
        refine gf5_152 (pc := 37) h rfl dX5_ticket_37 ?_
        refine nw_iload_n (pc := 40) h dX5_ticket_40 rfl 1 rfl ?_
        obtain ⟨h_41, hf⟩ := hf
        refine nw_iast (pc := 41) (n := 13) h rfl rfl h_41 dX5_ticket_41 ?_
        refine nw_aload_n (pc := 42) h dX5_ticket_42 rfl 0 rfl ?_
        refine gf5_46 (pc := 43) (r := 50) h rfl rfl dX5_ticket_43 ?_
        refine nw_aload_n (pc := 46) h dX5_ticket_46 rfl 0 rfl ?_
        refine gf5_152 (pc := 47) h rfl dX5_ticket_47 ?_
        refine nw_iload_n (pc := 50) h dX5_ticket_50 rfl 2 rfl ?_
        obtain ⟨h_51, hf⟩ := hf
        refine nw_iast (pc := 51) (n := 13) h rfl rfl h_51 dX5_ticket_51 ?_
        refine nw_aload_n (pc := 52) h dX5_ticket_52 rfl 0 rfl ?_
        refine nw_dup (pc := 53) h dX5_ticket_53 rfl ?_
        refine gf5_152 (pc := 54) h rfl dX5_ticket_54 ?_
        refine nw_iconst (pc := 57) (v := 1) h dX5_ticket_57 (by decide) ?_
        refine nw_iadd (pc := 58) h dX5_ticket_58 ?_
        refine pf5_152 (pc := 59) h rfl dX5_ticket_59 ?_
        refine nw_aload_n (pc := 62) h dX5_ticket_62 rfl 0 rfl ?_
        refine gf5_152 (pc := 63) h rfl dX5_ticket_63 ?_
        exact nw_iret (pc := 66) h he dX5_ticket_66 ⟨_, rfl, hf⟩
      · have hf := hf.1 c_26
        refine nw_bipush (pc := 29) (v := -4) h dX5_ticket_29 (by decide) ?_
        exact nw_iret (pc := 31) h he dX5_ticket_31 ⟨_, rfl, hf⟩
    · have hf := hf.1 c_14
      refine nw_sub (lv' := []) [] rfl ?_
      exact hL_17 _ (hf)
def f5_back_99 (K : Int32 → nw_ST → Prop) (σ : nw_ST) (x2 : Int32) (y0 : Int32) (y1 : Int32) : Prop := (K (x2 - (1 : Int32)) (nw_sS σ 37 16 (y1 - y0)))
def f5_back_80 (K : Int32 → nw_ST → Prop) (σ : nw_ST) (x1 : Int32) (x2 : Int32) (y0 : Int32) (y1 : Int32) : Prop := (f5_back_99 K (nw_sS σ 37 14 (y1 - y0)) x2 (if (x1 = (2 : Int32)) then (1 : Int32) else (0 : Int32)) (nw_gS (nw_sS σ 37 14 (y1 - y0)) 37 16))
def f5_back_61 (K : Int32 → nw_ST → Prop) (σ : nw_ST) (x1 : Int32) (x2 : Int32) (y0 : Int32) (y1 : Int32) : Prop := (f5_back_80 K (nw_sS σ 37 11 (y1 - y0)) x1 x2 (if (x1 = (1 : Int32)) then (1 : Int32) else (0 : Int32)) (nw_gS (nw_sS σ 37 11 (y1 - y0)) 37 14))
def f5_back_39 (K : Int32 → nw_ST → Prop) (σ : nw_ST) (x1 : Int32) (y0 : Int32) : Prop := (((y0 = 0) → (K (-3 : Int32) σ)) ∧ (¬ (y0 = 0) → (f5_back_61 K σ x1 y0 (if (x1 = 0) then (1 : Int32) else (0 : Int32)) (nw_gS σ 37 11))))
def f5_back (K : Int32 → nw_ST → Prop) (σ : nw_ST) (a1 : Int32) : Prop := ((((v5_in a1 (0 : Int32) (2 : Int32)) = 0) → (K (-2 : Int32) σ)) ∧ (¬ ((v5_in a1 (0 : Int32) (2 : Int32)) = 0) → (f5_back_39 K σ a1 (if (a1 = 0) then (nw_gS σ 37 11) else (if (a1 = (1 : Int32)) then (nw_gS σ 37 14) else (nw_gS σ 37 16))))))
def rm5_back : Room := { frames := 1, cells := 0, slots := 0, locals := 22 }
theorem yd5_back : yX5_back.cls = RX5 ∧ yX5_back.cls ≠ "java/lang/invoke/MethodHandle" ∧ yX5_back.cls ≠ "java/lang/invoke/VarHandle" ∧ (parseMethodDescriptor yX5_back.desc).map (fun d => d.parameters.length) = some 1 := by decide +kernel
set_option maxHeartbeats 4000000 in
set_option maxRecDepth 100000 in
theorem ct5_back (l : Launch) (P : nw_PT) (hD : nw_D P) (σ : nw_ST) (a1 : Int32)  (K : Int32 → nw_ST → Prop) (hf : f5_back K σ a1) : nw_MT l yX5_back cX5_back 3 (some .int) rm5_back P [.ref (P.2.1 37), .int a1] σ (nw_Ki K) := by
  refine nw_enter (by decide) (by first | decide | exact Nat.le_of_ble_eq_true rfl) hD ?_
  intro X hl h he hR
  subst hl
  have h : nw_ok P X cX5_back RX5 3 := h
  show nw_G P X 3 σ [(0, .ref (P.2.1 37)), (1, .int a1)] 0 []
  have hL_99 :  ∀ (σ : nw_ST) (x2 : Int32) (y0 : Int32) (y1 : Int32), f5_back_99 K σ x2 y0 y1 → nw_G P X 3 σ [(2, .int x2)] 99 [.int y0, .int y1, .ref (P.2.1 37)] := by
    intro σ x2 y0 y1 hf
    unfold f5_back_99 at hf
    refine nw_isub (pc := 99) h dX5_back_99 ?_
    refine pf5_152 (pc := 100) h rfl dX5_back_100 ?_
    refine nw_iload_n (pc := 103) h dX5_back_103 rfl 0 rfl ?_
    refine nw_iconst (pc := 104) (v := 1) h dX5_back_104 (by decide) ?_
    refine nw_isub (pc := 105) h dX5_back_105 ?_
    exact nw_iret (pc := 106) h he dX5_back_106 ⟨_, rfl, hf⟩
  have hL_80 :  ∀ (σ : nw_ST) (x1 : Int32) (x2 : Int32) (y0 : Int32) (y1 : Int32), f5_back_80 K σ x1 x2 y0 y1 → nw_G P X 3 σ [(0, .ref (P.2.1 37)), (1, .int x1), (2, .int x2)] 80 [.int y0, .int y1, .ref (P.2.1 37)] := by
    intro σ x1 x2 y0 y1 hf
    unfold f5_back_80 at hf
    refine nw_isub (pc := 80) h dX5_back_80 ?_
    refine pf5_146 (pc := 81) h rfl dX5_back_81 ?_
    refine nw_aload_n (pc := 84) h dX5_back_84 rfl 0 rfl ?_
    refine nw_dup (pc := 85) h dX5_back_85 rfl ?_
    refine gf5_152 (pc := 86) h rfl dX5_back_86 ?_
    refine nw_iload_n (pc := 89) h dX5_back_89 rfl 1 rfl ?_
    refine nw_iconst (pc := 90) (v := 2) h dX5_back_90 (by decide) ?_
    refine nw_icmp_ne (pc := 91) (tgt := 98) h dX5_back_91 (by decide) (fun c_91 => ?_) (fun c_91 => ?_)
    · skip
      refine nw_iconst (pc := 98) (v := 0) h dX5_back_98 (by decide) ?_
      simp only [if_neg c_91] at hf
      refine nw_sub (lv' := [(2, .int x2)]) [2] rfl ?_
      exact hL_99 _ _ _ _ hf
    · skip
      refine nw_iconst (pc := 94) (v := 1) h dX5_back_94 (by decide) ?_
      refine nw_goto (pc := 95) (tgt := 99) h dX5_back_95 (by decide) ?_
      simp only [if_pos c_91] at hf
      refine nw_sub (lv' := [(2, .int x2)]) [2] rfl ?_
      exact hL_99 _ _ _ _ hf
  have hL_61 :  ∀ (σ : nw_ST) (x1 : Int32) (x2 : Int32) (y0 : Int32) (y1 : Int32), f5_back_61 K σ x1 x2 y0 y1 → nw_G P X 3 σ [(0, .ref (P.2.1 37)), (1, .int x1), (2, .int x2)] 61 [.int y0, .int y1, .ref (P.2.1 37)] := by
    intro σ x1 x2 y0 y1 hf
    unfold f5_back_61 at hf
    refine nw_isub (pc := 61) h dX5_back_61 ?_
    refine pf5_140 (pc := 62) h rfl dX5_back_62 ?_
    refine nw_aload_n (pc := 65) h dX5_back_65 rfl 0 rfl ?_
    refine nw_dup (pc := 66) h dX5_back_66 rfl ?_
    refine gf5_146 (pc := 67) h rfl dX5_back_67 ?_
    refine nw_iload_n (pc := 70) h dX5_back_70 rfl 1 rfl ?_
    refine nw_iconst (pc := 71) (v := 1) h dX5_back_71 (by decide) ?_
    refine nw_icmp_ne (pc := 72) (tgt := 79) h dX5_back_72 (by decide) (fun c_72 => ?_) (fun c_72 => ?_)
    · skip
      refine nw_iconst (pc := 79) (v := 0) h dX5_back_79 (by decide) ?_
      simp only [if_neg c_72] at hf
      exact hL_80 _ _ _ _ _ hf
    · skip
      refine nw_iconst (pc := 75) (v := 1) h dX5_back_75 (by decide) ?_
      refine nw_goto (pc := 76) (tgt := 80) h dX5_back_76 (by decide) ?_
      simp only [if_pos c_72] at hf
      exact hL_80 _ _ _ _ _ hf
  have hL_39 :  ∀ (σ : nw_ST) (x1 : Int32) (y0 : Int32), f5_back_39 K σ x1 y0 → nw_G P X 3 σ [(0, .ref (P.2.1 37)), (1, .int x1)] 39 [.int y0] := by
    intro σ x1 y0 hf
    unfold f5_back_39 at hf
    refine nw_istore_n (pc := 39) (lv' := [(2, .int y0), (0, .ref (P.2.1 37)), (1, .int x1)]) h dX5_back_39 rfl (by decide) rfl ?_
    refine nw_iload_n (pc := 40) h dX5_back_40 rfl 0 rfl ?_
    refine nw_if_ne (pc := 41) (tgt := 47) h dX5_back_41 (by decide) (fun c_41 => ?_) (fun c_41 => ?_)
    · have hf := hf.2 c_41
      refine nw_aload_n (pc := 47) h dX5_back_47 rfl 1 rfl ?_
      refine nw_dup (pc := 48) h dX5_back_48 rfl ?_
      refine gf5_140 (pc := 49) h rfl dX5_back_49 ?_
      refine nw_iload_n (pc := 52) h dX5_back_52 rfl 2 rfl ?_
      refine nw_if_ne (pc := 53) (tgt := 60) h dX5_back_53 (by decide) (fun c_53 => ?_) (fun c_53 => ?_)
      · skip
        refine nw_iconst (pc := 60) (v := 0) h dX5_back_60 (by decide) ?_
        simp only [if_neg c_53] at hf
        refine nw_sub (lv' := [(0, .ref (P.2.1 37)), (1, .int x1), (2, .int y0)]) [1, 2, 0] rfl ?_
        exact hL_61 _ _ _ _ _ hf
      · skip
        refine nw_iconst (pc := 56) (v := 1) h dX5_back_56 (by decide) ?_
        refine nw_goto (pc := 57) (tgt := 61) h dX5_back_57 (by decide) ?_
        simp only [if_pos c_53] at hf
        refine nw_sub (lv' := [(0, .ref (P.2.1 37)), (1, .int x1), (2, .int y0)]) [1, 2, 0] rfl ?_
        exact hL_61 _ _ _ _ _ hf
    · have hf := hf.1 c_41
      refine nw_bipush (pc := 44) (v := -3) h dX5_back_44 (by decide) ?_
      exact nw_iret (pc := 46) h he dX5_back_46 ⟨_, rfl, hf⟩
  unfold f5_back at hf
  refine nw_iload_n (pc := 0) h dX5_back_0 rfl 1 rfl ?_
  refine nw_iconst (pc := 1) (v := 0) h dX5_back_1 (by decide) ?_
  refine nw_iconst (pc := 2) (v := 2) h dX5_back_2 (by decide) ?_
  refine klX5_89 (pc := 3) h (by rw [hR]; decide) (Nat.le_of_ble_eq_true rfl) dX5_back_3 ?_
  refine nw_if_ne (pc := 6) (tgt := 12) h dX5_back_6 (by decide) (fun c_6 => ?_) (fun c_6 => ?_)
  · have hf := hf.2 c_6
    refine nw_iload_n (pc := 12) h dX5_back_12 rfl 1 rfl ?_
    refine nw_if_ne (pc := 13) (tgt := 23) h dX5_back_13 (by decide) (fun c_13 => ?_) (fun c_13 => ?_)
    · skip
      refine nw_iload_n (pc := 23) h dX5_back_23 rfl 1 rfl ?_
      refine nw_iconst (pc := 24) (v := 1) h dX5_back_24 (by decide) ?_
      refine nw_icmp_ne (pc := 25) (tgt := 35) h dX5_back_25 (by decide) (fun c_25 => ?_) (fun c_25 => ?_)
      · skip
        refine nw_aload_n (pc := 35) h dX5_back_35 rfl 0 rfl ?_
        refine gf5_152 (pc := 36) h rfl dX5_back_36 ?_
        simp only [if_neg c_13, if_neg c_25] at hf
        exact hL_39 _ _ _ hf
      · skip
        refine nw_aload_n (pc := 28) h dX5_back_28 rfl 0 rfl ?_
        refine gf5_146 (pc := 29) h rfl dX5_back_29 ?_
        refine nw_goto (pc := 32) (tgt := 39) h dX5_back_32 (by decide) ?_
        simp only [if_neg c_13, if_pos c_25] at hf
        exact hL_39 _ _ _ hf
    · skip
      refine nw_aload_n (pc := 16) h dX5_back_16 rfl 0 rfl ?_
      refine gf5_140 (pc := 17) h rfl dX5_back_17 ?_
      refine nw_goto (pc := 20) (tgt := 39) h dX5_back_20 (by decide) ?_
      simp only [if_pos c_13] at hf
      exact hL_39 _ _ _ hf
  · have hf := hf.1 c_6
    refine nw_bipush (pc := 9) (v := -2) h dX5_back_9 (by decide) ?_
    exact nw_iret (pc := 11) h he dX5_back_11 ⟨_, rfl, hf⟩
def v5_isSheet (a1 : Int32) : Int32 := (v5_in a1 (0 : Int32) (3 : Int32))
theorem z5_isSheet (a1 : Int32) : nw_isZ (v5_isSheet a1) := by
  unfold v5_isSheet; repeat' split
  all_goals first | exact (z5_in a1 (0 : Int32) (3 : Int32))
def rm5_isSheet : Room := { frames := 1, cells := 0, slots := 0, locals := 22 }
theorem yd5_isSheet : yX5_isSheet.cls = RX5 ∧ yX5_isSheet.cls ≠ "java/lang/invoke/MethodHandle" ∧ yX5_isSheet.cls ≠ "java/lang/invoke/VarHandle" ∧ (parseMethodDescriptor yX5_isSheet.desc).map (fun d => d.parameters.length) = some 1 := by decide +kernel
set_option maxHeartbeats 4000000 in
set_option maxRecDepth 100000 in
theorem ct5_isSheet (l : Launch) (P : nw_PT) (hD : nw_D P) (σ : nw_ST) (a1 : Int32)   : nw_MT l yX5_isSheet cX5_isSheet 1 (some .boolean) rm5_isSheet P [.int a1] σ (nw_Ki (fun r s2 => r = (v5_isSheet a1) ∧ s2 = σ)) := by
  refine nw_enter (by decide) (by first | decide | exact Nat.le_of_ble_eq_true rfl) hD ?_
  intro X hl h he hR
  subst hl
  have h : nw_ok P X cX5_isSheet RX5 1 := h
  show nw_G P X 1 σ [(0, .int a1)] 0 []
  refine nw_iload_n (pc := 0) h dX5_isSheet_0 rfl 0 rfl ?_
  refine nw_iconst (pc := 1) (v := 0) h dX5_isSheet_1 (by decide) ?_
  refine nw_iconst (pc := 2) (v := 3) h dX5_isSheet_2 (by decide) ?_
  refine klX5_89 (pc := 3) h (by rw [hR]; decide) (Nat.le_of_ble_eq_true rfl) dX5_isSheet_3 ?_
  exact nw_zret (pc := 6) h he dX5_isSheet_6 (z5_in a1 (0 : Int32) (3 : Int32)) ⟨_, rfl, rfl, rfl⟩
theorem pf5_286 {P : nw_PT} {X : nw_EX} {cc : ByteArray} {nL : Nat} {σ : nw_ST} {lv : List (Nat × Value)} {pc : Nat} {st : List Value} {q : Nat} (h : nw_ok P X cc RX5 nL) (hq : nw_cl q = 5) {v : Int32} (hd : decode cc pc = .ok (.putfield 286, 3)) (k : nw_G P X nL (nw_sS σ q 37 v) lv (pc + 3) st) : nw_G P X nL σ lv pc (.int v :: .ref (P.2.1 q) :: st) := by
  intro H locs ls h1 h2 h3
  exact va_put (D := P.1) (ci := 5) (ty := .int) (C := RX5) (T := TX5) (N := 38) h.1.1 h.1.2.1 h.1.2.2.2.2 in_T5 tyX5 tyX5_ok nmX5 h.1.2.2.2.1 h.2.1.1 h1 (h.2.2 σ) h2 q (nw_at5 hq) rfl 37 (by decide) (h.1.2.2.2.2 _ nw_w412) (fun _ z => z) rfl (by decide +kernel) rfl rfl (by show 37 < 38; decide) hd (fun H1 locs1 g1 _ g2 => k H1 locs1 ls (by rw [nw_set5_37 hq] at g1; exact g1) g2 h3)
def f5_meets (K : Int32 → nw_ST → Prop) (σ : nw_ST) (a1 : Int32) : Prop := (K ((-10 : Int32) - a1) (nw_sS σ 37 37 a1))
def rm5_meets : Room := { frames := 0, cells := 0, slots := 0, locals := 0 }
theorem yd5_meets : yX5_meets.cls = RX5 ∧ yX5_meets.cls ≠ "java/lang/invoke/MethodHandle" ∧ yX5_meets.cls ≠ "java/lang/invoke/VarHandle" ∧ (parseMethodDescriptor yX5_meets.desc).map (fun d => d.parameters.length) = some 1 := by decide +kernel
set_option maxHeartbeats 4000000 in
set_option maxRecDepth 100000 in
theorem ct5_meets (l : Launch) (P : nw_PT) (hD : nw_D P) (σ : nw_ST) (a1 : Int32)  (K : Int32 → nw_ST → Prop) (hf : f5_meets K σ a1) : nw_MT l yX5_meets cX5_meets 2 (some .int) rm5_meets P [.ref (P.2.1 37), .int a1] σ (nw_Ki K) := by
  refine nw_enter (by decide) (by first | decide | exact Nat.le_of_ble_eq_true rfl) hD ?_
  intro X hl h he hR
  subst hl
  have h : nw_ok P X cX5_meets RX5 2 := h
  show nw_G P X 2 σ [(0, .ref (P.2.1 37)), (1, .int a1)] 0 []
  unfold f5_meets at hf
  refine nw_aload_n (pc := 0) h dX5_meets_0 rfl 0 rfl ?_
  refine nw_iload_n (pc := 1) h dX5_meets_1 rfl 1 rfl ?_
  refine pf5_286 (pc := 2) h rfl dX5_meets_2 ?_
  refine nw_bipush (pc := 5) (v := -10) h dX5_meets_5 (by decide) ?_
  refine nw_iload_n (pc := 7) h dX5_meets_7 rfl 1 rfl ?_
  refine nw_isub (pc := 8) h dX5_meets_8 ?_
  exact nw_iret (pc := 9) h he dX5_meets_9 ⟨_, rfl, hf⟩
theorem klX5_155 {P : nw_PT} {X : nw_EX} {cc : ByteArray} {nL : Nat} {σ : nw_ST} {lv : List (Nat × Value)} {pc : Nat} {rest : List Value} {a1 : Int32} (h : nw_ok P X cc RX5 nL) (hR : rm5_isSheet.frames + 1 ≤ X.2.2.2.1.frames ∧ 8 + (1 + 11) + rm5_isSheet.locals ≤ X.2.2.2.1.locals)  (hst : (rest.map fun v => v.category).sum ≤ 8) (hd : decode cc pc = .ok (.invokestatic 155, 3)) (k : nw_G P X nL σ lv (pc + 3) (.int (v5_isSheet a1) :: rest)) : nw_G P X nL σ lv pc (.int a1 :: rest) :=
  nw_callS (As := [.int a1]) (rest := rest) h (ct5_isSheet _ P h.2.2 σ a1) (nw_goodS nw_w413 nw_w414 nw_w342 nw_w415) yd5_isSheet.2 rfl hR ⟨rfl, rfl⟩ hst rfl hd (fun v s2 z => by obtain ⟨r, rfl, rfl, rfl⟩ := z; exact k)
theorem gf5_72 {P : nw_PT} {X : nw_EX} {cc : ByteArray} {nL : Nat} {σ : nw_ST} {lv : List (Nat × Value)} {pc : Nat} {st : List Value} {q : Nat} (h : nw_ok P X cc RX5 nL) (hq : nw_cl q = 5) {r : Nat} (hr : nw_rf q 32 = r) (hd : decode cc pc = .ok (.getfield 72, 3)) (k : nw_G P X nL σ lv (pc + 3) (.ref (P.2.1 r) :: st)) : nw_G P X nL σ lv pc (.ref (P.2.1 q) :: st) := by
  subst hr; intro H locs ls h1 h2 h3
  exact va_get (D := P.1) (ci := 5) (C := RX5) (T := TX5) (N := 38) h.1.1 h.1.2.1 h.1.2.2.2.2 in_T5 h.1.2.2.2.1 h.2.1.1 h1 q (nw_at5 hq) rfl 32 (by decide) (h.1.2.2.2.2 _ nw_w416) (fun _ z => z) rfl hd (k H locs ls h1 h2 h3)
theorem gf5_78 {P : nw_PT} {X : nw_EX} {cc : ByteArray} {nL : Nat} {σ : nw_ST} {lv : List (Nat × Value)} {pc : Nat} {st : List Value} {q : Nat} (h : nw_ok P X cc RX5 nL) (hq : nw_cl q = 5) {r : Nat} (hr : nw_rf q 34 = r) (hd : decode cc pc = .ok (.getfield 78, 3)) (k : nw_G P X nL σ lv (pc + 3) (.ref (P.2.1 r) :: st)) : nw_G P X nL σ lv pc (.ref (P.2.1 q) :: st) := by
  subst hr; intro H locs ls h1 h2 h3
  exact va_get (D := P.1) (ci := 5) (C := RX5) (T := TX5) (N := 38) h.1.1 h.1.2.1 h.1.2.2.2.2 in_T5 h.1.2.2.2.1 h.2.1.1 h1 q (nw_at5 hq) rfl 34 (by decide) (h.1.2.2.2.2 _ nw_w417) (fun _ z => z) rfl hd (k H locs ls h1 h2 h3)
theorem gf5_81 {P : nw_PT} {X : nw_EX} {cc : ByteArray} {nL : Nat} {σ : nw_ST} {lv : List (Nat × Value)} {pc : Nat} {st : List Value} {q : Nat} (h : nw_ok P X cc RX5 nL) (hq : nw_cl q = 5) {r : Nat} (hr : nw_rf q 35 = r) (hd : decode cc pc = .ok (.getfield 81, 3)) (k : nw_G P X nL σ lv (pc + 3) (.ref (P.2.1 r) :: st)) : nw_G P X nL σ lv pc (.ref (P.2.1 q) :: st) := by
  subst hr; intro H locs ls h1 h2 h3
  exact va_get (D := P.1) (ci := 5) (C := RX5) (T := TX5) (N := 38) h.1.1 h.1.2.1 h.1.2.2.2.2 in_T5 h.1.2.2.2.1 h.2.1.1 h1 q (nw_at5 hq) rfl 35 (by decide) (h.1.2.2.2.2 _ nw_w418) (fun _ z => z) rfl hd (k H locs ls h1 h2 h3)
theorem klX5_161 {P : nw_PT} {X : nw_EX} {cc : ByteArray} {nL : Nat} {σ : nw_ST} {lv : List (Nat × Value)} {pc : Nat} {rest : List Value} {a1 : Int32} {a2 : Int32} (h : nw_ok P X cc RX5 nL) (hR : rm5_ticket.frames + 1 ≤ X.2.2.2.1.frames ∧ 8 + (3 + 11) + rm5_ticket.locals ≤ X.2.2.2.1.locals)  {K : Int32 → nw_ST → Prop} (hf : f5_ticket K σ a1 a2) (hst : (rest.map fun v => v.category).sum ≤ 8) (hd : decode cc pc = .ok (.invokevirtual 161, 3)) (k : ∀ (r : Int32) (s2 : nw_ST), K r s2 → nw_G P X nL s2 lv (pc + 3) (.int r :: rest)) : nw_G P X nL σ lv pc (.int a2 :: .int a1 :: .ref (P.2.1 37) :: rest) :=
  nw_callV (As := [.int a1, .int a2]) (rest := rest) (C := RX5) (ci := 5) h (ct5_ticket _ P h.2.2 σ a1 a2 K hf) (nw_goodV nw_w419 nw_w420 nw_w421 nw_w342 nw_w422) yd5_ticket rfl hR ⟨rfl, rfl⟩ rfl (by decide) rfl rfl hst rfl hd (fun v s2 z => by obtain ⟨r, rfl, z⟩ := z; exact k r s2 z)
theorem klX5_158 {P : nw_PT} {X : nw_EX} {cc : ByteArray} {nL : Nat} {σ : nw_ST} {lv : List (Nat × Value)} {pc : Nat} {rest : List Value} {a1 : Int32} (h : nw_ok P X cc RX5 nL) (hR : rm5_meets.frames + 1 ≤ X.2.2.2.1.frames ∧ 8 + (2 + 11) + rm5_meets.locals ≤ X.2.2.2.1.locals)  {K : Int32 → nw_ST → Prop} (hf : f5_meets K σ a1) (hst : (rest.map fun v => v.category).sum ≤ 8) (hd : decode cc pc = .ok (.invokevirtual 158, 3)) (k : ∀ (r : Int32) (s2 : nw_ST), K r s2 → nw_G P X nL s2 lv (pc + 3) (.int r :: rest)) : nw_G P X nL σ lv pc (.int a1 :: .ref (P.2.1 37) :: rest) :=
  nw_callV (As := [.int a1]) (rest := rest) (C := RX5) (ci := 5) h (ct5_meets _ P h.2.2 σ a1 K hf) (nw_goodV nw_w423 nw_w424 nw_w425 nw_w342 nw_w426) yd5_meets rfl hR ⟨rfl, rfl⟩ rfl (by decide) rfl rfl hst rfl hd (fun v s2 z => by obtain ⟨r, rfl, z⟩ := z; exact k r s2 z)
def f5_read_82 (K : Int32 → nw_ST → Prop) (σ : nw_ST) (x2 : Int32) : Prop := (K x2 σ)
def b5_read_27 (K : Int32 → nw_ST → Prop) (H_27 : nw_ST → Int32 → Int32 → Prop) (σ : nw_ST) (x1 : Int32) (x2 : Int32) : Prop := ((vp_in x1 4) ∧ ((((nw_gA σ 60 x1.toNatClampNeg) ≤ (((2 : Int32) * x2) + (1 : Int32))) → (f5_read_82 K σ x2)) ∧ (¬ ((nw_gA σ 60 x1.toNatClampNeg) ≤ (((2 : Int32) * x2) + (1 : Int32))) → ((vp_in (((48 : Int32) * x1) + ((2 : Int32) * x2)) 192) ∧ ((vp_in ((((48 : Int32) * x1) + ((2 : Int32) * x2)) + (1 : Int32)) 192) ∧ (f5_ticket (fun (r_70 : Int32) (s_70 : nw_ST) => (((r_70 ≤ 0) → (f5_read_82 K s_70 x2)) ∧ (¬ (r_70 ≤ 0) → (H_27 s_70 x1 (x2 + (1 : Int32)))))) σ (nw_gA σ 61 (((48 : Int32) * x1) + ((2 : Int32) * x2)).toNatClampNeg) (nw_gA σ 61 ((((48 : Int32) * x1) + ((2 : Int32) * x2)) + (1 : Int32)).toNatClampNeg)))))))
def f5_read_27 (K : Int32 → nw_ST → Prop) : Nat → nw_ST → Int32 → Int32 → Prop
  | 0 => fun _ _ _ => False
  | n + 1 => b5_read_27 K (f5_read_27 K n)
def f5_read (K : Int32 → nw_ST → Prop) (σ : nw_ST) (a1 : Int32) : Prop := ((((v5_isSheet a1) = 0) → (K (-2 : Int32) σ)) ∧ (¬ ((v5_isSheet a1) = 0) → ((vp_in a1 4) ∧ ((((nw_gA σ 58 a1.toNatClampNeg) = 0) → (f5_meets (fun (r_21 : Int32) (s_21 : nw_ST) => (K r_21 s_21)) σ (1 : Int32))) ∧ (¬ ((nw_gA σ 58 a1.toNatClampNeg) = 0) → (∃ n, f5_read_27 K n σ a1 (0 : Int32)))))))
def rm5_read : Room := { frames := 3, cells := 0, slots := 0, locals := 64 }
theorem yd5_read : yX5_read.cls = RX5 ∧ yX5_read.cls ≠ "java/lang/invoke/MethodHandle" ∧ yX5_read.cls ≠ "java/lang/invoke/VarHandle" ∧ (parseMethodDescriptor yX5_read.desc).map (fun d => d.parameters.length) = some 1 := by decide +kernel
set_option maxHeartbeats 4000000 in
set_option maxRecDepth 100000 in
theorem ct5_read (l : Launch) (P : nw_PT) (hD : nw_D P) (σ : nw_ST) (a1 : Int32)  (K : Int32 → nw_ST → Prop) (hf : f5_read K σ a1) : nw_MT l yX5_read cX5_read 3 (some .int) rm5_read P [.ref (P.2.1 37), .int a1] σ (nw_Ki K) := by
  refine nw_enter (by decide) (by first | decide | exact Nat.le_of_ble_eq_true rfl) hD ?_
  intro X hl h he hR
  subst hl
  have h : nw_ok P X cX5_read RX5 3 := h
  show nw_G P X 3 σ [(0, .ref (P.2.1 37)), (1, .int a1)] 0 []
  have hL_82 :  ∀ (σ : nw_ST) (x2 : Int32), f5_read_82 K σ x2 → nw_G P X 3 σ [(2, .int x2)] 82 [] := by
    intro σ x2 hf
    unfold f5_read_82 at hf
    refine nw_iload_n (pc := 82) h dX5_read_82 rfl 0 rfl ?_
    exact nw_iret (pc := 83) h he dX5_read_83 ⟨_, rfl, hf⟩
  have hB_27 : ∀ (H_27 : nw_ST → Int32 → Int32 → Prop) (hH_27 : (∀ (σ : nw_ST) (x1 : Int32) (x2 : Int32), H_27 σ x1 x2 → nw_G P X 3 σ [(0, .ref (P.2.1 37)), (1, .int x1), (2, .int x2)] 27 [])), ∀ (σ : nw_ST) (x1 : Int32) (x2 : Int32), b5_read_27 K H_27 σ x1 x2 → nw_G P X 3 σ [(0, .ref (P.2.1 37)), (1, .int x1), (2, .int x2)] 27 [] := by
    intro H_27 hH_27 σ x1 x2 hf
    unfold b5_read_27 at hf
    refine nw_iconst (pc := 27) (v := 2) h dX5_read_27 (by decide) ?_
    refine nw_iload_n (pc := 28) h dX5_read_28 rfl 2 rfl ?_
    refine nw_imul (pc := 29) h dX5_read_29 ?_
    refine nw_iconst (pc := 30) (v := 1) h dX5_read_30 (by decide) ?_
    refine nw_iadd (pc := 31) h dX5_read_31 ?_
    refine nw_aload_n (pc := 32) h dX5_read_32 rfl 0 rfl ?_
    refine gf5_78 (pc := 33) (r := 60) h rfl rfl dX5_read_33 ?_
    refine nw_iload_n (pc := 36) h dX5_read_36 rfl 1 rfl ?_
    obtain ⟨h_37, hf⟩ := hf
    refine nw_iald (pc := 37) (n := 4) h rfl rfl h_37 dX5_read_37 ?_
    refine nw_icmp_ge (pc := 38) (tgt := 82) h dX5_read_38 (by decide) (fun c_38 => ?_) (fun c_38 => ?_)
    · have hf := hf.1 c_38
      refine nw_sub (lv' := [(2, .int x2)]) [2] rfl ?_
      exact hL_82 _ _ (hf)
    · have hf := hf.2 c_38
      refine nw_aload_n (pc := 41) h dX5_read_41 rfl 0 rfl ?_
      refine nw_aload_n (pc := 42) h dX5_read_42 rfl 0 rfl ?_
      refine gf5_81 (pc := 43) (r := 61) h rfl rfl dX5_read_43 ?_
      refine nw_bipush (pc := 46) (v := 48) h dX5_read_46 (by decide) ?_
      refine nw_iload_n (pc := 48) h dX5_read_48 rfl 1 rfl ?_
      refine nw_imul (pc := 49) h dX5_read_49 ?_
      refine nw_iconst (pc := 50) (v := 2) h dX5_read_50 (by decide) ?_
      refine nw_iload_n (pc := 51) h dX5_read_51 rfl 2 rfl ?_
      refine nw_imul (pc := 52) h dX5_read_52 ?_
      refine nw_iadd (pc := 53) h dX5_read_53 ?_
      obtain ⟨h_54, hf⟩ := hf
      refine nw_iald (pc := 54) (n := 192) h rfl rfl h_54 dX5_read_54 ?_
      refine nw_aload_n (pc := 55) h dX5_read_55 rfl 0 rfl ?_
      refine gf5_81 (pc := 56) (r := 61) h rfl rfl dX5_read_56 ?_
      refine nw_bipush (pc := 59) (v := 48) h dX5_read_59 (by decide) ?_
      refine nw_iload_n (pc := 61) h dX5_read_61 rfl 1 rfl ?_
      refine nw_imul (pc := 62) h dX5_read_62 ?_
      refine nw_iconst (pc := 63) (v := 2) h dX5_read_63 (by decide) ?_
      refine nw_iload_n (pc := 64) h dX5_read_64 rfl 2 rfl ?_
      refine nw_imul (pc := 65) h dX5_read_65 ?_
      refine nw_iadd (pc := 66) h dX5_read_66 ?_
      refine nw_iconst (pc := 67) (v := 1) h dX5_read_67 (by decide) ?_
      refine nw_iadd (pc := 68) h dX5_read_68 ?_
      obtain ⟨h_69, hf⟩ := hf
      refine nw_iald (pc := 69) (n := 192) h rfl rfl h_69 dX5_read_69 ?_
      refine klX5_161 (pc := 70) h (by rw [hR]; decide) hf (Nat.le_of_ble_eq_true rfl) dX5_read_70 (fun r_70 s_70 hf => ?_)
      refine nw_if_le (pc := 73) (tgt := 82) h dX5_read_73 (by decide) (fun c_73 => ?_) (fun c_73 => ?_)
      · have hf := hf.1 c_73
        refine nw_sub (lv' := [(2, .int x2)]) [2] rfl ?_
        exact hL_82 _ _ (hf)
      · have hf := hf.2 c_73
        refine nw_iinc (pc := 76) (v := (x2 + (1 : Int32))) (lv' := [(2, .int (x2 + (1 : Int32))), (0, .ref (P.2.1 37)), (1, .int x1)]) h dX5_read_76 (j := 2) rfl rfl (by decide) rfl ?_
        refine nw_goto (pc := 79) (tgt := 27) h dX5_read_79 (by decide) ?_
        refine nw_sub (lv' := [(0, .ref (P.2.1 37)), (1, .int x1), (2, .int (x2 + (1 : Int32)))]) [1, 2, 0] rfl ?_
        exact hH_27 _ _ _ (hf)
  have hL_27 :  ∀ (n : Nat) (σ : nw_ST) (x1 : Int32) (x2 : Int32), f5_read_27 K n σ x1 x2 → nw_G P X 3 σ [(0, .ref (P.2.1 37)), (1, .int x1), (2, .int x2)] 27 [] := by
    intro n
    induction n with
    | zero => intro σ x1 x2 hf; exact False.elim hf
    | succ n ih => exact hB_27 _ ih
  unfold f5_read at hf
  refine nw_iload_n (pc := 0) h dX5_read_0 rfl 1 rfl ?_
  refine klX5_155 (pc := 1) h (by rw [hR]; decide) (Nat.le_of_ble_eq_true rfl) dX5_read_1 ?_
  refine nw_if_ne (pc := 4) (tgt := 10) h dX5_read_4 (by decide) (fun c_4 => ?_) (fun c_4 => ?_)
  · have hf := hf.2 c_4
    refine nw_aload_n (pc := 10) h dX5_read_10 rfl 0 rfl ?_
    refine gf5_72 (pc := 11) (r := 58) h rfl rfl dX5_read_11 ?_
    refine nw_iload_n (pc := 14) h dX5_read_14 rfl 1 rfl ?_
    obtain ⟨h_15, hf⟩ := hf
    refine nw_zald (pc := 15) (n := 4) h rfl rfl h_15 dX5_read_15 ?_
    refine nw_if_ne (pc := 16) (tgt := 25) h dX5_read_16 (by decide) (fun c_16 => ?_) (fun c_16 => ?_)
    · have hf := hf.2 c_16
      refine nw_iconst (pc := 25) (v := 0) h dX5_read_25 (by decide) ?_
      refine nw_istore_n (pc := 26) (lv' := [(2, .int (0 : Int32)), (0, .ref (P.2.1 37)), (1, .int a1)]) h dX5_read_26 rfl (by decide) rfl ?_
      obtain ⟨n_27, hf⟩ := hf
      refine nw_sub (lv' := [(0, .ref (P.2.1 37)), (1, .int a1), (2, .int (0 : Int32))]) [1, 2, 0] rfl ?_
      exact hL_27 n_27 _ _ _ hf
    · have hf := hf.1 c_16
      refine nw_aload_n (pc := 19) h dX5_read_19 rfl 0 rfl ?_
      refine nw_iconst (pc := 20) (v := 1) h dX5_read_20 (by decide) ?_
      refine klX5_158 (pc := 21) h (by rw [hR]; decide) hf (Nat.le_of_ble_eq_true rfl) dX5_read_21 (fun r_21 s_21 hf => ?_)
      exact nw_iret (pc := 24) h he dX5_read_24 ⟨_, rfl, hf⟩
  · have hf := hf.1 c_4
    refine nw_bipush (pc := 7) (v := -2) h dX5_read_7 (by decide) ?_
    exact nw_iret (pc := 9) h he dX5_read_9 ⟨_, rfl, hf⟩
theorem pf5_164 {P : nw_PT} {X : nw_EX} {cc : ByteArray} {nL : Nat} {σ : nw_ST} {lv : List (Nat × Value)} {pc : Nat} {st : List Value} {q : Nat} (h : nw_ok P X cc RX5 nL) (hq : nw_cl q = 5) {v : Int32} (hd : decode cc pc = .ok (.putfield 164, 3)) (k : nw_G P X nL (nw_sS σ q 22 v) lv (pc + 3) st) : nw_G P X nL σ lv pc (.int v :: .ref (P.2.1 q) :: st) := by
  intro H locs ls h1 h2 h3
  exact va_put (D := P.1) (ci := 5) (ty := .int) (C := RX5) (T := TX5) (N := 38) h.1.1 h.1.2.1 h.1.2.2.2.2 in_T5 tyX5 tyX5_ok nmX5 h.1.2.2.2.1 h.2.1.1 h1 (h.2.2 σ) h2 q (nw_at5 hq) rfl 22 (by decide) (h.1.2.2.2.2 _ nw_w427) (fun _ z => z) rfl (by decide +kernel) rfl rfl (by show 22 < 38; decide) hd (fun H1 locs1 g1 _ g2 => k H1 locs1 ls (by rw [nw_set5_22 hq] at g1; exact g1) g2 h3)
theorem pf5_167 {P : nw_PT} {X : nw_EX} {cc : ByteArray} {nL : Nat} {σ : nw_ST} {lv : List (Nat × Value)} {pc : Nat} {st : List Value} {q : Nat} (h : nw_ok P X cc RX5 nL) (hq : nw_cl q = 5) {v : Int32} (hd : decode cc pc = .ok (.putfield 167, 3)) (k : nw_G P X nL (nw_sS σ q 23 v) lv (pc + 3) st) : nw_G P X nL σ lv pc (.int v :: .ref (P.2.1 q) :: st) := by
  intro H locs ls h1 h2 h3
  exact va_put (D := P.1) (ci := 5) (ty := .int) (C := RX5) (T := TX5) (N := 38) h.1.1 h.1.2.1 h.1.2.2.2.2 in_T5 tyX5 tyX5_ok nmX5 h.1.2.2.2.1 h.2.1.1 h1 (h.2.2 σ) h2 q (nw_at5 hq) rfl 23 (by decide) (h.1.2.2.2.2 _ nw_w428) (fun _ z => z) rfl (by decide +kernel) rfl rfl (by show 23 < 38; decide) hd (fun H1 locs1 g1 _ g2 => k H1 locs1 ls (by rw [nw_set5_23 hq] at g1; exact g1) g2 h3)
theorem pf5_170 {P : nw_PT} {X : nw_EX} {cc : ByteArray} {nL : Nat} {σ : nw_ST} {lv : List (Nat × Value)} {pc : Nat} {st : List Value} {q : Nat} (h : nw_ok P X cc RX5 nL) (hq : nw_cl q = 5) {v : Int32} (hd : decode cc pc = .ok (.putfield 170, 3)) (k : nw_G P X nL (nw_sS σ q 24 v) lv (pc + 3) st) : nw_G P X nL σ lv pc (.int v :: .ref (P.2.1 q) :: st) := by
  intro H locs ls h1 h2 h3
  exact va_put (D := P.1) (ci := 5) (ty := .int) (C := RX5) (T := TX5) (N := 38) h.1.1 h.1.2.1 h.1.2.2.2.2 in_T5 tyX5 tyX5_ok nmX5 h.1.2.2.2.1 h.2.1.1 h1 (h.2.2 σ) h2 q (nw_at5 hq) rfl 24 (by decide) (h.1.2.2.2.2 _ nw_w429) (fun _ z => z) rfl (by decide +kernel) rfl rfl (by show 24 < 38; decide) hd (fun H1 locs1 g1 _ g2 => k H1 locs1 ls (by rw [nw_set5_24 hq] at g1; exact g1) g2 h3)
def f5_asTold (K : nw_ST → Prop) (σ : nw_ST)  : Prop := (K (nw_sS (nw_sS (nw_sS σ 37 22 (nw_gS σ 37 11)) 37 23 (nw_gS (nw_sS σ 37 22 (nw_gS σ 37 11)) 37 14)) 37 24 (nw_gS (nw_sS (nw_sS σ 37 22 (nw_gS σ 37 11)) 37 23 (nw_gS (nw_sS σ 37 22 (nw_gS σ 37 11)) 37 14)) 37 16)))
def rm5_asTold : Room := { frames := 0, cells := 0, slots := 0, locals := 0 }
theorem yd5_asTold : yX5_asTold.cls = RX5 ∧ yX5_asTold.cls ≠ "java/lang/invoke/MethodHandle" ∧ yX5_asTold.cls ≠ "java/lang/invoke/VarHandle" ∧ (parseMethodDescriptor yX5_asTold.desc).map (fun d => d.parameters.length) = some 0 := by decide +kernel
set_option maxHeartbeats 4000000 in
set_option maxRecDepth 100000 in
theorem ct5_asTold (l : Launch) (P : nw_PT) (hD : nw_D P) (σ : nw_ST)   (K : nw_ST → Prop) (hf : f5_asTold K σ ) : nw_MT l yX5_asTold cX5_asTold 1 none rm5_asTold P [.ref (P.2.1 37)] σ (nw_Kv K) := by
  refine nw_enter (by decide) (by first | decide | exact Nat.le_of_ble_eq_true rfl) hD ?_
  intro X hl h he hR
  subst hl
  have h : nw_ok P X cX5_asTold RX5 1 := h
  show nw_G P X 1 σ [(0, .ref (P.2.1 37))] 0 []
  unfold f5_asTold at hf
  refine nw_aload_n (pc := 0) h dX5_asTold_0 rfl 0 rfl ?_
  refine nw_aload_n (pc := 1) h dX5_asTold_1 rfl 0 rfl ?_
  refine gf5_140 (pc := 2) h rfl dX5_asTold_2 ?_
  refine pf5_164 (pc := 5) h rfl dX5_asTold_5 ?_
  refine nw_aload_n (pc := 8) h dX5_asTold_8 rfl 0 rfl ?_
  refine nw_aload_n (pc := 9) h dX5_asTold_9 rfl 0 rfl ?_
  refine gf5_146 (pc := 10) h rfl dX5_asTold_10 ?_
  refine pf5_167 (pc := 13) h rfl dX5_asTold_13 ?_
  refine nw_aload_n (pc := 16) h dX5_asTold_16 rfl 0 rfl ?_
  refine nw_aload_n (pc := 17) h dX5_asTold_17 rfl 0 rfl ?_
  refine gf5_152 (pc := 18) h rfl dX5_asTold_18 ?_
  refine pf5_170 (pc := 21) h rfl dX5_asTold_21 ?_
  exact nw_vret (pc := 24) h he dX5_asTold_24 ⟨rfl, hf⟩
theorem gf5_167 {P : nw_PT} {X : nw_EX} {cc : ByteArray} {nL : Nat} {σ : nw_ST} {lv : List (Nat × Value)} {pc : Nat} {st : List Value} {q : Nat} (h : nw_ok P X cc RX5 nL) (hq : nw_cl q = 5) (hd : decode cc pc = .ok (.getfield 167, 3)) (k : nw_G P X nL σ lv (pc + 3) (.int (nw_gS σ q 23) :: st)) : nw_G P X nL σ lv pc (.ref (P.2.1 q) :: st) := by
  intro H locs ls h1 h2 h3
  exact va_get (D := P.1) (ci := 5) (C := RX5) (T := TX5) (N := 38) h.1.1 h.1.2.1 h.1.2.2.2.2 in_T5 h.1.2.2.2.1 h.2.1.1 h1 q (nw_at5 hq) rfl 23 (by decide) (h.1.2.2.2.2 _ nw_w428) (fun _ z => z) rfl hd (k H locs ls h1 h2 h3)
def f5_isWake_31 (K : Int32 → nw_ST → Prop) (H_4 : nw_ST → Int32 → Int32 → Int32 → Prop) (σ : nw_ST) (x1 : Int32) (x3 : Int32) (y0 : Int32) : Prop := (H_4 σ x1 y0 (x3 + (1 : Int32)))
def b5_isWake_4 (K : Int32 → nw_ST → Prop) (H_4 : nw_ST → Int32 → Int32 → Int32 → Prop) (σ : nw_ST) (x1 : Int32) (x2 : Int32) (x3 : Int32) : Prop := ((((nw_gS σ 37 23) ≤ x3) → ((nw_isZ x2) ∧ (K x2 σ))) ∧ (¬ ((nw_gS σ 37 23) ≤ x3) → ((((x2 = 0) → (vp_in x3 9)) ∧ (¬ (x2 = 0) → True)) ∧ (f5_isWake_31 K H_4 σ x1 x3 (if (x2 = 0) then (if ((nw_gA σ 48 x3.toNatClampNeg) = x1) then (1 : Int32) else (0 : Int32)) else (1 : Int32))))))
def f5_isWake_4 (K : Int32 → nw_ST → Prop) : Nat → nw_ST → Int32 → Int32 → Int32 → Prop
  | 0 => fun _ _ _ _ => False
  | n + 1 => b5_isWake_4 K (f5_isWake_4 K n)
def f5_isWake (K : Int32 → nw_ST → Prop) (σ : nw_ST) (a1 : Int32) : Prop := (∃ n, f5_isWake_4 K n σ a1 (0 : Int32) (0 : Int32))
def rm5_isWake : Room := { frames := 0, cells := 0, slots := 0, locals := 0 }
theorem yd5_isWake : yX5_isWake.cls = RX5 ∧ yX5_isWake.cls ≠ "java/lang/invoke/MethodHandle" ∧ yX5_isWake.cls ≠ "java/lang/invoke/VarHandle" ∧ (parseMethodDescriptor yX5_isWake.desc).map (fun d => d.parameters.length) = some 1 := by decide +kernel
set_option maxHeartbeats 4000000 in
set_option maxRecDepth 100000 in
theorem ct5_isWake (l : Launch) (P : nw_PT) (hD : nw_D P) (σ : nw_ST) (a1 : Int32)  (K : Int32 → nw_ST → Prop) (hf : f5_isWake K σ a1) : nw_MT l yX5_isWake cX5_isWake 4 (some .boolean) rm5_isWake P [.ref (P.2.1 37), .int a1] σ (nw_Ki K) := by
  refine nw_enter (by decide) (by first | decide | exact Nat.le_of_ble_eq_true rfl) hD ?_
  intro X hl h he hR
  subst hl
  have h : nw_ok P X cX5_isWake RX5 4 := h
  show nw_G P X 4 σ [(0, .ref (P.2.1 37)), (1, .int a1)] 0 []
  have hL_31 : ∀ (H_4 : nw_ST → Int32 → Int32 → Int32 → Prop) (hH_4 : (∀ (σ : nw_ST) (x1 : Int32) (x2 : Int32) (x3 : Int32), H_4 σ x1 x2 x3 → nw_G P X 4 σ [(0, .ref (P.2.1 37)), (1, .int x1), (2, .int x2), (3, .int x3)] 4 [])), ∀ (σ : nw_ST) (x1 : Int32) (x3 : Int32) (y0 : Int32), f5_isWake_31 K H_4 σ x1 x3 y0 → nw_G P X 4 σ [(0, .ref (P.2.1 37)), (1, .int x1), (3, .int x3)] 31 [.int y0] := by
    intro H_4 hH_4 σ x1 x3 y0 hf
    unfold f5_isWake_31 at hf
    refine nw_istore_n (pc := 31) (lv' := [(2, .int y0), (0, .ref (P.2.1 37)), (1, .int x1), (3, .int x3)]) h dX5_isWake_31 rfl (by decide) rfl ?_
    refine nw_iinc (pc := 32) (v := (x3 + (1 : Int32))) (lv' := [(3, .int (x3 + (1 : Int32))), (2, .int y0), (0, .ref (P.2.1 37)), (1, .int x1)]) h dX5_isWake_32 (j := 3) rfl rfl (by decide) rfl ?_
    refine nw_goto (pc := 35) (tgt := 4) h dX5_isWake_35 (by decide) ?_
    refine nw_sub (lv' := [(0, .ref (P.2.1 37)), (1, .int x1), (2, .int y0), (3, .int (x3 + (1 : Int32)))]) [2, 3, 1, 0] rfl ?_
    exact hH_4 _ _ _ _ (hf)
  have hB_4 : ∀ (H_4 : nw_ST → Int32 → Int32 → Int32 → Prop) (hH_4 : (∀ (σ : nw_ST) (x1 : Int32) (x2 : Int32) (x3 : Int32), H_4 σ x1 x2 x3 → nw_G P X 4 σ [(0, .ref (P.2.1 37)), (1, .int x1), (2, .int x2), (3, .int x3)] 4 [])), ∀ (σ : nw_ST) (x1 : Int32) (x2 : Int32) (x3 : Int32), b5_isWake_4 K H_4 σ x1 x2 x3 → nw_G P X 4 σ [(0, .ref (P.2.1 37)), (1, .int x1), (2, .int x2), (3, .int x3)] 4 [] := by
    intro H_4 hH_4 σ x1 x2 x3 hf
    unfold b5_isWake_4 at hf
    refine nw_iload_n (pc := 4) h dX5_isWake_4 rfl 3 rfl ?_
    refine nw_aload_n (pc := 5) h dX5_isWake_5 rfl 0 rfl ?_
    refine gf5_167 (pc := 6) h rfl dX5_isWake_6 ?_
    refine nw_icmp_ge (pc := 9) (tgt := 38) h dX5_isWake_9 (by decide) (fun c_9 => ?_) (fun c_9 => ?_)
    · have hf := hf.1 c_9
      refine nw_iload_n (pc := 38) h dX5_isWake_38 rfl 2 rfl ?_
      exact nw_zret (pc := 39) h he dX5_isWake_39 hf.1 ⟨_, rfl, hf.2⟩
    · have hf := hf.2 c_9
      refine nw_iload_n (pc := 12) h dX5_isWake_12 rfl 2 rfl ?_
      obtain ⟨ho, hf⟩ := hf
      refine nw_if_ne (pc := 13) (tgt := 26) h dX5_isWake_13 (by decide) (fun c_13 => ?_) (fun c_13 => ?_)
      · skip
        have ho := ho.2 c_13
        refine nw_iconst (pc := 26) (v := 1) h dX5_isWake_26 (by decide) ?_
        refine nw_goto (pc := 27) (tgt := 31) h dX5_isWake_27 (by decide) ?_
        simp only [if_neg c_13] at hf
        refine nw_sub (lv' := [(0, .ref (P.2.1 37)), (1, .int x1), (3, .int x3)]) [0, 1, 3] rfl ?_
        exact hL_31 H_4 hH_4 _ _ _ _ hf
      · skip
        have ho := ho.1 c_13
        refine nw_aload_n (pc := 16) h dX5_isWake_16 rfl 0 rfl ?_
        refine gf5_40 (pc := 17) (r := 48) h rfl rfl dX5_isWake_17 ?_
        refine nw_iload_n (pc := 20) h dX5_isWake_20 rfl 3 rfl ?_
        have h_21 := ho
        refine nw_iald (pc := 21) (n := 9) h rfl rfl h_21 dX5_isWake_21 ?_
        refine nw_iload_n (pc := 22) h dX5_isWake_22 rfl 1 rfl ?_
        refine nw_icmp_ne (pc := 23) (tgt := 30) h dX5_isWake_23 (by decide) (fun c_23 => ?_) (fun c_23 => ?_)
        · skip
          refine nw_iconst (pc := 30) (v := 0) h dX5_isWake_30 (by decide) ?_
          simp only [if_pos c_13, if_neg c_23] at hf
          refine nw_sub (lv' := [(0, .ref (P.2.1 37)), (1, .int x1), (3, .int x3)]) [0, 1, 3] rfl ?_
          exact hL_31 H_4 hH_4 _ _ _ _ hf
        · skip
          refine nw_iconst (pc := 26) (v := 1) h dX5_isWake_26 (by decide) ?_
          refine nw_goto (pc := 27) (tgt := 31) h dX5_isWake_27 (by decide) ?_
          simp only [if_pos c_13, if_pos c_23] at hf
          refine nw_sub (lv' := [(0, .ref (P.2.1 37)), (1, .int x1), (3, .int x3)]) [0, 1, 3] rfl ?_
          exact hL_31 H_4 hH_4 _ _ _ _ hf
  have hL_4 :  ∀ (n : Nat) (σ : nw_ST) (x1 : Int32) (x2 : Int32) (x3 : Int32), f5_isWake_4 K n σ x1 x2 x3 → nw_G P X 4 σ [(0, .ref (P.2.1 37)), (1, .int x1), (2, .int x2), (3, .int x3)] 4 [] := by
    intro n
    induction n with
    | zero => intro σ x1 x2 x3 hf; exact False.elim hf
    | succ n ih => exact hB_4 _ ih
  unfold f5_isWake at hf
  refine nw_iconst (pc := 0) (v := 0) h dX5_isWake_0 (by decide) ?_
  refine nw_istore_n (pc := 1) (lv' := [(2, .int (0 : Int32)), (0, .ref (P.2.1 37)), (1, .int a1)]) h dX5_isWake_1 rfl (by decide) rfl ?_
  refine nw_iconst (pc := 2) (v := 0) h dX5_isWake_2 (by decide) ?_
  refine nw_istore_n (pc := 3) (lv' := [(3, .int (0 : Int32)), (2, .int (0 : Int32)), (0, .ref (P.2.1 37)), (1, .int a1)]) h dX5_isWake_3 rfl (by decide) rfl ?_
  obtain ⟨n_4, hf⟩ := hf
  refine nw_sub (lv' := [(0, .ref (P.2.1 37)), (1, .int a1), (2, .int (0 : Int32)), (3, .int (0 : Int32))]) [2, 3, 1, 0] rfl ?_
  exact hL_4 n_4 _ _ _ _ hf
theorem gf5_164 {P : nw_PT} {X : nw_EX} {cc : ByteArray} {nL : Nat} {σ : nw_ST} {lv : List (Nat × Value)} {pc : Nat} {st : List Value} {q : Nat} (h : nw_ok P X cc RX5 nL) (hq : nw_cl q = 5) (hd : decode cc pc = .ok (.getfield 164, 3)) (k : nw_G P X nL σ lv (pc + 3) (.int (nw_gS σ q 22) :: st)) : nw_G P X nL σ lv pc (.ref (P.2.1 q) :: st) := by
  intro H locs ls h1 h2 h3
  exact va_get (D := P.1) (ci := 5) (C := RX5) (T := TX5) (N := 38) h.1.1 h.1.2.1 h.1.2.2.2.2 in_T5 h.1.2.2.2.1 h.2.1.1 h1 q (nw_at5 hq) rfl 22 (by decide) (h.1.2.2.2.2 _ nw_w427) (fun _ z => z) rfl hd (k H locs ls h1 h2 h3)
def f5_skips_33 (K : Int32 → nw_ST → Prop) (H_4 : nw_ST → Int32 → Int32 → Int32 → Prop) (σ : nw_ST) (x1 : Int32) (x3 : Int32) (y0 : Int32) (y1 : Int32) : Prop := (H_4 σ x1 (y1 + y0) (x3 + (1 : Int32)))
def b5_skips_4 (K : Int32 → nw_ST → Prop) (H_4 : nw_ST → Int32 → Int32 → Int32 → Prop) (σ : nw_ST) (x1 : Int32) (x2 : Int32) (x3 : Int32) : Prop := ((((nw_gS σ 37 22) ≤ x3) → (K x2 σ)) ∧ (¬ ((nw_gS σ 37 22) ≤ x3) → ((vp_in x3 13) ∧ (((((nw_gA σ 46 x3.toNatClampNeg) = x1) → (vp_in x3 13)) ∧ (¬ ((nw_gA σ 46 x3.toNatClampNeg) = x1) → True)) ∧ (f5_skips_33 K H_4 σ x1 x3 (if ((nw_gA σ 46 x3.toNatClampNeg) = x1) then (nw_gA σ 47 x3.toNatClampNeg) else (0 : Int32)) x2)))))
def f5_skips_4 (K : Int32 → nw_ST → Prop) : Nat → nw_ST → Int32 → Int32 → Int32 → Prop
  | 0 => fun _ _ _ _ => False
  | n + 1 => b5_skips_4 K (f5_skips_4 K n)
def f5_skips (K : Int32 → nw_ST → Prop) (σ : nw_ST) (a1 : Int32) : Prop := (∃ n, f5_skips_4 K n σ a1 (0 : Int32) (0 : Int32))
def rm5_skips : Room := { frames := 0, cells := 0, slots := 0, locals := 0 }
theorem yd5_skips : yX5_skips.cls = RX5 ∧ yX5_skips.cls ≠ "java/lang/invoke/MethodHandle" ∧ yX5_skips.cls ≠ "java/lang/invoke/VarHandle" ∧ (parseMethodDescriptor yX5_skips.desc).map (fun d => d.parameters.length) = some 1 := by decide +kernel
set_option maxHeartbeats 4000000 in
set_option maxRecDepth 100000 in
theorem ct5_skips (l : Launch) (P : nw_PT) (hD : nw_D P) (σ : nw_ST) (a1 : Int32)  (K : Int32 → nw_ST → Prop) (hf : f5_skips K σ a1) : nw_MT l yX5_skips cX5_skips 4 (some .int) rm5_skips P [.ref (P.2.1 37), .int a1] σ (nw_Ki K) := by
  refine nw_enter (by decide) (by first | decide | exact Nat.le_of_ble_eq_true rfl) hD ?_
  intro X hl h he hR
  subst hl
  have h : nw_ok P X cX5_skips RX5 4 := h
  show nw_G P X 4 σ [(0, .ref (P.2.1 37)), (1, .int a1)] 0 []
  have hL_33 : ∀ (H_4 : nw_ST → Int32 → Int32 → Int32 → Prop) (hH_4 : (∀ (σ : nw_ST) (x1 : Int32) (x2 : Int32) (x3 : Int32), H_4 σ x1 x2 x3 → nw_G P X 4 σ [(0, .ref (P.2.1 37)), (1, .int x1), (2, .int x2), (3, .int x3)] 4 [])), ∀ (σ : nw_ST) (x1 : Int32) (x3 : Int32) (y0 : Int32) (y1 : Int32), f5_skips_33 K H_4 σ x1 x3 y0 y1 → nw_G P X 4 σ [(0, .ref (P.2.1 37)), (1, .int x1), (3, .int x3)] 33 [.int y0, .int y1] := by
    intro H_4 hH_4 σ x1 x3 y0 y1 hf
    unfold f5_skips_33 at hf
    refine nw_iadd (pc := 33) h dX5_skips_33 ?_
    refine nw_istore_n (pc := 34) (lv' := [(2, .int (y1 + y0)), (0, .ref (P.2.1 37)), (1, .int x1), (3, .int x3)]) h dX5_skips_34 rfl (by decide) rfl ?_
    refine nw_iinc (pc := 35) (v := (x3 + (1 : Int32))) (lv' := [(3, .int (x3 + (1 : Int32))), (2, .int (y1 + y0)), (0, .ref (P.2.1 37)), (1, .int x1)]) h dX5_skips_35 (j := 3) rfl rfl (by decide) rfl ?_
    refine nw_goto (pc := 38) (tgt := 4) h dX5_skips_38 (by decide) ?_
    refine nw_sub (lv' := [(0, .ref (P.2.1 37)), (1, .int x1), (2, .int (y1 + y0)), (3, .int (x3 + (1 : Int32)))]) [2, 3, 1, 0] rfl ?_
    exact hH_4 _ _ _ _ (hf)
  have hB_4 : ∀ (H_4 : nw_ST → Int32 → Int32 → Int32 → Prop) (hH_4 : (∀ (σ : nw_ST) (x1 : Int32) (x2 : Int32) (x3 : Int32), H_4 σ x1 x2 x3 → nw_G P X 4 σ [(0, .ref (P.2.1 37)), (1, .int x1), (2, .int x2), (3, .int x3)] 4 [])), ∀ (σ : nw_ST) (x1 : Int32) (x2 : Int32) (x3 : Int32), b5_skips_4 K H_4 σ x1 x2 x3 → nw_G P X 4 σ [(0, .ref (P.2.1 37)), (1, .int x1), (2, .int x2), (3, .int x3)] 4 [] := by
    intro H_4 hH_4 σ x1 x2 x3 hf
    unfold b5_skips_4 at hf
    refine nw_iload_n (pc := 4) h dX5_skips_4 rfl 3 rfl ?_
    refine nw_aload_n (pc := 5) h dX5_skips_5 rfl 0 rfl ?_
    refine gf5_164 (pc := 6) h rfl dX5_skips_6 ?_
    refine nw_icmp_ge (pc := 9) (tgt := 41) h dX5_skips_9 (by decide) (fun c_9 => ?_) (fun c_9 => ?_)
    · have hf := hf.1 c_9
      refine nw_iload_n (pc := 41) h dX5_skips_41 rfl 2 rfl ?_
      exact nw_iret (pc := 42) h he dX5_skips_42 ⟨_, rfl, hf⟩
    · have hf := hf.2 c_9
      refine nw_iload_n (pc := 12) h dX5_skips_12 rfl 2 rfl ?_
      refine nw_aload_n (pc := 13) h dX5_skips_13 rfl 0 rfl ?_
      refine gf5_34 (pc := 14) (r := 46) h rfl rfl dX5_skips_14 ?_
      refine nw_iload_n (pc := 17) h dX5_skips_17 rfl 3 rfl ?_
      obtain ⟨h_18, hf⟩ := hf
      refine nw_iald (pc := 18) (n := 13) h rfl rfl h_18 dX5_skips_18 ?_
      refine nw_iload_n (pc := 19) h dX5_skips_19 rfl 1 rfl ?_
      obtain ⟨ho, hf⟩ := hf
      refine nw_icmp_ne (pc := 20) (tgt := 32) h dX5_skips_20 (by decide) (fun c_20 => ?_) (fun c_20 => ?_)
      · skip
        have ho := ho.2 c_20
        refine nw_iconst (pc := 32) (v := 0) h dX5_skips_32 (by decide) ?_
        simp only [if_neg c_20] at hf
        refine nw_sub (lv' := [(0, .ref (P.2.1 37)), (1, .int x1), (3, .int x3)]) [0, 1, 3] rfl ?_
        exact hL_33 H_4 hH_4 _ _ _ _ _ hf
      · skip
        have ho := ho.1 c_20
        refine nw_aload_n (pc := 23) h dX5_skips_23 rfl 0 rfl ?_
        refine gf5_37 (pc := 24) (r := 47) h rfl rfl dX5_skips_24 ?_
        refine nw_iload_n (pc := 27) h dX5_skips_27 rfl 3 rfl ?_
        have h_28 := ho
        refine nw_iald (pc := 28) (n := 13) h rfl rfl h_28 dX5_skips_28 ?_
        refine nw_goto (pc := 29) (tgt := 33) h dX5_skips_29 (by decide) ?_
        simp only [if_pos c_20] at hf
        refine nw_sub (lv' := [(0, .ref (P.2.1 37)), (1, .int x1), (3, .int x3)]) [0, 1, 3] rfl ?_
        exact hL_33 H_4 hH_4 _ _ _ _ _ hf
  have hL_4 :  ∀ (n : Nat) (σ : nw_ST) (x1 : Int32) (x2 : Int32) (x3 : Int32), f5_skips_4 K n σ x1 x2 x3 → nw_G P X 4 σ [(0, .ref (P.2.1 37)), (1, .int x1), (2, .int x2), (3, .int x3)] 4 [] := by
    intro n
    induction n with
    | zero => intro σ x1 x2 x3 hf; exact False.elim hf
    | succ n ih => exact hB_4 _ ih
  unfold f5_skips at hf
  refine nw_iconst (pc := 0) (v := 0) h dX5_skips_0 (by decide) ?_
  refine nw_istore_n (pc := 1) (lv' := [(2, .int (0 : Int32)), (0, .ref (P.2.1 37)), (1, .int a1)]) h dX5_skips_1 rfl (by decide) rfl ?_
  refine nw_iconst (pc := 2) (v := 0) h dX5_skips_2 (by decide) ?_
  refine nw_istore_n (pc := 3) (lv' := [(3, .int (0 : Int32)), (2, .int (0 : Int32)), (0, .ref (P.2.1 37)), (1, .int a1)]) h dX5_skips_3 rfl (by decide) rfl ?_
  obtain ⟨n_4, hf⟩ := hf
  refine nw_sub (lv' := [(0, .ref (P.2.1 37)), (1, .int a1), (2, .int (0 : Int32)), (3, .int (0 : Int32))]) [2, 3, 1, 0] rfl ?_
  exact hL_4 n_4 _ _ _ _ hf
def v5_isCrest (σ : nw_ST) (a1 : Int32) (a2 : Int32) : Int32 := (if (a2 < (nw_gA σ 42 a1.toNatClampNeg)) then (0 : Int32) else (if ((nw_rem (a2 - (nw_gA σ 42 a1.toNatClampNeg)) (nw_gA σ 41 a1.toNatClampNeg)) = 0) then (1 : Int32) else (0 : Int32)))
def o5_isCrest (σ : nw_ST) (a1 : Int32) (a2 : Int32) : Prop := ((vp_in a1 7) ∧ (((a2 < (nw_gA σ 42 a1.toNatClampNeg)) → True) ∧ (¬ (a2 < (nw_gA σ 42 a1.toNatClampNeg)) → ((vp_in a1 7) ∧ ((vp_in a1 7) ∧ (¬ (nw_gA σ 41 a1.toNatClampNeg) = 0))))))
theorem z5_isCrest (σ : nw_ST) (a1 : Int32) (a2 : Int32) : nw_isZ (v5_isCrest σ a1 a2) := by
  unfold v5_isCrest; repeat' split
  all_goals first | exact (Or.inl rfl) | exact (Or.inr rfl)
def rm5_isCrest : Room := { frames := 0, cells := 0, slots := 0, locals := 0 }
theorem yd5_isCrest : yX5_isCrest.cls = RX5 ∧ yX5_isCrest.cls ≠ "java/lang/invoke/MethodHandle" ∧ yX5_isCrest.cls ≠ "java/lang/invoke/VarHandle" ∧ (parseMethodDescriptor yX5_isCrest.desc).map (fun d => d.parameters.length) = some 2 := by decide +kernel
set_option maxHeartbeats 4000000 in
set_option maxRecDepth 100000 in
theorem ct5_isCrest (l : Launch) (P : nw_PT) (hD : nw_D P) (σ : nw_ST) (a1 : Int32) (a2 : Int32)  (ho : o5_isCrest σ a1 a2) : nw_MT l yX5_isCrest cX5_isCrest 3 (some .boolean) rm5_isCrest P [.ref (P.2.1 37), .int a1, .int a2] σ (nw_Ki (fun r s2 => r = (v5_isCrest σ a1 a2) ∧ s2 = σ)) := by
  refine nw_enter (by decide) (by first | decide | exact Nat.le_of_ble_eq_true rfl) hD ?_
  intro X hl h he hR
  subst hl
  have h : nw_ok P X cX5_isCrest RX5 3 := h
  show nw_G P X 3 σ [(0, .ref (P.2.1 37)), (1, .int a1), (2, .int a2)] 0 []
  unfold o5_isCrest at ho
  refine nw_iload_n (pc := 0) h dX5_isCrest_0 rfl 2 rfl ?_
  refine nw_aload_n (pc := 1) h dX5_isCrest_1 rfl 0 rfl ?_
  refine gf5_22 (pc := 2) (r := 42) h rfl rfl dX5_isCrest_2 ?_
  refine nw_iload_n (pc := 5) h dX5_isCrest_5 rfl 1 rfl ?_
  obtain ⟨h_6, ho⟩ := ho
  refine nw_iald (pc := 6) (n := 7) h rfl rfl h_6 dX5_isCrest_6 ?_
  refine nw_icmp_lt (pc := 7) (tgt := 32) h dX5_isCrest_7 (by decide) (fun c_7 => ?_) (fun c_7 => ?_)
  · skip
    have ho := ho.1 c_7
    refine nw_iconst (pc := 32) (v := 0) h dX5_isCrest_32 (by decide) ?_
    exact nw_zret (pc := 33) h he dX5_isCrest_33 (Or.inl rfl) ⟨_, rfl, (by unfold v5_isCrest; rw [if_pos c_7]), rfl⟩
  · skip
    have ho := ho.2 c_7
    refine nw_iload_n (pc := 10) h dX5_isCrest_10 rfl 2 rfl ?_
    refine nw_aload_n (pc := 11) h dX5_isCrest_11 rfl 0 rfl ?_
    refine gf5_22 (pc := 12) (r := 42) h rfl rfl dX5_isCrest_12 ?_
    refine nw_iload_n (pc := 15) h dX5_isCrest_15 rfl 1 rfl ?_
    obtain ⟨h_16, ho⟩ := ho
    refine nw_iald (pc := 16) (n := 7) h rfl rfl h_16 dX5_isCrest_16 ?_
    refine nw_isub (pc := 17) h dX5_isCrest_17 ?_
    refine nw_aload_n (pc := 18) h dX5_isCrest_18 rfl 0 rfl ?_
    refine gf5_19 (pc := 19) (r := 41) h rfl rfl dX5_isCrest_19 ?_
    refine nw_iload_n (pc := 22) h dX5_isCrest_22 rfl 1 rfl ?_
    obtain ⟨h_23, ho⟩ := ho
    refine nw_iald (pc := 23) (n := 7) h rfl rfl h_23 dX5_isCrest_23 ?_
    have h_24 := ho
    refine nw_irem (pc := 24) h dX5_isCrest_24 h_24 ?_
    refine nw_if_ne (pc := 25) (tgt := 32) h dX5_isCrest_25 (by decide) (fun c_25 => ?_) (fun c_25 => ?_)
    · skip
      refine nw_iconst (pc := 32) (v := 0) h dX5_isCrest_32 (by decide) ?_
      exact nw_zret (pc := 33) h he dX5_isCrest_33 (Or.inl rfl) ⟨_, rfl, (by unfold v5_isCrest; rw [if_neg c_7, if_neg c_25]), rfl⟩
    · skip
      refine nw_iconst (pc := 28) (v := 1) h dX5_isCrest_28 (by decide) ?_
      refine nw_goto (pc := 29) (tgt := 33) h dX5_isCrest_29 (by decide) ?_
      exact nw_zret (pc := 33) h he dX5_isCrest_33 (Or.inr rfl) ⟨_, rfl, (by unfold v5_isCrest; rw [if_neg c_7, if_pos c_25]), rfl⟩
theorem gf5_49 {P : nw_PT} {X : nw_EX} {cc : ByteArray} {nL : Nat} {σ : nw_ST} {lv : List (Nat × Value)} {pc : Nat} {st : List Value} {q : Nat} (h : nw_ok P X cc RX5 nL) (hq : nw_cl q = 5) {r : Nat} (hr : nw_rf q 19 = r) (hd : decode cc pc = .ok (.getfield 49, 3)) (k : nw_G P X nL σ lv (pc + 3) (.ref (P.2.1 r) :: st)) : nw_G P X nL σ lv pc (.ref (P.2.1 q) :: st) := by
  subst hr; intro H locs ls h1 h2 h3
  exact va_get (D := P.1) (ci := 5) (C := RX5) (T := TX5) (N := 38) h.1.1 h.1.2.1 h.1.2.2.2.2 in_T5 h.1.2.2.2.1 h.2.1.1 h1 q (nw_at5 hq) rfl 19 (by decide) (h.1.2.2.2.2 _ nw_w430) (fun _ z => z) rfl hd (k H locs ls h1 h2 h3)
def v5_breaks (σ : nw_ST) (a1 : Int32) : Int32 := (if ((nw_gA σ 51 a1.toNatClampNeg) ≤ 0) then (0 : Int32) else (if ((nw_gA σ 51 a1.toNatClampNeg) < (nw_gS σ 37 10)) then (0 : Int32) else (1 : Int32)))
def o5_breaks (σ : nw_ST) (a1 : Int32) : Prop := ((vp_in a1 240) ∧ ((((nw_gA σ 51 a1.toNatClampNeg) ≤ 0) → True) ∧ (¬ ((nw_gA σ 51 a1.toNatClampNeg) ≤ 0) → (vp_in a1 240))))
theorem z5_breaks (σ : nw_ST) (a1 : Int32) : nw_isZ (v5_breaks σ a1) := by
  unfold v5_breaks; repeat' split
  all_goals first | exact (Or.inl rfl) | exact (Or.inr rfl)
def rm5_breaks : Room := { frames := 0, cells := 0, slots := 0, locals := 0 }
theorem yd5_breaks : yX5_breaks.cls = RX5 ∧ yX5_breaks.cls ≠ "java/lang/invoke/MethodHandle" ∧ yX5_breaks.cls ≠ "java/lang/invoke/VarHandle" ∧ (parseMethodDescriptor yX5_breaks.desc).map (fun d => d.parameters.length) = some 1 := by decide +kernel
set_option maxHeartbeats 4000000 in
set_option maxRecDepth 100000 in
theorem ct5_breaks (l : Launch) (P : nw_PT) (hD : nw_D P) (σ : nw_ST) (a1 : Int32)  (ho : o5_breaks σ a1) : nw_MT l yX5_breaks cX5_breaks 2 (some .boolean) rm5_breaks P [.ref (P.2.1 37), .int a1] σ (nw_Ki (fun r s2 => r = (v5_breaks σ a1) ∧ s2 = σ)) := by
  refine nw_enter (by decide) (by first | decide | exact Nat.le_of_ble_eq_true rfl) hD ?_
  intro X hl h he hR
  subst hl
  have h : nw_ok P X cX5_breaks RX5 2 := h
  show nw_G P X 2 σ [(0, .ref (P.2.1 37)), (1, .int a1)] 0 []
  unfold o5_breaks at ho
  refine nw_aload_n (pc := 0) h dX5_breaks_0 rfl 0 rfl ?_
  refine gf5_49 (pc := 1) (r := 51) h rfl rfl dX5_breaks_1 ?_
  refine nw_iload_n (pc := 4) h dX5_breaks_4 rfl 1 rfl ?_
  obtain ⟨h_5, ho⟩ := ho
  refine nw_iald (pc := 5) (n := 240) h rfl rfl h_5 dX5_breaks_5 ?_
  refine nw_if_le (pc := 6) (tgt := 26) h dX5_breaks_6 (by decide) (fun c_6 => ?_) (fun c_6 => ?_)
  · skip
    have ho := ho.1 c_6
    refine nw_iconst (pc := 26) (v := 0) h dX5_breaks_26 (by decide) ?_
    exact nw_zret (pc := 27) h he dX5_breaks_27 (Or.inl rfl) ⟨_, rfl, (by unfold v5_breaks; rw [if_pos c_6]), rfl⟩
  · skip
    have ho := ho.2 c_6
    refine nw_aload_n (pc := 9) h dX5_breaks_9 rfl 0 rfl ?_
    refine gf5_49 (pc := 10) (r := 51) h rfl rfl dX5_breaks_10 ?_
    refine nw_iload_n (pc := 13) h dX5_breaks_13 rfl 1 rfl ?_
    have h_14 := ho
    refine nw_iald (pc := 14) (n := 240) h rfl rfl h_14 dX5_breaks_14 ?_
    refine nw_aload_n (pc := 15) h dX5_breaks_15 rfl 0 rfl ?_
    refine gf5_137 (pc := 16) h rfl dX5_breaks_16 ?_
    refine nw_icmp_lt (pc := 19) (tgt := 26) h dX5_breaks_19 (by decide) (fun c_19 => ?_) (fun c_19 => ?_)
    · skip
      refine nw_iconst (pc := 26) (v := 0) h dX5_breaks_26 (by decide) ?_
      exact nw_zret (pc := 27) h he dX5_breaks_27 (Or.inl rfl) ⟨_, rfl, (by unfold v5_breaks; rw [if_neg c_6, if_pos c_19]), rfl⟩
    · skip
      refine nw_iconst (pc := 22) (v := 1) h dX5_breaks_22 (by decide) ?_
      refine nw_goto (pc := 23) (tgt := 27) h dX5_breaks_23 (by decide) ?_
      exact nw_zret (pc := 27) h he dX5_breaks_27 (Or.inr rfl) ⟨_, rfl, (by unfold v5_breaks; rw [if_neg c_6, if_neg c_19]), rfl⟩
theorem pf5_173 {P : nw_PT} {X : nw_EX} {cc : ByteArray} {nL : Nat} {σ : nw_ST} {lv : List (Nat × Value)} {pc : Nat} {st : List Value} {q : Nat} (h : nw_ok P X cc RX5 nL) (hq : nw_cl q = 5) {v : Int32} (hd : decode cc pc = .ok (.putfield 173, 3)) (k : nw_G P X nL (nw_sS σ q 25 v) lv (pc + 3) st) : nw_G P X nL σ lv pc (.int v :: .ref (P.2.1 q) :: st) := by
  intro H locs ls h1 h2 h3
  exact va_put (D := P.1) (ci := 5) (ty := .int) (C := RX5) (T := TX5) (N := 38) h.1.1 h.1.2.1 h.1.2.2.2.2 in_T5 tyX5 tyX5_ok nmX5 h.1.2.2.2.1 h.2.1.1 h1 (h.2.2 σ) h2 q (nw_at5 hq) rfl 25 (by decide) (h.1.2.2.2.2 _ nw_w431) (fun _ z => z) rfl (by decide +kernel) rfl rfl (by show 25 < 38; decide) hd (fun H1 locs1 g1 _ g2 => k H1 locs1 ls (by rw [nw_set5_25 hq] at g1; exact g1) g2 h3)
theorem pf5_176 {P : nw_PT} {X : nw_EX} {cc : ByteArray} {nL : Nat} {σ : nw_ST} {lv : List (Nat × Value)} {pc : Nat} {st : List Value} {q : Nat} (h : nw_ok P X cc RX5 nL) (hq : nw_cl q = 5) {v : Int32} (hd : decode cc pc = .ok (.putfield 176, 3)) (k : nw_G P X nL (nw_sS σ q 26 v) lv (pc + 3) st) : nw_G P X nL σ lv pc (.int v :: .ref (P.2.1 q) :: st) := by
  intro H locs ls h1 h2 h3
  exact va_put (D := P.1) (ci := 5) (ty := .int) (C := RX5) (T := TX5) (N := 38) h.1.1 h.1.2.1 h.1.2.2.2.2 in_T5 tyX5 tyX5_ok nmX5 h.1.2.2.2.1 h.2.1.1 h1 (h.2.2 σ) h2 q (nw_at5 hq) rfl 26 (by decide) (h.1.2.2.2.2 _ nw_w432) (fun _ z => z) rfl (by decide +kernel) rfl rfl (by show 26 < 38; decide) hd (fun H1 locs1 g1 _ g2 => k H1 locs1 ls (by rw [nw_set5_26 hq] at g1; exact g1) g2 h3)
theorem gf5_52 {P : nw_PT} {X : nw_EX} {cc : ByteArray} {nL : Nat} {σ : nw_ST} {lv : List (Nat × Value)} {pc : Nat} {st : List Value} {q : Nat} (h : nw_ok P X cc RX5 nL) (hq : nw_cl q = 5) {r : Nat} (hr : nw_rf q 20 = r) (hd : decode cc pc = .ok (.getfield 52, 3)) (k : nw_G P X nL σ lv (pc + 3) (.ref (P.2.1 r) :: st)) : nw_G P X nL σ lv pc (.ref (P.2.1 q) :: st) := by
  subst hr; intro H locs ls h1 h2 h3
  exact va_get (D := P.1) (ci := 5) (C := RX5) (T := TX5) (N := 38) h.1.1 h.1.2.1 h.1.2.2.2.2 in_T5 h.1.2.2.2.1 h.2.1.1 h1 q (nw_at5 hq) rfl 20 (by decide) (h.1.2.2.2.2 _ nw_w433) (fun _ z => z) rfl hd (k H locs ls h1 h2 h3)
theorem gf5_55 {P : nw_PT} {X : nw_EX} {cc : ByteArray} {nL : Nat} {σ : nw_ST} {lv : List (Nat × Value)} {pc : Nat} {st : List Value} {q : Nat} (h : nw_ok P X cc RX5 nL) (hq : nw_cl q = 5) {r : Nat} (hr : nw_rf q 21 = r) (hd : decode cc pc = .ok (.getfield 55, 3)) (k : nw_G P X nL σ lv (pc + 3) (.ref (P.2.1 r) :: st)) : nw_G P X nL σ lv pc (.ref (P.2.1 q) :: st) := by
  subst hr; intro H locs ls h1 h2 h3
  exact va_get (D := P.1) (ci := 5) (C := RX5) (T := TX5) (N := 38) h.1.1 h.1.2.1 h.1.2.2.2.2 in_T5 h.1.2.2.2.1 h.2.1.1 h1 q (nw_at5 hq) rfl 21 (by decide) (h.1.2.2.2.2 _ nw_w434) (fun _ z => z) rfl hd (k H locs ls h1 h2 h3)
theorem klX5_183 {P : nw_PT} {X : nw_EX} {cc : ByteArray} {nL : Nat} {σ : nw_ST} {lv : List (Nat × Value)} {pc : Nat} {rest : List Value} {a1 : Int32} (h : nw_ok P X cc RX5 nL) (hR : rm5_breaks.frames + 1 ≤ X.2.2.2.1.frames ∧ 8 + (2 + 11) + rm5_breaks.locals ≤ X.2.2.2.1.locals)  (ho : o5_breaks σ a1) (hst : (rest.map fun v => v.category).sum ≤ 8) (hd : decode cc pc = .ok (.invokevirtual 183, 3)) (k : nw_G P X nL σ lv (pc + 3) (.int (v5_breaks σ a1) :: rest)) : nw_G P X nL σ lv pc (.int a1 :: .ref (P.2.1 37) :: rest) :=
  nw_callV (As := [.int a1]) (rest := rest) (C := RX5) (ci := 5) h (ct5_breaks _ P h.2.2 σ a1 ho) (nw_goodV nw_w435 nw_w436 nw_w437 nw_w342 nw_w438) yd5_breaks rfl hR ⟨rfl, rfl⟩ rfl (by decide) rfl rfl hst rfl hd (fun v s2 z => by obtain ⟨r, rfl, rfl, rfl⟩ := z; exact k)
theorem klX5_186 {P : nw_PT} {X : nw_EX} {cc : ByteArray} {nL : Nat} {σ : nw_ST} {lv : List (Nat × Value)} {pc : Nat} {rest : List Value} {a1 : Int32} (h : nw_ok P X cc RX5 nL) (hR : rm5_isWake.frames + 1 ≤ X.2.2.2.1.frames ∧ 8 + (4 + 11) + rm5_isWake.locals ≤ X.2.2.2.1.locals)  {K : Int32 → nw_ST → Prop} (hf : f5_isWake K σ a1) (hst : (rest.map fun v => v.category).sum ≤ 8) (hd : decode cc pc = .ok (.invokevirtual 186, 3)) (k : ∀ (r : Int32) (s2 : nw_ST), K r s2 → nw_G P X nL s2 lv (pc + 3) (.int r :: rest)) : nw_G P X nL σ lv pc (.int a1 :: .ref (P.2.1 37) :: rest) :=
  nw_callV (As := [.int a1]) (rest := rest) (C := RX5) (ci := 5) h (ct5_isWake _ P h.2.2 σ a1 K hf) (nw_goodV nw_w439 nw_w440 nw_w441 nw_w342 nw_w442) yd5_isWake rfl hR ⟨rfl, rfl⟩ rfl (by decide) rfl rfl hst rfl hd (fun v s2 z => by obtain ⟨r, rfl, z⟩ := z; exact k r s2 z)
theorem gf5_173 {P : nw_PT} {X : nw_EX} {cc : ByteArray} {nL : Nat} {σ : nw_ST} {lv : List (Nat × Value)} {pc : Nat} {st : List Value} {q : Nat} (h : nw_ok P X cc RX5 nL) (hq : nw_cl q = 5) (hd : decode cc pc = .ok (.getfield 173, 3)) (k : nw_G P X nL σ lv (pc + 3) (.int (nw_gS σ q 25) :: st)) : nw_G P X nL σ lv pc (.ref (P.2.1 q) :: st) := by
  intro H locs ls h1 h2 h3
  exact va_get (D := P.1) (ci := 5) (C := RX5) (T := TX5) (N := 38) h.1.1 h.1.2.1 h.1.2.2.2.2 in_T5 h.1.2.2.2.1 h.2.1.1 h1 q (nw_at5 hq) rfl 25 (by decide) (h.1.2.2.2.2 _ nw_w431) (fun _ z => z) rfl hd (k H locs ls h1 h2 h3)
theorem gf5_176 {P : nw_PT} {X : nw_EX} {cc : ByteArray} {nL : Nat} {σ : nw_ST} {lv : List (Nat × Value)} {pc : Nat} {st : List Value} {q : Nat} (h : nw_ok P X cc RX5 nL) (hq : nw_cl q = 5) (hd : decode cc pc = .ok (.getfield 176, 3)) (k : nw_G P X nL σ lv (pc + 3) (.int (nw_gS σ q 26) :: st)) : nw_G P X nL σ lv pc (.ref (P.2.1 q) :: st) := by
  intro H locs ls h1 h2 h3
  exact va_get (D := P.1) (ci := 5) (C := RX5) (T := TX5) (N := 38) h.1.1 h.1.2.1 h.1.2.2.2.2 in_T5 h.1.2.2.2.1 h.2.1.1 h1 q (nw_at5 hq) rfl 26 (by decide) (h.1.2.2.2.2 _ nw_w432) (fun _ z => z) rfl hd (k H locs ls h1 h2 h3)
theorem klX5_189 {P : nw_PT} {X : nw_EX} {cc : ByteArray} {nL : Nat} {σ : nw_ST} {lv : List (Nat × Value)} {pc : Nat} {rest : List Value} {a1 : Int32} (h : nw_ok P X cc RX5 nL) (hR : rm5_skips.frames + 1 ≤ X.2.2.2.1.frames ∧ 8 + (4 + 11) + rm5_skips.locals ≤ X.2.2.2.1.locals)  {K : Int32 → nw_ST → Prop} (hf : f5_skips K σ a1) (hst : (rest.map fun v => v.category).sum ≤ 8) (hd : decode cc pc = .ok (.invokevirtual 189, 3)) (k : ∀ (r : Int32) (s2 : nw_ST), K r s2 → nw_G P X nL s2 lv (pc + 3) (.int r :: rest)) : nw_G P X nL σ lv pc (.int a1 :: .ref (P.2.1 37) :: rest) :=
  nw_callV (As := [.int a1]) (rest := rest) (C := RX5) (ci := 5) h (ct5_skips _ P h.2.2 σ a1 K hf) (nw_goodV nw_w443 nw_w444 nw_w445 nw_w342 nw_w446) yd5_skips rfl hR ⟨rfl, rfl⟩ rfl (by decide) rfl rfl hst rfl hd (fun v s2 z => by obtain ⟨r, rfl, z⟩ := z; exact k r s2 z)
theorem klX5_179 {P : nw_PT} {X : nw_EX} {cc : ByteArray} {nL : Nat} {σ : nw_ST} {lv : List (Nat × Value)} {pc : Nat} {rest : List Value} {a1 : Int32} {a2 : Int32} (h : nw_ok P X cc RX5 nL) (hR : rm5_isCrest.frames + 1 ≤ X.2.2.2.1.frames ∧ 8 + (3 + 11) + rm5_isCrest.locals ≤ X.2.2.2.1.locals)  (ho : o5_isCrest σ a1 a2) (hst : (rest.map fun v => v.category).sum ≤ 8) (hd : decode cc pc = .ok (.invokevirtual 179, 3)) (k : nw_G P X nL σ lv (pc + 3) (.int (v5_isCrest σ a1 a2) :: rest)) : nw_G P X nL σ lv pc (.int a2 :: .int a1 :: .ref (P.2.1 37) :: rest) :=
  nw_callV (As := [.int a1, .int a2]) (rest := rest) (C := RX5) (ci := 5) h (ct5_isCrest _ P h.2.2 σ a1 a2 ho) (nw_goodV nw_w447 nw_w448 nw_w449 nw_w342 nw_w450) yd5_isCrest rfl hR ⟨rfl, rfl⟩ rfl (by decide) rfl rfl hst rfl hd (fun v s2 z => by obtain ⟨r, rfl, rfl, rfl⟩ := z; exact k)
def f5_lays_162 (K : nw_ST → Prop) (H_12 : nw_ST → Int32 → Prop) (σ : nw_ST) (x1 : Int32) : Prop := (H_12 σ (x1 + (1 : Int32)))
def f5_lays_99 (K : nw_ST → Prop) (H_12 : nw_ST → Int32 → Prop) (H_42 : nw_ST → Int32 → Int32 → Prop) (σ : nw_ST) (x1 : Int32) (x2 : Int32) (y0 : Int32) (y1 : Int32) (y2 : Int32) : Prop := ((vp_in y2 240) ∧ (H_42 (nw_sA σ 52 y2.toNatClampNeg (y1 + y0)) x1 (x2 + (1 : Int32))))
def f5_lays_76 (K : nw_ST → Prop) (H_12 : nw_ST → Int32 → Prop) (H_42 : nw_ST → Int32 → Int32 → Prop) (σ : nw_ST) (x1 : Int32) (x2 : Int32) (y0 : Int32) (y1 : Int32) (y2 : Int32) : Prop := ((vp_in y2 240) ∧ ((vp_in x1 240) ∧ ((o5_isCrest (nw_sA σ 51 y2.toNatClampNeg (y1 + y0)) x2 x1) ∧ (f5_lays_99 K H_12 H_42 (nw_sA σ 51 y2.toNatClampNeg (y1 + y0)) x1 x2 (if ((v5_isCrest (nw_sA σ 51 y2.toNatClampNeg (y1 + y0)) x2 x1) = 0) then (0 : Int32) else (1 : Int32)) (nw_gA (nw_sA σ 51 y2.toNatClampNeg (y1 + y0)) 52 x1.toNatClampNeg) x1))))
def b5_lays_42 (K : nw_ST → Prop) (H_12 : nw_ST → Int32 → Prop) (H_42 : nw_ST → Int32 → Int32 → Prop) (σ : nw_ST) (x1 : Int32) (x2 : Int32) : Prop := ((((nw_gS σ 37 2) ≤ x2) → ((o5_breaks σ x1) ∧ ((((v5_breaks σ x1) = 0) → (f5_lays_162 K H_12 σ x1)) ∧ (¬ ((v5_breaks σ x1) = 0) → (f5_isWake (fun (r_117 : Int32) (s_117 : nw_ST) => (((r_117 = 0) → (f5_skips (fun (r_144 : Int32) (s_144 : nw_ST) => ((vp_in x1 240) ∧ (f5_lays_162 K H_12 (nw_sA (nw_sS s_144 37 26 ((nw_gS (nw_sS s_117 37 25 ((nw_gS s_117 37 25) + (1 : Int32))) 37 26) + ((1 : Int32) + r_144))) 53 x1.toNatClampNeg (nw_gS (nw_sS s_144 37 26 ((nw_gS (nw_sS s_117 37 25 ((nw_gS s_117 37 25) + (1 : Int32))) 37 26) + ((1 : Int32) + r_144))) 37 26)) x1))) (nw_sS s_117 37 25 ((nw_gS s_117 37 25) + (1 : Int32))) (nw_gS (nw_sS s_117 37 25 ((nw_gS s_117 37 25) + (1 : Int32))) 37 25))) ∧ (¬ (r_117 = 0) → (f5_lays_162 K H_12 s_117 x1)))) σ x1))))) ∧ (¬ ((nw_gS σ 37 2) ≤ x2) → ((vp_in x1 240) ∧ ((o5_isCrest σ x2 x1) ∧ (((((v5_isCrest σ x2 x1) = 0) → True) ∧ (¬ ((v5_isCrest σ x2 x1) = 0) → (vp_in x2 7))) ∧ (f5_lays_76 K H_12 H_42 σ x1 x2 (if ((v5_isCrest σ x2 x1) = 0) then (0 : Int32) else (nw_gA σ 40 x2.toNatClampNeg)) (nw_gA σ 51 x1.toNatClampNeg) x1))))))
def f5_lays_42 (K : nw_ST → Prop) (H_12 : nw_ST → Int32 → Prop) : Nat → nw_ST → Int32 → Int32 → Prop
  | 0 => fun _ _ _ => False
  | n + 1 => b5_lays_42 K H_12 (f5_lays_42 K H_12 n)
def b5_lays_12 (K : nw_ST → Prop) (H_12 : nw_ST → Int32 → Prop) (σ : nw_ST) (x1 : Int32) : Prop := ((((240 : Int32) ≤ x1) → (K σ)) ∧ (¬ ((240 : Int32) ≤ x1) → ((vp_in x1 240) ∧ ((vp_in x1 240) ∧ ((vp_in x1 240) ∧ (∃ n, f5_lays_42 K H_12 n (nw_sA (nw_sA (nw_sA σ 51 x1.toNatClampNeg (0 : Int32)) 52 x1.toNatClampNeg (0 : Int32)) 53 x1.toNatClampNeg (0 : Int32)) x1 (0 : Int32)))))))
def f5_lays_12 (K : nw_ST → Prop) : Nat → nw_ST → Int32 → Prop
  | 0 => fun _ _ => False
  | n + 1 => b5_lays_12 K (f5_lays_12 K n)
def f5_lays (K : nw_ST → Prop) (σ : nw_ST)  : Prop := (∃ n, f5_lays_12 K n (nw_sS (nw_sS σ 37 25 (0 : Int32)) 37 26 (0 : Int32)) (0 : Int32))
def rm5_lays : Room := { frames := 1, cells := 0, slots := 0, locals := 23 }
theorem yd5_lays : yX5_lays.cls = RX5 ∧ yX5_lays.cls ≠ "java/lang/invoke/MethodHandle" ∧ yX5_lays.cls ≠ "java/lang/invoke/VarHandle" ∧ (parseMethodDescriptor yX5_lays.desc).map (fun d => d.parameters.length) = some 0 := by decide +kernel
set_option maxHeartbeats 4000000 in
set_option maxRecDepth 100000 in
theorem ct5_lays (l : Launch) (P : nw_PT) (hD : nw_D P) (σ : nw_ST)   (K : nw_ST → Prop) (hf : f5_lays K σ ) : nw_MT l yX5_lays cX5_lays 3 none rm5_lays P [.ref (P.2.1 37)] σ (nw_Kv K) := by
  refine nw_enter (by decide) (by first | decide | exact Nat.le_of_ble_eq_true rfl) hD ?_
  intro X hl h he hR
  subst hl
  have h : nw_ok P X cX5_lays RX5 3 := h
  show nw_G P X 3 σ [(0, .ref (P.2.1 37))] 0 []
  have hL_162 : ∀ (H_12 : nw_ST → Int32 → Prop) (hH_12 : (∀ (σ : nw_ST) (x1 : Int32), H_12 σ x1 → nw_G P X 3 σ [(0, .ref (P.2.1 37)), (1, .int x1)] 12 [])), ∀ (σ : nw_ST) (x1 : Int32), f5_lays_162 K H_12 σ x1 → nw_G P X 3 σ [(0, .ref (P.2.1 37)), (1, .int x1)] 162 [] := by
    intro H_12 hH_12 σ x1 hf
    unfold f5_lays_162 at hf
    refine nw_iinc (pc := 162) (v := (x1 + (1 : Int32))) (lv' := [(1, .int (x1 + (1 : Int32))), (0, .ref (P.2.1 37))]) h dX5_lays_162 (j := 1) rfl rfl (by decide) rfl ?_
    refine nw_goto (pc := 165) (tgt := 12) h dX5_lays_165 (by decide) ?_
    refine nw_sub (lv' := [(0, .ref (P.2.1 37)), (1, .int (x1 + (1 : Int32)))]) [1, 0] rfl ?_
    exact hH_12 _ _ (hf)
  have hL_99 : ∀ (H_12 : nw_ST → Int32 → Prop) (hH_12 : (∀ (σ : nw_ST) (x1 : Int32), H_12 σ x1 → nw_G P X 3 σ [(0, .ref (P.2.1 37)), (1, .int x1)] 12 [])) (H_42 : nw_ST → Int32 → Int32 → Prop) (hH_42 : (∀ (σ : nw_ST) (x1 : Int32) (x2 : Int32), H_42 σ x1 x2 → nw_G P X 3 σ [(0, .ref (P.2.1 37)), (1, .int x1), (2, .int x2)] 42 [])), ∀ (σ : nw_ST) (x1 : Int32) (x2 : Int32) (y0 : Int32) (y1 : Int32) (y2 : Int32), f5_lays_99 K H_12 H_42 σ x1 x2 y0 y1 y2 → nw_G P X 3 σ [(0, .ref (P.2.1 37)), (1, .int x1), (2, .int x2)] 99 [.int y0, .int y1, .int y2, .ref (P.2.1 52)] := by
    intro H_12 hH_12 H_42 hH_42 σ x1 x2 y0 y1 y2 hf
    unfold f5_lays_99 at hf
    refine nw_iadd (pc := 99) h dX5_lays_99 ?_
    obtain ⟨h_100, hf⟩ := hf
    refine nw_iast (pc := 100) (n := 240) h rfl rfl h_100 dX5_lays_100 ?_
    refine nw_iinc (pc := 101) (v := (x2 + (1 : Int32))) (lv' := [(2, .int (x2 + (1 : Int32))), (0, .ref (P.2.1 37)), (1, .int x1)]) h dX5_lays_101 (j := 2) rfl rfl (by decide) rfl ?_
    refine nw_goto (pc := 104) (tgt := 42) h dX5_lays_104 (by decide) ?_
    refine nw_sub (lv' := [(0, .ref (P.2.1 37)), (1, .int x1), (2, .int (x2 + (1 : Int32)))]) [1, 2, 0] rfl ?_
    exact hH_42 _ _ _ (hf)
  have hL_76 : ∀ (H_12 : nw_ST → Int32 → Prop) (hH_12 : (∀ (σ : nw_ST) (x1 : Int32), H_12 σ x1 → nw_G P X 3 σ [(0, .ref (P.2.1 37)), (1, .int x1)] 12 [])) (H_42 : nw_ST → Int32 → Int32 → Prop) (hH_42 : (∀ (σ : nw_ST) (x1 : Int32) (x2 : Int32), H_42 σ x1 x2 → nw_G P X 3 σ [(0, .ref (P.2.1 37)), (1, .int x1), (2, .int x2)] 42 [])), ∀ (σ : nw_ST) (x1 : Int32) (x2 : Int32) (y0 : Int32) (y1 : Int32) (y2 : Int32), f5_lays_76 K H_12 H_42 σ x1 x2 y0 y1 y2 → nw_G P X 3 σ [(0, .ref (P.2.1 37)), (1, .int x1), (2, .int x2)] 76 [.int y0, .int y1, .int y2, .ref (P.2.1 51)] := by
    intro H_12 hH_12 H_42 hH_42 σ x1 x2 y0 y1 y2 hf
    unfold f5_lays_76 at hf
    refine nw_iadd (pc := 76) h dX5_lays_76 ?_
    obtain ⟨h_77, hf⟩ := hf
    refine nw_iast (pc := 77) (n := 240) h rfl rfl h_77 dX5_lays_77 ?_
    refine nw_aload_n (pc := 78) h dX5_lays_78 rfl 0 rfl ?_
    refine gf5_52 (pc := 79) (r := 52) h rfl rfl dX5_lays_79 ?_
    refine nw_iload_n (pc := 82) h dX5_lays_82 rfl 1 rfl ?_
    refine nw_dup2 (pc := 83) h dX5_lays_83 rfl rfl ?_
    obtain ⟨h_84, hf⟩ := hf
    refine nw_iald (pc := 84) (n := 240) h rfl rfl h_84 dX5_lays_84 ?_
    refine nw_aload_n (pc := 85) h dX5_lays_85 rfl 0 rfl ?_
    refine nw_iload_n (pc := 86) h dX5_lays_86 rfl 2 rfl ?_
    refine nw_iload_n (pc := 87) h dX5_lays_87 rfl 1 rfl ?_
    obtain ⟨h_88, hf⟩ := hf
    refine klX5_179 (pc := 88) h (by rw [hR]; decide) h_88 (Nat.le_of_ble_eq_true rfl) dX5_lays_88 ?_
    refine nw_if_eq (pc := 91) (tgt := 98) h dX5_lays_91 (by decide) (fun c_91 => ?_) (fun c_91 => ?_)
    · skip
      refine nw_iconst (pc := 98) (v := 0) h dX5_lays_98 (by decide) ?_
      simp only [if_pos c_91] at hf
      exact hL_99 H_12 hH_12 H_42 hH_42 _ _ _ _ _ _ hf
    · skip
      refine nw_iconst (pc := 94) (v := 1) h dX5_lays_94 (by decide) ?_
      refine nw_goto (pc := 95) (tgt := 99) h dX5_lays_95 (by decide) ?_
      simp only [if_neg c_91] at hf
      exact hL_99 H_12 hH_12 H_42 hH_42 _ _ _ _ _ _ hf
  have hB_42 : ∀ (H_12 : nw_ST → Int32 → Prop) (hH_12 : (∀ (σ : nw_ST) (x1 : Int32), H_12 σ x1 → nw_G P X 3 σ [(0, .ref (P.2.1 37)), (1, .int x1)] 12 [])) (H_42 : nw_ST → Int32 → Int32 → Prop) (hH_42 : (∀ (σ : nw_ST) (x1 : Int32) (x2 : Int32), H_42 σ x1 x2 → nw_G P X 3 σ [(0, .ref (P.2.1 37)), (1, .int x1), (2, .int x2)] 42 [])), ∀ (σ : nw_ST) (x1 : Int32) (x2 : Int32), b5_lays_42 K H_12 H_42 σ x1 x2 → nw_G P X 3 σ [(0, .ref (P.2.1 37)), (1, .int x1), (2, .int x2)] 42 [] := by
    intro H_12 hH_12 H_42 hH_42 σ x1 x2 hf
    unfold b5_lays_42 at hf
    refine nw_iload_n (pc := 42) h dX5_lays_42 rfl 2 rfl ?_
    refine nw_aload_n (pc := 43) h dX5_lays_43 rfl 0 rfl ?_
    refine gf5_104 (pc := 44) h rfl dX5_lays_44 ?_
    refine nw_icmp_ge (pc := 47) (tgt := 107) h dX5_lays_47 (by decide) (fun c_47 => ?_) (fun c_47 => ?_)
    · have hf := hf.1 c_47
      refine nw_aload_n (pc := 107) h dX5_lays_107 rfl 0 rfl ?_
      refine nw_iload_n (pc := 108) h dX5_lays_108 rfl 1 rfl ?_
      obtain ⟨h_109, hf⟩ := hf
      refine klX5_183 (pc := 109) h (by rw [hR]; decide) h_109 (Nat.le_of_ble_eq_true rfl) dX5_lays_109 ?_
      refine nw_if_eq (pc := 112) (tgt := 162) h dX5_lays_112 (by decide) (fun c_112 => ?_) (fun c_112 => ?_)
      · have hf := hf.1 c_112
        refine nw_sub (lv' := [(0, .ref (P.2.1 37)), (1, .int x1)]) [0, 1] rfl ?_
        exact hL_162 H_12 hH_12 _ _ (hf)
      · have hf := hf.2 c_112
        refine nw_aload_n (pc := 115) h dX5_lays_115 rfl 0 rfl ?_
        refine nw_iload_n (pc := 116) h dX5_lays_116 rfl 1 rfl ?_
        refine klX5_186 (pc := 117) h (by rw [hR]; decide) hf (Nat.le_of_ble_eq_true rfl) dX5_lays_117 (fun r_117 s_117 hf => ?_)
        refine nw_if_ne (pc := 120) (tgt := 162) h dX5_lays_120 (by decide) (fun c_120 => ?_) (fun c_120 => ?_)
        · have hf := hf.2 c_120
          refine nw_sub (lv' := [(0, .ref (P.2.1 37)), (1, .int x1)]) [0, 1] rfl ?_
          exact hL_162 H_12 hH_12 _ _ (hf)
        · have hf := hf.1 c_120
          refine nw_aload_n (pc := 123) h dX5_lays_123 rfl 0 rfl ?_
          refine nw_dup (pc := 124) h dX5_lays_124 rfl ?_
          refine gf5_173 (pc := 125) h rfl dX5_lays_125 ?_
          refine nw_iconst (pc := 128) (v := 1) h dX5_lays_128 (by decide) ?_
          refine nw_iadd (pc := 129) h dX5_lays_129 ?_
          refine pf5_173 (pc := 130) h rfl dX5_lays_130 ?_
          refine nw_aload_n (pc := 133) h dX5_lays_133 rfl 0 rfl ?_
          refine nw_dup (pc := 134) h dX5_lays_134 rfl ?_
          refine gf5_176 (pc := 135) h rfl dX5_lays_135 ?_
          refine nw_iconst (pc := 138) (v := 1) h dX5_lays_138 (by decide) ?_
          refine nw_aload_n (pc := 139) h dX5_lays_139 rfl 0 rfl ?_
          refine nw_aload_n (pc := 140) h dX5_lays_140 rfl 0 rfl ?_
          refine gf5_173 (pc := 141) h rfl dX5_lays_141 ?_
          refine klX5_189 (pc := 144) h (by rw [hR]; decide) hf (Nat.le_of_ble_eq_true rfl) dX5_lays_144 (fun r_144 s_144 hf => ?_)
          refine nw_iadd (pc := 147) h dX5_lays_147 ?_
          refine nw_iadd (pc := 148) h dX5_lays_148 ?_
          refine pf5_176 (pc := 149) h rfl dX5_lays_149 ?_
          refine nw_aload_n (pc := 152) h dX5_lays_152 rfl 0 rfl ?_
          refine gf5_55 (pc := 153) (r := 53) h rfl rfl dX5_lays_153 ?_
          refine nw_iload_n (pc := 156) h dX5_lays_156 rfl 1 rfl ?_
          refine nw_aload_n (pc := 157) h dX5_lays_157 rfl 0 rfl ?_
          refine gf5_176 (pc := 158) h rfl dX5_lays_158 ?_
          obtain ⟨h_161, hf⟩ := hf
          refine nw_iast (pc := 161) (n := 240) h rfl rfl h_161 dX5_lays_161 ?_
          refine nw_sub (lv' := [(0, .ref (P.2.1 37)), (1, .int x1)]) [0, 1] rfl ?_
          exact hL_162 H_12 hH_12 _ _ (hf)
    · have hf := hf.2 c_47
      refine nw_aload_n (pc := 50) h dX5_lays_50 rfl 0 rfl ?_
      refine gf5_49 (pc := 51) (r := 51) h rfl rfl dX5_lays_51 ?_
      refine nw_iload_n (pc := 54) h dX5_lays_54 rfl 1 rfl ?_
      refine nw_dup2 (pc := 55) h dX5_lays_55 rfl rfl ?_
      obtain ⟨h_56, hf⟩ := hf
      refine nw_iald (pc := 56) (n := 240) h rfl rfl h_56 dX5_lays_56 ?_
      refine nw_aload_n (pc := 57) h dX5_lays_57 rfl 0 rfl ?_
      refine nw_iload_n (pc := 58) h dX5_lays_58 rfl 2 rfl ?_
      refine nw_iload_n (pc := 59) h dX5_lays_59 rfl 1 rfl ?_
      obtain ⟨h_60, hf⟩ := hf
      refine klX5_179 (pc := 60) h (by rw [hR]; decide) h_60 (Nat.le_of_ble_eq_true rfl) dX5_lays_60 ?_
      obtain ⟨ho, hf⟩ := hf
      refine nw_if_eq (pc := 63) (tgt := 75) h dX5_lays_63 (by decide) (fun c_63 => ?_) (fun c_63 => ?_)
      · skip
        have ho := ho.1 c_63
        refine nw_iconst (pc := 75) (v := 0) h dX5_lays_75 (by decide) ?_
        simp only [if_pos c_63] at hf
        exact hL_76 H_12 hH_12 H_42 hH_42 _ _ _ _ _ _ hf
      · skip
        have ho := ho.2 c_63
        refine nw_aload_n (pc := 66) h dX5_lays_66 rfl 0 rfl ?_
        refine gf5_16 (pc := 67) (r := 40) h rfl rfl dX5_lays_67 ?_
        refine nw_iload_n (pc := 70) h dX5_lays_70 rfl 2 rfl ?_
        have h_71 := ho
        refine nw_iald (pc := 71) (n := 7) h rfl rfl h_71 dX5_lays_71 ?_
        refine nw_goto (pc := 72) (tgt := 76) h dX5_lays_72 (by decide) ?_
        simp only [if_neg c_63] at hf
        exact hL_76 H_12 hH_12 H_42 hH_42 _ _ _ _ _ _ hf
  have hL_42 : ∀ (H_12 : nw_ST → Int32 → Prop) (hH_12 : (∀ (σ : nw_ST) (x1 : Int32), H_12 σ x1 → nw_G P X 3 σ [(0, .ref (P.2.1 37)), (1, .int x1)] 12 [])), ∀ (n : Nat) (σ : nw_ST) (x1 : Int32) (x2 : Int32), f5_lays_42 K H_12 n σ x1 x2 → nw_G P X 3 σ [(0, .ref (P.2.1 37)), (1, .int x1), (2, .int x2)] 42 [] := by
    intro H_12 hH_12 n
    induction n with
    | zero => intro σ x1 x2 hf; exact False.elim hf
    | succ n ih => exact hB_42 H_12 hH_12 _ ih
  have hB_12 : ∀ (H_12 : nw_ST → Int32 → Prop) (hH_12 : (∀ (σ : nw_ST) (x1 : Int32), H_12 σ x1 → nw_G P X 3 σ [(0, .ref (P.2.1 37)), (1, .int x1)] 12 [])), ∀ (σ : nw_ST) (x1 : Int32), b5_lays_12 K H_12 σ x1 → nw_G P X 3 σ [(0, .ref (P.2.1 37)), (1, .int x1)] 12 [] := by
    intro H_12 hH_12 σ x1 hf
    unfold b5_lays_12 at hf
    refine nw_iload_n (pc := 12) h dX5_lays_12 rfl 1 rfl ?_
    refine nw_sipush (pc := 13) (v := 240) h dX5_lays_13 (by decide) ?_
    refine nw_icmp_ge (pc := 16) (tgt := 168) h dX5_lays_16 (by decide) (fun c_16 => ?_) (fun c_16 => ?_)
    · have hf := hf.1 c_16
      exact nw_vret (pc := 168) h he dX5_lays_168 ⟨rfl, hf⟩
    · have hf := hf.2 c_16
      refine nw_aload_n (pc := 19) h dX5_lays_19 rfl 0 rfl ?_
      refine gf5_49 (pc := 20) (r := 51) h rfl rfl dX5_lays_20 ?_
      refine nw_iload_n (pc := 23) h dX5_lays_23 rfl 1 rfl ?_
      refine nw_iconst (pc := 24) (v := 0) h dX5_lays_24 (by decide) ?_
      obtain ⟨h_25, hf⟩ := hf
      refine nw_iast (pc := 25) (n := 240) h rfl rfl h_25 dX5_lays_25 ?_
      refine nw_aload_n (pc := 26) h dX5_lays_26 rfl 0 rfl ?_
      refine gf5_52 (pc := 27) (r := 52) h rfl rfl dX5_lays_27 ?_
      refine nw_iload_n (pc := 30) h dX5_lays_30 rfl 1 rfl ?_
      refine nw_iconst (pc := 31) (v := 0) h dX5_lays_31 (by decide) ?_
      obtain ⟨h_32, hf⟩ := hf
      refine nw_iast (pc := 32) (n := 240) h rfl rfl h_32 dX5_lays_32 ?_
      refine nw_aload_n (pc := 33) h dX5_lays_33 rfl 0 rfl ?_
      refine gf5_55 (pc := 34) (r := 53) h rfl rfl dX5_lays_34 ?_
      refine nw_iload_n (pc := 37) h dX5_lays_37 rfl 1 rfl ?_
      refine nw_iconst (pc := 38) (v := 0) h dX5_lays_38 (by decide) ?_
      obtain ⟨h_39, hf⟩ := hf
      refine nw_iast (pc := 39) (n := 240) h rfl rfl h_39 dX5_lays_39 ?_
      refine nw_iconst (pc := 40) (v := 0) h dX5_lays_40 (by decide) ?_
      refine nw_istore_n (pc := 41) (lv' := [(2, .int (0 : Int32)), (0, .ref (P.2.1 37)), (1, .int x1)]) h dX5_lays_41 rfl (by decide) rfl ?_
      obtain ⟨n_42, hf⟩ := hf
      refine nw_sub (lv' := [(0, .ref (P.2.1 37)), (1, .int x1), (2, .int (0 : Int32))]) [1, 2, 0] rfl ?_
      exact hL_42 H_12 hH_12 n_42 _ _ _ hf
  have hL_12 :  ∀ (n : Nat) (σ : nw_ST) (x1 : Int32), f5_lays_12 K n σ x1 → nw_G P X 3 σ [(0, .ref (P.2.1 37)), (1, .int x1)] 12 [] := by
    intro n
    induction n with
    | zero => intro σ x1 hf; exact False.elim hf
    | succ n ih => exact hB_12 _ ih
  unfold f5_lays at hf
  refine nw_aload_n (pc := 0) h dX5_lays_0 rfl 0 rfl ?_
  refine nw_iconst (pc := 1) (v := 0) h dX5_lays_1 (by decide) ?_
  refine pf5_173 (pc := 2) h rfl dX5_lays_2 ?_
  refine nw_aload_n (pc := 5) h dX5_lays_5 rfl 0 rfl ?_
  refine nw_iconst (pc := 6) (v := 0) h dX5_lays_6 (by decide) ?_
  refine pf5_176 (pc := 7) h rfl dX5_lays_7 ?_
  refine nw_iconst (pc := 10) (v := 0) h dX5_lays_10 (by decide) ?_
  refine nw_istore_n (pc := 11) (lv' := [(1, .int (0 : Int32)), (0, .ref (P.2.1 37))]) h dX5_lays_11 rfl (by decide) rfl ?_
  obtain ⟨n_12, hf⟩ := hf
  refine nw_sub (lv' := [(0, .ref (P.2.1 37)), (1, .int (0 : Int32))]) [1, 0] rfl ?_
  exact hL_12 n_12 _ _ hf
theorem klX5_192 {P : nw_PT} {X : nw_EX} {cc : ByteArray} {nL : Nat} {σ : nw_ST} {lv : List (Nat × Value)} {pc : Nat} {rest : List Value}  (h : nw_ok P X cc RX5 nL) (hR : rm5_asTold.frames + 1 ≤ X.2.2.2.1.frames ∧ 8 + (1 + 11) + rm5_asTold.locals ≤ X.2.2.2.1.locals)  {K : nw_ST → Prop} (hf : f5_asTold K σ) (hst : (rest.map fun v => v.category).sum ≤ 8) (hd : decode cc pc = .ok (.invokevirtual 192, 3)) (k : ∀ (s2 : nw_ST), K s2 → nw_G P X nL s2 lv (pc + 3) rest) : nw_G P X nL σ lv pc (.ref (P.2.1 37) :: rest) :=
  nw_callV (As := []) (rest := rest) (C := RX5) (ci := 5) h (ct5_asTold _ P h.2.2 σ  K hf) (nw_goodV nw_w451 nw_w452 nw_w453 nw_w342 nw_w454) yd5_asTold rfl hR ⟨rfl, rfl⟩ rfl (by decide) rfl rfl hst rfl hd (fun v s2 z => by obtain ⟨rfl, z⟩ := z; exact k s2 z)
theorem klX5_195 {P : nw_PT} {X : nw_EX} {cc : ByteArray} {nL : Nat} {σ : nw_ST} {lv : List (Nat × Value)} {pc : Nat} {rest : List Value}  (h : nw_ok P X cc RX5 nL) (hR : rm5_lays.frames + 1 ≤ X.2.2.2.1.frames ∧ 8 + (3 + 11) + rm5_lays.locals ≤ X.2.2.2.1.locals)  {K : nw_ST → Prop} (hf : f5_lays K σ) (hst : (rest.map fun v => v.category).sum ≤ 8) (hd : decode cc pc = .ok (.invokevirtual 195, 3)) (k : ∀ (s2 : nw_ST), K s2 → nw_G P X nL s2 lv (pc + 3) rest) : nw_G P X nL σ lv pc (.ref (P.2.1 37) :: rest) :=
  nw_callV (As := []) (rest := rest) (C := RX5) (ci := 5) h (ct5_lays _ P h.2.2 σ  K hf) (nw_goodV nw_w455 nw_w456 nw_w457 nw_w342 nw_w458) yd5_lays rfl hR ⟨rfl, rfl⟩ rfl (by decide) rfl rfl hst rfl hd (fun v s2 z => by obtain ⟨rfl, z⟩ := z; exact k s2 z)
def f5_laysTold (K : nw_ST → Prop) (σ : nw_ST)  : Prop := (f5_reads (fun (s_1 : nw_ST) => (f5_asTold (fun (s_5 : nw_ST) => (f5_lays (fun (s_9 : nw_ST) => (K s_9)) s_5)) s_1)) σ)
def rm5_laysTold : Room := { frames := 7, cells := 0, slots := 0, locals := 160 }
theorem yd5_laysTold : yX5_laysTold.cls = RX5 ∧ yX5_laysTold.cls ≠ "java/lang/invoke/MethodHandle" ∧ yX5_laysTold.cls ≠ "java/lang/invoke/VarHandle" ∧ (parseMethodDescriptor yX5_laysTold.desc).map (fun d => d.parameters.length) = some 0 := by decide +kernel
set_option maxHeartbeats 4000000 in
set_option maxRecDepth 100000 in
theorem ct5_laysTold (l : Launch) (P : nw_PT) (hD : nw_D P) (σ : nw_ST)   (K : nw_ST → Prop) (hf : f5_laysTold K σ ) : nw_MT l yX5_laysTold cX5_laysTold 1 none rm5_laysTold P [.ref (P.2.1 37)] σ (nw_Kv K) := by
  refine nw_enter (by decide) (by first | decide | exact Nat.le_of_ble_eq_true rfl) hD ?_
  intro X hl h he hR
  subst hl
  have h : nw_ok P X cX5_laysTold RX5 1 := h
  show nw_G P X 1 σ [(0, .ref (P.2.1 37))] 0 []
  unfold f5_laysTold at hf
  refine nw_aload_n (pc := 0) h dX5_laysTold_0 rfl 0 rfl ?_
  refine klX5_122 (pc := 1) h (by rw [hR]; decide) hf (Nat.le_of_ble_eq_true rfl) dX5_laysTold_1 (fun s_1 hf => ?_)
  refine nw_aload_n (pc := 4) h dX5_laysTold_4 rfl 0 rfl ?_
  refine klX5_192 (pc := 5) h (by rw [hR]; decide) hf (Nat.le_of_ble_eq_true rfl) dX5_laysTold_5 (fun s_5 hf => ?_)
  refine nw_aload_n (pc := 8) h dX5_laysTold_8 rfl 0 rfl ?_
  refine klX5_195 (pc := 9) h (by rw [hR]; decide) hf (Nat.le_of_ble_eq_true rfl) dX5_laysTold_9 (fun s_9 hf => ?_)
  exact nw_vret (pc := 12) h he dX5_laysTold_12 ⟨rfl, hf⟩
theorem klX5_198 {P : nw_PT} {X : nw_EX} {cc : ByteArray} {nL : Nat} {σ : nw_ST} {lv : List (Nat × Value)} {pc : Nat} {rest : List Value}  (h : nw_ok P X cc RX5 nL) (hR : rm5_laysTold.frames + 1 ≤ X.2.2.2.1.frames ∧ 8 + (1 + 11) + rm5_laysTold.locals ≤ X.2.2.2.1.locals)  {K : nw_ST → Prop} (hf : f5_laysTold K σ) (hst : (rest.map fun v => v.category).sum ≤ 8) (hd : decode cc pc = .ok (.invokevirtual 198, 3)) (k : ∀ (s2 : nw_ST), K s2 → nw_G P X nL s2 lv (pc + 3) rest) : nw_G P X nL σ lv pc (.ref (P.2.1 37) :: rest) :=
  nw_callV (As := []) (rest := rest) (C := RX5) (ci := 5) h (ct5_laysTold _ P h.2.2 σ  K hf) (nw_goodV nw_w459 nw_w460 nw_w461 nw_w342 nw_w462) yd5_laysTold rfl hR ⟨rfl, rfl⟩ rfl (by decide) rfl rfl hst rfl hd (fun v s2 z => by obtain ⟨rfl, z⟩ := z; exact k s2 z)
def f5_highOf (K : Int32 → nw_ST → Prop) (σ : nw_ST) (a1 : Int32) : Prop := (f5_laysTold (fun (s_1 : nw_ST) => ((vp_in a1 240) ∧ (K (nw_gA s_1 51 a1.toNatClampNeg) s_1))) σ)
def rm5_highOf : Room := { frames := 8, cells := 0, slots := 0, locals := 180 }
theorem yd5_highOf : yX5_highOf.cls = RX5 ∧ yX5_highOf.cls ≠ "java/lang/invoke/MethodHandle" ∧ yX5_highOf.cls ≠ "java/lang/invoke/VarHandle" ∧ (parseMethodDescriptor yX5_highOf.desc).map (fun d => d.parameters.length) = some 1 := by decide +kernel
set_option maxHeartbeats 4000000 in
set_option maxRecDepth 100000 in
theorem ct5_highOf (l : Launch) (P : nw_PT) (hD : nw_D P) (σ : nw_ST) (a1 : Int32)  (K : Int32 → nw_ST → Prop) (hf : f5_highOf K σ a1) : nw_MT l yX5_highOf cX5_highOf 2 (some .int) rm5_highOf P [.ref (P.2.1 37), .int a1] σ (nw_Ki K) := by
  refine nw_enter (by decide) (by first | decide | exact Nat.le_of_ble_eq_true rfl) hD ?_
  intro X hl h he hR
  subst hl
  have h : nw_ok P X cX5_highOf RX5 2 := h
  show nw_G P X 2 σ [(0, .ref (P.2.1 37)), (1, .int a1)] 0 []
  unfold f5_highOf at hf
  refine nw_aload_n (pc := 0) h dX5_highOf_0 rfl 0 rfl ?_
  refine klX5_198 (pc := 1) h (by rw [hR]; decide) hf (Nat.le_of_ble_eq_true rfl) dX5_highOf_1 (fun s_1 hf => ?_)
  refine nw_aload_n (pc := 4) h dX5_highOf_4 rfl 0 rfl ?_
  refine gf5_49 (pc := 5) (r := 51) h rfl rfl dX5_highOf_5 ?_
  refine nw_iload_n (pc := 8) h dX5_highOf_8 rfl 1 rfl ?_
  obtain ⟨h_9, hf⟩ := hf
  refine nw_iald (pc := 9) (n := 240) h rfl rfl h_9 dX5_highOf_9 ?_
  exact nw_iret (pc := 10) h he dX5_highOf_10 ⟨_, rfl, hf⟩
theorem klX5_201 {P : nw_PT} {X : nw_EX} {cc : ByteArray} {nL : Nat} {σ : nw_ST} {lv : List (Nat × Value)} {pc : Nat} {rest : List Value} {a1 : Int32} (h : nw_ok P X cc RX5 nL) (hR : rm5_highOf.frames + 1 ≤ X.2.2.2.1.frames ∧ 8 + (2 + 11) + rm5_highOf.locals ≤ X.2.2.2.1.locals)  {K : Int32 → nw_ST → Prop} (hf : f5_highOf K σ a1) (hst : (rest.map fun v => v.category).sum ≤ 8) (hd : decode cc pc = .ok (.invokevirtual 201, 3)) (k : ∀ (r : Int32) (s2 : nw_ST), K r s2 → nw_G P X nL s2 lv (pc + 3) (.int r :: rest)) : nw_G P X nL σ lv pc (.int a1 :: .ref (P.2.1 37) :: rest) :=
  nw_callV (As := [.int a1]) (rest := rest) (C := RX5) (ci := 5) h (ct5_highOf _ P h.2.2 σ a1 K hf) (nw_goodV nw_w463 nw_w464 nw_w465 nw_w342 nw_w466) yd5_highOf rfl hR ⟨rfl, rfl⟩ rfl (by decide) rfl rfl hst rfl hd (fun v s2 z => by obtain ⟨r, rfl, z⟩ := z; exact k r s2 z)
def f5_high_17 (K : Int32 → nw_ST → Prop) (σ : nw_ST) (y0 : Int32) : Prop := (K y0 σ)
def f5_high (K : Int32 → nw_ST → Prop) (σ : nw_ST) (a1 : Int32) : Prop := ((((v5_isTime a1) = 0) → (f5_high_17 K σ (-2 : Int32))) ∧ (¬ ((v5_isTime a1) = 0) → (f5_highOf (fun (r_9 : Int32) (s_9 : nw_ST) => (f5_high_17 K s_9 r_9)) σ a1)))
def rm5_high : Room := { frames := 9, cells := 0, slots := 0, locals := 201 }
theorem yd5_high : yX5_high.cls = RX5 ∧ yX5_high.cls ≠ "java/lang/invoke/MethodHandle" ∧ yX5_high.cls ≠ "java/lang/invoke/VarHandle" ∧ (parseMethodDescriptor yX5_high.desc).map (fun d => d.parameters.length) = some 1 := by decide +kernel
set_option maxHeartbeats 4000000 in
set_option maxRecDepth 100000 in
theorem ct5_high (l : Launch) (P : nw_PT) (hD : nw_D P) (σ : nw_ST) (a1 : Int32)  (K : Int32 → nw_ST → Prop) (hf : f5_high K σ a1) : nw_MT l yX5_high cX5_high 2 (some .int) rm5_high P [.ref (P.2.1 37), .int a1] σ (nw_Ki K) := by
  refine nw_enter (by decide) (by first | decide | exact Nat.le_of_ble_eq_true rfl) hD ?_
  intro X hl h he hR
  subst hl
  have h : nw_ok P X cX5_high RX5 2 := h
  show nw_G P X 2 σ [(0, .ref (P.2.1 37)), (1, .int a1)] 0 []
  have hL_17 :  ∀ (σ : nw_ST) (y0 : Int32), f5_high_17 K σ y0 → nw_G P X 2 σ [] 17 [.int y0] := by
    intro σ y0 hf
    unfold f5_high_17 at hf
    exact nw_iret (pc := 17) h he dX5_high_17 ⟨_, rfl, hf⟩
  unfold f5_high at hf
  refine nw_iload_n (pc := 0) h dX5_high_0 rfl 1 rfl ?_
  refine klX5_143 (pc := 1) h (by rw [hR]; decide) (Nat.le_of_ble_eq_true rfl) dX5_high_1 ?_
  refine nw_if_eq (pc := 4) (tgt := 15) h dX5_high_4 (by decide) (fun c_4 => ?_) (fun c_4 => ?_)
  · have hf := hf.1 c_4
    refine nw_bipush (pc := 15) (v := -2) h dX5_high_15 (by decide) ?_
    refine nw_sub (lv' := []) [] rfl ?_
    exact hL_17 _ _ (hf)
  · have hf := hf.2 c_4
    refine nw_aload_n (pc := 7) h dX5_high_7 rfl 0 rfl ?_
    refine nw_iload_n (pc := 8) h dX5_high_8 rfl 1 rfl ?_
    refine klX5_201 (pc := 9) h (by rw [hR]; decide) hf (Nat.le_of_ble_eq_true rfl) dX5_high_9 (fun r_9 s_9 hf => ?_)
    refine nw_goto (pc := 12) (tgt := 17) h dX5_high_12 (by decide) ?_
    refine nw_sub (lv' := []) [] rfl ?_
    exact hL_17 _ _ (hf)
