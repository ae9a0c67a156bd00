def f5_waveOf_53 (K : Int32 → nw_ST → Prop) (σ : nw_ST) (y0 : Int32) : Prop := (K y0 σ)
def f5_waveOf (K : Int32 → nw_ST → Prop) (σ : nw_ST) (a1 : Int32) (a2 : Int32) : Prop := (f5_laysTold (fun (s_1 : nw_ST) => ((((a2 = 0) → (o5_breaks s_1 a1)) ∧ (¬ (a2 = 0) → (((a2 = (1 : Int32)) → (vp_in a1 240)) ∧ (¬ (a2 = (1 : Int32)) → (vp_in a1 240))))) ∧ (f5_waveOf_53 K s_1 (if (a2 = 0) then (if ((v5_breaks s_1 a1) = 0) then (0 : Int32) else (1 : Int32)) else (if (a2 = (1 : Int32)) then (nw_gA s_1 53 a1.toNatClampNeg) else (if ((nw_gA s_1 52 a1.toNatClampNeg) ≤ (1 : Int32)) then (0 : Int32) else (1 : Int32))))))) σ)
def rm5_waveOf : Room := { frames := 8, cells := 0, slots := 0, locals := 180 }
theorem yd5_waveOf : yX5_waveOf.cls = RX5 ∧ yX5_waveOf.cls ≠ "java/lang/invoke/MethodHandle" ∧ yX5_waveOf.cls ≠ "java/lang/invoke/VarHandle" ∧ (parseMethodDescriptor yX5_waveOf.desc).map (fun d => d.parameters.length) = some 2 := by decide +kernel
set_option maxHeartbeats 4000000 in
set_option maxRecDepth 100000 in
theorem ct5_waveOf (l : Launch) (P : nw_PT) (hD : nw_D P) (σ : nw_ST) (a1 : Int32) (a2 : Int32)  (K : Int32 → nw_ST → Prop) (hf : f5_waveOf K σ a1 a2) : nw_MT l yX5_waveOf cX5_waveOf 3 (some .int) rm5_waveOf P [.ref (P.2.1 37), .int a1, .int a2] σ (nw_Ki K) := by
  refine nw_enter (by decide) (by first | decide | exact Nat.le_of_ble_eq_true rfl) hD ?_
  intro X hl h he hR
  subst hl
  have h : nw_ok P X cX5_waveOf RX5 3 := h
  show nw_G P X 3 σ [(0, .ref (P.2.1 37)), (1, .int a1), (2, .int a2)] 0 []
  have hL_53 :  ∀ (σ : nw_ST) (y0 : Int32), f5_waveOf_53 K σ y0 → nw_G P X 3 σ [] 53 [.int y0] := by
    intro σ y0 hf
    unfold f5_waveOf_53 at hf
    exact nw_iret (pc := 53) h he dX5_waveOf_53 ⟨_, rfl, hf⟩
  unfold f5_waveOf at hf
  refine nw_aload_n (pc := 0) h dX5_waveOf_0 rfl 0 rfl ?_
  refine klX5_198 (pc := 1) h (by rw [hR]; decide) hf (Nat.le_of_ble_eq_true rfl) dX5_waveOf_1 (fun s_1 hf => ?_)
  refine nw_iload_n (pc := 4) h dX5_waveOf_4 rfl 2 rfl ?_
  obtain ⟨ho, hf⟩ := hf
  refine nw_if_ne (pc := 5) (tgt := 24) h dX5_waveOf_5 (by decide) (fun c_5 => ?_) (fun c_5 => ?_)
  · skip
    have ho := ho.2 c_5
    refine nw_iload_n (pc := 24) h dX5_waveOf_24 rfl 2 rfl ?_
    refine nw_iconst (pc := 25) (v := 1) h dX5_waveOf_25 (by decide) ?_
    refine nw_icmp_ne (pc := 26) (tgt := 38) h dX5_waveOf_26 (by decide) (fun c_26 => ?_) (fun c_26 => ?_)
    · skip
      have ho := ho.2 c_26
      refine nw_aload_n (pc := 38) h dX5_waveOf_38 rfl 0 rfl ?_
      refine gf5_52 (pc := 39) (r := 52) h rfl rfl dX5_waveOf_39 ?_
      refine nw_iload_n (pc := 42) h dX5_waveOf_42 rfl 1 rfl ?_
      have h_43 := ho
      refine nw_iald (pc := 43) (n := 240) h rfl rfl h_43 dX5_waveOf_43 ?_
      refine nw_iconst (pc := 44) (v := 1) h dX5_waveOf_44 (by decide) ?_
      refine nw_icmp_le (pc := 45) (tgt := 52) h dX5_waveOf_45 (by decide) (fun c_45 => ?_) (fun c_45 => ?_)
      · skip
        refine nw_iconst (pc := 52) (v := 0) h dX5_waveOf_52 (by decide) ?_
        simp only [if_neg c_5, if_neg c_26, if_pos c_45] at hf
        refine nw_sub (lv' := []) [] rfl ?_
        exact hL_53 _ _ hf
      · skip
        refine nw_iconst (pc := 48) (v := 1) h dX5_waveOf_48 (by decide) ?_
        refine nw_goto (pc := 49) (tgt := 53) h dX5_waveOf_49 (by decide) ?_
        simp only [if_neg c_5, if_neg c_26, if_neg c_45] at hf
        refine nw_sub (lv' := []) [] rfl ?_
        exact hL_53 _ _ hf
    · skip
      have ho := ho.1 c_26
      refine nw_aload_n (pc := 29) h dX5_waveOf_29 rfl 0 rfl ?_
      refine gf5_55 (pc := 30) (r := 53) h rfl rfl dX5_waveOf_30 ?_
      refine nw_iload_n (pc := 33) h dX5_waveOf_33 rfl 1 rfl ?_
      have h_34 := ho
      refine nw_iald (pc := 34) (n := 240) h rfl rfl h_34 dX5_waveOf_34 ?_
      refine nw_goto (pc := 35) (tgt := 53) h dX5_waveOf_35 (by decide) ?_
      simp only [if_neg c_5, if_pos c_26] at hf
      refine nw_sub (lv' := []) [] rfl ?_
      exact hL_53 _ _ hf
  · skip
    have ho := ho.1 c_5
    refine nw_aload_n (pc := 8) h dX5_waveOf_8 rfl 0 rfl ?_
    refine nw_iload_n (pc := 9) h dX5_waveOf_9 rfl 1 rfl ?_
    have h_10 := ho
    refine klX5_183 (pc := 10) h (by rw [hR]; decide) h_10 (Nat.le_of_ble_eq_true rfl) dX5_waveOf_10 ?_
    refine nw_if_eq (pc := 13) (tgt := 20) h dX5_waveOf_13 (by decide) (fun c_13 => ?_) (fun c_13 => ?_)
    · skip
      refine nw_iconst (pc := 20) (v := 0) h dX5_waveOf_20 (by decide) ?_
      refine nw_goto (pc := 21) (tgt := 53) h dX5_waveOf_21 (by decide) ?_
      simp only [if_pos c_5, if_pos c_13] at hf
      refine nw_sub (lv' := []) [] rfl ?_
      exact hL_53 _ _ hf
    · skip
      refine nw_iconst (pc := 16) (v := 1) h dX5_waveOf_16 (by decide) ?_
      refine nw_goto (pc := 17) (tgt := 53) h dX5_waveOf_17 (by decide) ?_
      simp only [if_pos c_5, if_neg c_13] at hf
      refine nw_sub (lv' := []) [] rfl ?_
      exact hL_53 _ _ hf
theorem klX5_204 {P : nw_PT} {X : nw_EX} {cc : ByteArray} {nL : Nat} {σ : nw_ST} {lv : List (Nat × Value)} {pc : Nat} {rest : List Value} {a1 : Int32} {a2 : Int32} (h : nw_ok P X cc RX5 nL) (hR : rm5_waveOf.frames + 1 ≤ X.2.2.2.1.frames ∧ 8 + (3 + 11) + rm5_waveOf.locals ≤ X.2.2.2.1.locals)  {K : Int32 → nw_ST → Prop} (hf : f5_waveOf K σ a1 a2) (hst : (rest.map fun v => v.category).sum ≤ 8) (hd : decode cc pc = .ok (.invokevirtual 204, 3)) (k : ∀ (r : Int32) (s2 : nw_ST), K r s2 → nw_G P X nL s2 lv (pc + 3) (.int r :: rest)) : nw_G P X nL σ lv pc (.int a2 :: .int a1 :: .ref (P.2.1 37) :: rest) :=
  nw_callV (As := [.int a1, .int a2]) (rest := rest) (C := RX5) (ci := 5) h (ct5_waveOf _ P h.2.2 σ a1 a2 K hf) (nw_goodV nw_w467 nw_w468 nw_w469 nw_w342 nw_w470) yd5_waveOf rfl hR ⟨rfl, rfl⟩ rfl (by decide) rfl rfl hst rfl hd (fun v s2 z => by obtain ⟨r, rfl, z⟩ := z; exact k r s2 z)
def f5_wave_27 (K : Int32 → nw_ST → Prop) (σ : nw_ST) (y0 : Int32) : Prop := (K y0 σ)
def f5_wave_25 (K : Int32 → nw_ST → Prop) (σ : nw_ST) : Prop := (f5_wave_27 K σ (-2 : Int32))
def f5_wave (K : Int32 → nw_ST → Prop) (σ : nw_ST) (a1 : Int32) (a2 : Int32) : Prop := ((((v5_isTime a1) = 0) → (f5_wave_25 K σ)) ∧ (¬ ((v5_isTime a1) = 0) → ((((v5_in a2 (0 : Int32) (2 : Int32)) = 0) → (f5_wave_25 K σ)) ∧ (¬ ((v5_in a2 (0 : Int32) (2 : Int32)) = 0) → (f5_waveOf (fun (r_19 : Int32) (s_19 : nw_ST) => (f5_wave_27 K s_19 r_19)) σ a1 a2)))))
def rm5_wave : Room := { frames := 9, cells := 0, slots := 0, locals := 202 }
theorem yd5_wave : yX5_wave.cls = RX5 ∧ yX5_wave.cls ≠ "java/lang/invoke/MethodHandle" ∧ yX5_wave.cls ≠ "java/lang/invoke/VarHandle" ∧ (parseMethodDescriptor yX5_wave.desc).map (fun d => d.parameters.length) = some 2 := by decide +kernel
set_option maxHeartbeats 4000000 in
set_option maxRecDepth 100000 in
theorem ct5_wave (l : Launch) (P : nw_PT) (hD : nw_D P) (σ : nw_ST) (a1 : Int32) (a2 : Int32)  (K : Int32 → nw_ST → Prop) (hf : f5_wave K σ a1 a2) : nw_MT l yX5_wave cX5_wave 3 (some .int) rm5_wave P [.ref (P.2.1 37), .int a1, .int a2] σ (nw_Ki K) := by
  refine nw_enter (by decide) (by first | decide | exact Nat.le_of_ble_eq_true rfl) hD ?_
  intro X hl h he hR
  subst hl
  have h : nw_ok P X cX5_wave RX5 3 := h
  show nw_G P X 3 σ [(0, .ref (P.2.1 37)), (1, .int a1), (2, .int a2)] 0 []
  have hL_27 :  ∀ (σ : nw_ST) (y0 : Int32), f5_wave_27 K σ y0 → nw_G P X 3 σ [] 27 [.int y0] := by
    intro σ y0 hf
    unfold f5_wave_27 at hf
    exact nw_iret (pc := 27) h he dX5_wave_27 ⟨_, rfl, hf⟩
  have hL_25 :  ∀ (σ : nw_ST), f5_wave_25 K σ → nw_G P X 3 σ [] 25 [] := by
    intro σ hf
    unfold f5_wave_25 at hf
    refine nw_bipush (pc := 25) (v := -2) h dX5_wave_25 (by decide) ?_
    exact hL_27 _ _ (hf)
  unfold f5_wave at hf
  refine nw_iload_n (pc := 0) h dX5_wave_0 rfl 1 rfl ?_
  refine klX5_143 (pc := 1) h (by rw [hR]; decide) (Nat.le_of_ble_eq_true rfl) dX5_wave_1 ?_
  refine nw_if_eq (pc := 4) (tgt := 25) h dX5_wave_4 (by decide) (fun c_4 => ?_) (fun c_4 => ?_)
  · have hf := hf.1 c_4
    refine nw_sub (lv' := []) [] rfl ?_
    exact hL_25 _ (hf)
  · have hf := hf.2 c_4
    refine nw_iload_n (pc := 7) h dX5_wave_7 rfl 2 rfl ?_
    refine nw_iconst (pc := 8) (v := 0) h dX5_wave_8 (by decide) ?_
    refine nw_iconst (pc := 9) (v := 2) h dX5_wave_9 (by decide) ?_
    refine klX5_89 (pc := 10) h (by rw [hR]; decide) (Nat.le_of_ble_eq_true rfl) dX5_wave_10 ?_
    refine nw_if_eq (pc := 13) (tgt := 25) h dX5_wave_13 (by decide) (fun c_13 => ?_) (fun c_13 => ?_)
    · have hf := hf.1 c_13
      refine nw_sub (lv' := []) [] rfl ?_
      exact hL_25 _ (hf)
    · have hf := hf.2 c_13
      refine nw_aload_n (pc := 16) h dX5_wave_16 rfl 0 rfl ?_
      refine nw_iload_n (pc := 17) h dX5_wave_17 rfl 1 rfl ?_
      refine nw_iload_n (pc := 18) h dX5_wave_18 rfl 2 rfl ?_
      refine klX5_204 (pc := 19) h (by rw [hR]; decide) hf (Nat.le_of_ble_eq_true rfl) dX5_wave_19 (fun r_19 s_19 hf => ?_)
      refine nw_goto (pc := 22) (tgt := 27) h dX5_wave_22 (by decide) ?_
      refine nw_sub (lv' := []) [] rfl ?_
      exact hL_27 _ _ (hf)
def b5_timeOf_2 (K : Int32 → nw_ST → Prop) (H_2 : nw_ST → Int32 → Int32 → Prop) (σ : nw_ST) (x1 : Int32) (x2 : Int32) : Prop := ((((240 : Int32) ≤ x2) → (K (-1 : Int32) σ)) ∧ (¬ ((240 : Int32) ≤ x2) → ((vp_in x2 240) ∧ ((((nw_gA σ 53 x2.toNatClampNeg) = x1) → (K x2 σ)) ∧ (¬ ((nw_gA σ 53 x2.toNatClampNeg) = x1) → (H_2 σ x1 (x2 + (1 : Int32))))))))
def f5_timeOf_2 (K : Int32 → nw_ST → Prop) : Nat → nw_ST → Int32 → Int32 → Prop
  | 0 => fun _ _ _ => False
  | n + 1 => b5_timeOf_2 K (f5_timeOf_2 K n)
def f5_timeOf (K : Int32 → nw_ST → Prop) (σ : nw_ST) (a1 : Int32) : Prop := (∃ n, f5_timeOf_2 K n σ a1 (0 : Int32))
def rm5_timeOf : Room := { frames := 0, cells := 0, slots := 0, locals := 0 }
theorem yd5_timeOf : yX5_timeOf.cls = RX5 ∧ yX5_timeOf.cls ≠ "java/lang/invoke/MethodHandle" ∧ yX5_timeOf.cls ≠ "java/lang/invoke/VarHandle" ∧ (parseMethodDescriptor yX5_timeOf.desc).map (fun d => d.parameters.length) = some 1 := by decide +kernel
set_option maxHeartbeats 4000000 in
set_option maxRecDepth 100000 in
theorem ct5_timeOf (l : Launch) (P : nw_PT) (hD : nw_D P) (σ : nw_ST) (a1 : Int32)  (K : Int32 → nw_ST → Prop) (hf : f5_timeOf K σ a1) : nw_MT l yX5_timeOf cX5_timeOf 3 (some .int) rm5_timeOf P [.ref (P.2.1 37), .int a1] σ (nw_Ki K) := by
  refine nw_enter (by decide) (by first | decide | exact Nat.le_of_ble_eq_true rfl) hD ?_
  intro X hl h he hR
  subst hl
  have h : nw_ok P X cX5_timeOf RX5 3 := h
  show nw_G P X 3 σ [(0, .ref (P.2.1 37)), (1, .int a1)] 0 []
  have hB_2 : ∀ (H_2 : nw_ST → Int32 → Int32 → Prop) (hH_2 : (∀ (σ : nw_ST) (x1 : Int32) (x2 : Int32), H_2 σ x1 x2 → nw_G P X 3 σ [(0, .ref (P.2.1 37)), (1, .int x1), (2, .int x2)] 2 [])), ∀ (σ : nw_ST) (x1 : Int32) (x2 : Int32), b5_timeOf_2 K H_2 σ x1 x2 → nw_G P X 3 σ [(0, .ref (P.2.1 37)), (1, .int x1), (2, .int x2)] 2 [] := by
    intro H_2 hH_2 σ x1 x2 hf
    unfold b5_timeOf_2 at hf
    refine nw_iload_n (pc := 2) h dX5_timeOf_2 rfl 2 rfl ?_
    refine nw_sipush (pc := 3) (v := 240) h dX5_timeOf_3 (by decide) ?_
    refine nw_icmp_ge (pc := 6) (tgt := 27) h dX5_timeOf_6 (by decide) (fun c_6 => ?_) (fun c_6 => ?_)
    · have hf := hf.1 c_6
      refine nw_iconst (pc := 27) (v := -1) h dX5_timeOf_27 (by decide) ?_
      exact nw_iret (pc := 28) h he dX5_timeOf_28 ⟨_, rfl, hf⟩
    · have hf := hf.2 c_6
      refine nw_aload_n (pc := 9) h dX5_timeOf_9 rfl 0 rfl ?_
      refine gf5_55 (pc := 10) (r := 53) h rfl rfl dX5_timeOf_10 ?_
      refine nw_iload_n (pc := 13) h dX5_timeOf_13 rfl 2 rfl ?_
      obtain ⟨h_14, hf⟩ := hf
      refine nw_iald (pc := 14) (n := 240) h rfl rfl h_14 dX5_timeOf_14 ?_
      refine nw_iload_n (pc := 15) h dX5_timeOf_15 rfl 1 rfl ?_
      refine nw_icmp_ne (pc := 16) (tgt := 21) h dX5_timeOf_16 (by decide) (fun c_16 => ?_) (fun c_16 => ?_)
      · have hf := hf.2 c_16
        refine nw_iinc (pc := 21) (v := (x2 + (1 : Int32))) (lv' := [(2, .int (x2 + (1 : Int32))), (0, .ref (P.2.1 37)), (1, .int x1)]) h dX5_timeOf_21 (j := 2) rfl rfl (by decide) rfl ?_
        refine nw_goto (pc := 24) (tgt := 2) h dX5_timeOf_24 (by decide) ?_
        refine nw_sub (lv' := [(0, .ref (P.2.1 37)), (1, .int x1), (2, .int (x2 + (1 : Int32)))]) [1, 2, 0] rfl ?_
        exact hH_2 _ _ _ (hf)
      · have hf := hf.1 c_16
        refine nw_iload_n (pc := 19) h dX5_timeOf_19 rfl 2 rfl ?_
        exact nw_iret (pc := 20) h he dX5_timeOf_20 ⟨_, rfl, hf⟩
  have hL_2 :  ∀ (n : Nat) (σ : nw_ST) (x1 : Int32) (x2 : Int32), f5_timeOf_2 K n σ x1 x2 → nw_G P X 3 σ [(0, .ref (P.2.1 37)), (1, .int x1), (2, .int x2)] 2 [] := by
    intro n
    induction n with
    | zero => intro σ x1 x2 hf; exact False.elim hf
    | succ n ih => exact hB_2 _ ih
  unfold f5_timeOf at hf
  refine nw_iconst (pc := 0) (v := 0) h dX5_timeOf_0 (by decide) ?_
  refine nw_istore_n (pc := 1) (lv' := [(2, .int (0 : Int32)), (0, .ref (P.2.1 37)), (1, .int a1)]) h dX5_timeOf_1 rfl (by decide) rfl ?_
  obtain ⟨n_2, hf⟩ := hf
  refine nw_sub (lv' := [(0, .ref (P.2.1 37)), (1, .int a1), (2, .int (0 : Int32))]) [1, 2, 0] rfl ?_
  exact hL_2 n_2 _ _ _ hf
theorem klX5_207 {P : nw_PT} {X : nw_EX} {cc : ByteArray} {nL : Nat} {σ : nw_ST} {lv : List (Nat × Value)} {pc : Nat} {rest : List Value} {a1 : Int32} (h : nw_ok P X cc RX5 nL) (hR : rm5_timeOf.frames + 1 ≤ X.2.2.2.1.frames ∧ 8 + (3 + 11) + rm5_timeOf.locals ≤ X.2.2.2.1.locals)  {K : Int32 → nw_ST → Prop} (hf : f5_timeOf K σ a1) (hst : (rest.map fun v => v.category).sum ≤ 8) (hd : decode cc pc = .ok (.invokevirtual 207, 3)) (k : ∀ (r : Int32) (s2 : nw_ST), K r s2 → nw_G P X nL s2 lv (pc + 3) (.int r :: rest)) : nw_G P X nL σ lv pc (.int a1 :: .ref (P.2.1 37) :: rest) :=
  nw_callV (As := [.int a1]) (rest := rest) (C := RX5) (ci := 5) h (ct5_timeOf _ P h.2.2 σ a1 K hf) (nw_goodV nw_w471 nw_w472 nw_w473 nw_w342 nw_w474) yd5_timeOf rfl hR ⟨rfl, rfl⟩ rfl (by decide) rfl rfl hst rfl hd (fun v s2 z => by obtain ⟨r, rfl, z⟩ := z; exact k r s2 z)
def f5_whenOf (K : Int32 → nw_ST → Prop) (σ : nw_ST) (a1 : Int32) : Prop := (f5_laysTold (fun (s_1 : nw_ST) => (f5_timeOf (fun (r_6 : Int32) (s_6 : nw_ST) => (K r_6 s_6)) s_1 a1)) σ)
def rm5_whenOf : Room := { frames := 8, cells := 0, slots := 0, locals := 180 }
theorem yd5_whenOf : yX5_whenOf.cls = RX5 ∧ yX5_whenOf.cls ≠ "java/lang/invoke/MethodHandle" ∧ yX5_whenOf.cls ≠ "java/lang/invoke/VarHandle" ∧ (parseMethodDescriptor yX5_whenOf.desc).map (fun d => d.parameters.length) = some 1 := by decide +kernel
set_option maxHeartbeats 4000000 in
set_option maxRecDepth 100000 in
theorem ct5_whenOf (l : Launch) (P : nw_PT) (hD : nw_D P) (σ : nw_ST) (a1 : Int32)  (K : Int32 → nw_ST → Prop) (hf : f5_whenOf K σ a1) : nw_MT l yX5_whenOf cX5_whenOf 2 (some .int) rm5_whenOf P [.ref (P.2.1 37), .int a1] σ (nw_Ki K) := by
  refine nw_enter (by decide) (by first | decide | exact Nat.le_of_ble_eq_true rfl) hD ?_
  intro X hl h he hR
  subst hl
  have h : nw_ok P X cX5_whenOf RX5 2 := h
  show nw_G P X 2 σ [(0, .ref (P.2.1 37)), (1, .int a1)] 0 []
  unfold f5_whenOf at hf
  refine nw_aload_n (pc := 0) h dX5_whenOf_0 rfl 0 rfl ?_
  refine klX5_198 (pc := 1) h (by rw [hR]; decide) hf (Nat.le_of_ble_eq_true rfl) dX5_whenOf_1 (fun s_1 hf => ?_)
  refine nw_aload_n (pc := 4) h dX5_whenOf_4 rfl 0 rfl ?_
  refine nw_iload_n (pc := 5) h dX5_whenOf_5 rfl 1 rfl ?_
  refine klX5_207 (pc := 6) h (by rw [hR]; decide) hf (Nat.le_of_ble_eq_true rfl) dX5_whenOf_6 (fun r_6 s_6 hf => ?_)
  exact nw_iret (pc := 9) h he dX5_whenOf_9 ⟨_, rfl, hf⟩
theorem klX5_210 {P : nw_PT} {X : nw_EX} {cc : ByteArray} {nL : Nat} {σ : nw_ST} {lv : List (Nat × Value)} {pc : Nat} {rest : List Value} {a1 : Int32} (h : nw_ok P X cc RX5 nL) (hR : rm5_whenOf.frames + 1 ≤ X.2.2.2.1.frames ∧ 8 + (2 + 11) + rm5_whenOf.locals ≤ X.2.2.2.1.locals)  {K : Int32 → nw_ST → Prop} (hf : f5_whenOf K σ a1) (hst : (rest.map fun v => v.category).sum ≤ 8) (hd : decode cc pc = .ok (.invokevirtual 210, 3)) (k : ∀ (r : Int32) (s2 : nw_ST), K r s2 → nw_G P X nL s2 lv (pc + 3) (.int r :: rest)) : nw_G P X nL σ lv pc (.int a1 :: .ref (P.2.1 37) :: rest) :=
  nw_callV (As := [.int a1]) (rest := rest) (C := RX5) (ci := 5) h (ct5_whenOf _ P h.2.2 σ a1 K hf) (nw_goodV nw_w475 nw_w476 nw_w477 nw_w342 nw_w478) yd5_whenOf rfl hR ⟨rfl, rfl⟩ rfl (by decide) rfl rfl hst rfl hd (fun v s2 z => by obtain ⟨r, rfl, z⟩ := z; exact k r s2 z)
def f5_when_17 (K : Int32 → nw_ST → Prop) (σ : nw_ST) (y0 : Int32) : Prop := (K y0 σ)
def f5_when (K : Int32 → nw_ST → Prop) (σ : nw_ST) (a1 : Int32) : Prop := ((((v5_isNumber a1) = 0) → (f5_when_17 K σ (-2 : Int32))) ∧ (¬ ((v5_isNumber a1) = 0) → (f5_whenOf (fun (r_9 : Int32) (s_9 : nw_ST) => (f5_when_17 K s_9 r_9)) σ a1)))
def rm5_when : Room := { frames := 9, cells := 0, slots := 0, locals := 201 }
theorem yd5_when : yX5_when.cls = RX5 ∧ yX5_when.cls ≠ "java/lang/invoke/MethodHandle" ∧ yX5_when.cls ≠ "java/lang/invoke/VarHandle" ∧ (parseMethodDescriptor yX5_when.desc).map (fun d => d.parameters.length) = some 1 := by decide +kernel
set_option maxHeartbeats 4000000 in
set_option maxRecDepth 100000 in
theorem ct5_when (l : Launch) (P : nw_PT) (hD : nw_D P) (σ : nw_ST) (a1 : Int32)  (K : Int32 → nw_ST → Prop) (hf : f5_when K σ a1) : nw_MT l yX5_when cX5_when 2 (some .int) rm5_when P [.ref (P.2.1 37), .int a1] σ (nw_Ki K) := by
  refine nw_enter (by decide) (by first | decide | exact Nat.le_of_ble_eq_true rfl) hD ?_
  intro X hl h he hR
  subst hl
  have h : nw_ok P X cX5_when RX5 2 := h
  show nw_G P X 2 σ [(0, .ref (P.2.1 37)), (1, .int a1)] 0 []
  have hL_17 :  ∀ (σ : nw_ST) (y0 : Int32), f5_when_17 K σ y0 → nw_G P X 2 σ [] 17 [.int y0] := by
    intro σ y0 hf
    unfold f5_when_17 at hf
    exact nw_iret (pc := 17) h he dX5_when_17 ⟨_, rfl, hf⟩
  unfold f5_when at hf
  refine nw_iload_n (pc := 0) h dX5_when_0 rfl 1 rfl ?_
  refine klX5_149 (pc := 1) h (by rw [hR]; decide) (Nat.le_of_ble_eq_true rfl) dX5_when_1 ?_
  refine nw_if_eq (pc := 4) (tgt := 15) h dX5_when_4 (by decide) (fun c_4 => ?_) (fun c_4 => ?_)
  · have hf := hf.1 c_4
    refine nw_bipush (pc := 15) (v := -2) h dX5_when_15 (by decide) ?_
    refine nw_sub (lv' := []) [] rfl ?_
    exact hL_17 _ _ (hf)
  · have hf := hf.2 c_4
    refine nw_aload_n (pc := 7) h dX5_when_7 rfl 0 rfl ?_
    refine nw_iload_n (pc := 8) h dX5_when_8 rfl 1 rfl ?_
    refine klX5_210 (pc := 9) h (by rw [hR]; decide) hf (Nat.le_of_ble_eq_true rfl) dX5_when_9 (fun r_9 s_9 hf => ?_)
    refine nw_goto (pc := 12) (tgt := 17) h dX5_when_12 (by decide) ?_
    refine nw_sub (lv' := []) [] rfl ?_
    exact hL_17 _ _ (hf)
def f5_calledOf_31 (K : Int32 → nw_ST → Prop) (H_9 : nw_ST → Int32 → Int32 → Int32 → Prop) (σ : nw_ST) (x2 : Int32) (x4 : Int32) (y0 : Int32) (y1 : Int32) : Prop := (H_9 σ x2 (y1 + y0) (x4 + (1 : Int32)))
def b5_calledOf_9 (K : Int32 → nw_ST → Prop) (H_9 : nw_ST → Int32 → Int32 → Int32 → Prop) (σ : nw_ST) (x2 : Int32) (x3 : Int32) (x4 : Int32) : Prop := (((x2 < x4) → (K x3 σ)) ∧ (¬ (x2 < x4) → ((vp_in x4 240) ∧ (f5_calledOf_31 K H_9 σ x2 x4 (if ((nw_gA σ 53 x4.toNatClampNeg) ≤ 0) then (0 : Int32) else (1 : Int32)) x3))))
def f5_calledOf_9 (K : Int32 → nw_ST → Prop) : Nat → nw_ST → Int32 → Int32 → Int32 → Prop
  | 0 => fun _ _ _ _ => False
  | n + 1 => b5_calledOf_9 K (f5_calledOf_9 K n)
def f5_calledOf (K : Int32 → nw_ST → Prop) (σ : nw_ST) (a1 : Int32) (a2 : Int32) : Prop := (f5_laysTold (fun (s_1 : nw_ST) => (∃ n, f5_calledOf_9 K n s_1 a2 (0 : Int32) a1)) σ)
def rm5_calledOf : Room := { frames := 8, cells := 0, slots := 0, locals := 180 }
theorem yd5_calledOf : yX5_calledOf.cls = RX5 ∧ yX5_calledOf.cls ≠ "java/lang/invoke/MethodHandle" ∧ yX5_calledOf.cls ≠ "java/lang/invoke/VarHandle" ∧ (parseMethodDescriptor yX5_calledOf.desc).map (fun d => d.parameters.length) = some 2 := by decide +kernel
set_option maxHeartbeats 4000000 in
set_option maxRecDepth 100000 in
theorem ct5_calledOf (l : Launch) (P : nw_PT) (hD : nw_D P) (σ : nw_ST) (a1 : Int32) (a2 : Int32)  (K : Int32 → nw_ST → Prop) (hf : f5_calledOf K σ a1 a2) : nw_MT l yX5_calledOf cX5_calledOf 5 (some .int) rm5_calledOf P [.ref (P.2.1 37), .int a1, .int a2] σ (nw_Ki K) := by
  refine nw_enter (by decide) (by first | decide | exact Nat.le_of_ble_eq_true rfl) hD ?_
  intro X hl h he hR
  subst hl
  have h : nw_ok P X cX5_calledOf RX5 5 := h
  show nw_G P X 5 σ [(0, .ref (P.2.1 37)), (1, .int a1), (2, .int a2)] 0 []
  have hL_31 : ∀ (H_9 : nw_ST → Int32 → Int32 → Int32 → Prop) (hH_9 : (∀ (σ : nw_ST) (x2 : Int32) (x3 : Int32) (x4 : Int32), H_9 σ x2 x3 x4 → nw_G P X 5 σ [(0, .ref (P.2.1 37)), (2, .int x2), (3, .int x3), (4, .int x4)] 9 [])), ∀ (σ : nw_ST) (x2 : Int32) (x4 : Int32) (y0 : Int32) (y1 : Int32), f5_calledOf_31 K H_9 σ x2 x4 y0 y1 → nw_G P X 5 σ [(0, .ref (P.2.1 37)), (2, .int x2), (4, .int x4)] 31 [.int y0, .int y1] := by
    intro H_9 hH_9 σ x2 x4 y0 y1 hf
    unfold f5_calledOf_31 at hf
    refine nw_iadd (pc := 31) h dX5_calledOf_31 ?_
    refine nw_istore_n (pc := 32) (lv' := [(3, .int (y1 + y0)), (0, .ref (P.2.1 37)), (2, .int x2), (4, .int x4)]) h dX5_calledOf_32 rfl (by decide) rfl ?_
    refine nw_iinc (pc := 33) (v := (x4 + (1 : Int32))) (lv' := [(4, .int (x4 + (1 : Int32))), (3, .int (y1 + y0)), (0, .ref (P.2.1 37)), (2, .int x2)]) h dX5_calledOf_33 (j := 3) rfl rfl (by decide) rfl ?_
    refine nw_goto (pc := 36) (tgt := 9) h dX5_calledOf_36 (by decide) ?_
    refine nw_sub (lv' := [(0, .ref (P.2.1 37)), (2, .int x2), (3, .int (y1 + y0)), (4, .int (x4 + (1 : Int32)))]) [2, 3, 1, 0] rfl ?_
    exact hH_9 _ _ _ _ (hf)
  have hB_9 : ∀ (H_9 : nw_ST → Int32 → Int32 → Int32 → Prop) (hH_9 : (∀ (σ : nw_ST) (x2 : Int32) (x3 : Int32) (x4 : Int32), H_9 σ x2 x3 x4 → nw_G P X 5 σ [(0, .ref (P.2.1 37)), (2, .int x2), (3, .int x3), (4, .int x4)] 9 [])), ∀ (σ : nw_ST) (x2 : Int32) (x3 : Int32) (x4 : Int32), b5_calledOf_9 K H_9 σ x2 x3 x4 → nw_G P X 5 σ [(0, .ref (P.2.1 37)), (2, .int x2), (3, .int x3), (4, .int x4)] 9 [] := by
    intro H_9 hH_9 σ x2 x3 x4 hf
    unfold b5_calledOf_9 at hf
    refine nw_iload (pc := 9) h dX5_calledOf_9 3 rfl ?_
    refine nw_iload_n (pc := 11) h dX5_calledOf_11 rfl 1 rfl ?_
    refine nw_icmp_gt (pc := 12) (tgt := 39) h dX5_calledOf_12 (by decide) (fun c_12 => ?_) (fun c_12 => ?_)
    · have hf := hf.1 c_12
      refine nw_iload_n (pc := 39) h dX5_calledOf_39 rfl 2 rfl ?_
      exact nw_iret (pc := 40) h he dX5_calledOf_40 ⟨_, rfl, hf⟩
    · have hf := hf.2 c_12
      refine nw_iload_n (pc := 15) h dX5_calledOf_15 rfl 2 rfl ?_
      refine nw_aload_n (pc := 16) h dX5_calledOf_16 rfl 0 rfl ?_
      refine gf5_55 (pc := 17) (r := 53) h rfl rfl dX5_calledOf_17 ?_
      refine nw_iload (pc := 20) h dX5_calledOf_20 3 rfl ?_
      obtain ⟨h_22, hf⟩ := hf
      refine nw_iald (pc := 22) (n := 240) h rfl rfl h_22 dX5_calledOf_22 ?_
      refine nw_if_le (pc := 23) (tgt := 30) h dX5_calledOf_23 (by decide) (fun c_23 => ?_) (fun c_23 => ?_)
      · skip
        refine nw_iconst (pc := 30) (v := 0) h dX5_calledOf_30 (by decide) ?_
        simp only [if_pos c_23] at hf
        refine nw_sub (lv' := [(0, .ref (P.2.1 37)), (2, .int x2), (4, .int x4)]) [0, 1, 3] rfl ?_
        exact hL_31 H_9 hH_9 _ _ _ _ _ hf
      · skip
        refine nw_iconst (pc := 26) (v := 1) h dX5_calledOf_26 (by decide) ?_
        refine nw_goto (pc := 27) (tgt := 31) h dX5_calledOf_27 (by decide) ?_
        simp only [if_neg c_23] at hf
        refine nw_sub (lv' := [(0, .ref (P.2.1 37)), (2, .int x2), (4, .int x4)]) [0, 1, 3] rfl ?_
        exact hL_31 H_9 hH_9 _ _ _ _ _ hf
  have hL_9 :  ∀ (n : Nat) (σ : nw_ST) (x2 : Int32) (x3 : Int32) (x4 : Int32), f5_calledOf_9 K n σ x2 x3 x4 → nw_G P X 5 σ [(0, .ref (P.2.1 37)), (2, .int x2), (3, .int x3), (4, .int x4)] 9 [] := by
    intro n
    induction n with
    | zero => intro σ x2 x3 x4 hf; exact False.elim hf
    | succ n ih => exact hB_9 _ ih
  unfold f5_calledOf at hf
  refine nw_aload_n (pc := 0) h dX5_calledOf_0 rfl 0 rfl ?_
  refine klX5_198 (pc := 1) h (by rw [hR]; decide) hf (Nat.le_of_ble_eq_true rfl) dX5_calledOf_1 (fun s_1 hf => ?_)
  refine nw_iconst (pc := 4) (v := 0) h dX5_calledOf_4 (by decide) ?_
  refine nw_istore_n (pc := 5) (lv' := [(3, .int (0 : Int32)), (0, .ref (P.2.1 37)), (1, .int a1), (2, .int a2)]) h dX5_calledOf_5 rfl (by decide) rfl ?_
  refine nw_iload_n (pc := 6) h dX5_calledOf_6 rfl 2 rfl ?_
  refine nw_istore (pc := 7) (lv' := [(4, .int a1), (3, .int (0 : Int32)), (0, .ref (P.2.1 37)), (1, .int a1), (2, .int a2)]) h dX5_calledOf_7 (by decide) rfl ?_
  obtain ⟨n_9, hf⟩ := hf
  refine nw_sub (lv' := [(0, .ref (P.2.1 37)), (2, .int a2), (3, .int (0 : Int32)), (4, .int a1)]) [2, 4, 1, 0] rfl ?_
  exact hL_9 n_9 _ _ _ _ hf
theorem klX5_213 {P : nw_PT} {X : nw_EX} {cc : ByteArray} {nL : Nat} {σ : nw_ST} {lv : List (Nat × Value)} {pc : Nat} {rest : List Value} {a1 : Int32} {a2 : Int32} (h : nw_ok P X cc RX5 nL) (hR : rm5_calledOf.frames + 1 ≤ X.2.2.2.1.frames ∧ 8 + (5 + 11) + rm5_calledOf.locals ≤ X.2.2.2.1.locals)  {K : Int32 → nw_ST → Prop} (hf : f5_calledOf K σ a1 a2) (hst : (rest.map fun v => v.category).sum ≤ 8) (hd : decode cc pc = .ok (.invokevirtual 213, 3)) (k : ∀ (r : Int32) (s2 : nw_ST), K r s2 → nw_G P X nL s2 lv (pc + 3) (.int r :: rest)) : nw_G P X nL σ lv pc (.int a2 :: .int a1 :: .ref (P.2.1 37) :: rest) :=
  nw_callV (As := [.int a1, .int a2]) (rest := rest) (C := RX5) (ci := 5) h (ct5_calledOf _ P h.2.2 σ a1 a2 K hf) (nw_goodV nw_w479 nw_w480 nw_w481 nw_w342 nw_w482) yd5_calledOf rfl hR ⟨rfl, rfl⟩ rfl (by decide) rfl rfl hst rfl hd (fun v s2 z => by obtain ⟨r, rfl, z⟩ := z; exact k r s2 z)
def f5_called_25 (K : Int32 → nw_ST → Prop) (σ : nw_ST) (y0 : Int32) : Prop := (K y0 σ)
def f5_called_23 (K : Int32 → nw_ST → Prop) (σ : nw_ST) : Prop := (f5_called_25 K σ (-2 : Int32))
def f5_called (K : Int32 → nw_ST → Prop) (σ : nw_ST) (a1 : Int32) (a2 : Int32) : Prop := ((((v5_isTime a1) = 0) → (f5_called_23 K σ)) ∧ (¬ ((v5_isTime a1) = 0) → ((((v5_isTime a2) = 0) → (f5_called_23 K σ)) ∧ (¬ ((v5_isTime a2) = 0) → (f5_calledOf (fun (r_17 : Int32) (s_17 : nw_ST) => (f5_called_25 K s_17 r_17)) σ a1 a2)))))
def rm5_called : Room := { frames := 9, cells := 0, slots := 0, locals := 204 }
theorem yd5_called : yX5_called.cls = RX5 ∧ yX5_called.cls ≠ "java/lang/invoke/MethodHandle" ∧ yX5_called.cls ≠ "java/lang/invoke/VarHandle" ∧ (parseMethodDescriptor yX5_called.desc).map (fun d => d.parameters.length) = some 2 := by decide +kernel
set_option maxHeartbeats 4000000 in
set_option maxRecDepth 100000 in
theorem ct5_called (l : Launch) (P : nw_PT) (hD : nw_D P) (σ : nw_ST) (a1 : Int32) (a2 : Int32)  (K : Int32 → nw_ST → Prop) (hf : f5_called K σ a1 a2) : nw_MT l yX5_called cX5_called 3 (some .int) rm5_called P [.ref (P.2.1 37), .int a1, .int a2] σ (nw_Ki K) := by
  refine nw_enter (by decide) (by first | decide | exact Nat.le_of_ble_eq_true rfl) hD ?_
  intro X hl h he hR
  subst hl
  have h : nw_ok P X cX5_called RX5 3 := h
  show nw_G P X 3 σ [(0, .ref (P.2.1 37)), (1, .int a1), (2, .int a2)] 0 []
  have hL_25 :  ∀ (σ : nw_ST) (y0 : Int32), f5_called_25 K σ y0 → nw_G P X 3 σ [] 25 [.int y0] := by
    intro σ y0 hf
    unfold f5_called_25 at hf
    exact nw_iret (pc := 25) h he dX5_called_25 ⟨_, rfl, hf⟩
  have hL_23 :  ∀ (σ : nw_ST), f5_called_23 K σ → nw_G P X 3 σ [] 23 [] := by
    intro σ hf
    unfold f5_called_23 at hf
    refine nw_bipush (pc := 23) (v := -2) h dX5_called_23 (by decide) ?_
    exact hL_25 _ _ (hf)
  unfold f5_called at hf
  refine nw_iload_n (pc := 0) h dX5_called_0 rfl 1 rfl ?_
  refine klX5_143 (pc := 1) h (by rw [hR]; decide) (Nat.le_of_ble_eq_true rfl) dX5_called_1 ?_
  refine nw_if_eq (pc := 4) (tgt := 23) h dX5_called_4 (by decide) (fun c_4 => ?_) (fun c_4 => ?_)
  · have hf := hf.1 c_4
    refine nw_sub (lv' := []) [] rfl ?_
    exact hL_23 _ (hf)
  · have hf := hf.2 c_4
    refine nw_iload_n (pc := 7) h dX5_called_7 rfl 2 rfl ?_
    refine klX5_143 (pc := 8) h (by rw [hR]; decide) (Nat.le_of_ble_eq_true rfl) dX5_called_8 ?_
    refine nw_if_eq (pc := 11) (tgt := 23) h dX5_called_11 (by decide) (fun c_11 => ?_) (fun c_11 => ?_)
    · have hf := hf.1 c_11
      refine nw_sub (lv' := []) [] rfl ?_
      exact hL_23 _ (hf)
    · have hf := hf.2 c_11
      refine nw_aload_n (pc := 14) h dX5_called_14 rfl 0 rfl ?_
      refine nw_iload_n (pc := 15) h dX5_called_15 rfl 1 rfl ?_
      refine nw_iload_n (pc := 16) h dX5_called_16 rfl 2 rfl ?_
      refine klX5_213 (pc := 17) h (by rw [hR]; decide) hf (Nat.le_of_ble_eq_true rfl) dX5_called_17 (fun r_17 s_17 hf => ?_)
      refine nw_goto (pc := 20) (tgt := 25) h dX5_called_20 (by decide) ?_
      refine nw_sub (lv' := []) [] rfl ?_
      exact hL_25 _ _ (hf)
def f5_bringsNow_40 (K : Int32 → nw_ST → Prop) (H_4 : nw_ST → Int32 → Int32 → Int32 → Prop) (σ : nw_ST) (x1 : Int32) (x3 : Int32) (y0 : Int32) (y1 : Int32) : Prop := (H_4 σ x1 (y1 + y0) (x3 + (1 : Int32)))
def b5_bringsNow_4 (K : Int32 → nw_ST → Prop) (H_4 : nw_ST → Int32 → Int32 → Int32 → Prop) (σ : nw_ST) (x1 : Int32) (x2 : Int32) (x3 : Int32) : Prop := ((((nw_gS σ 37 6) ≤ x3) → (K x2 σ)) ∧ (¬ ((nw_gS σ 37 6) ≤ x3) → ((vp_in x3 9) ∧ ((¬ (nw_gA σ 43 x3.toNatClampNeg) = 0) ∧ ((vp_in x3 9) ∧ (((((nw_rem x1 (nw_gA σ 43 x3.toNatClampNeg)) = (nw_gA σ 44 x3.toNatClampNeg)) → (vp_in x3 9)) ∧ (¬ ((nw_rem x1 (nw_gA σ 43 x3.toNatClampNeg)) = (nw_gA σ 44 x3.toNatClampNeg)) → True)) ∧ (f5_bringsNow_40 K H_4 σ x1 x3 (if ((nw_rem x1 (nw_gA σ 43 x3.toNatClampNeg)) = (nw_gA σ 44 x3.toNatClampNeg)) then (nw_gA σ 45 x3.toNatClampNeg) else (0 : Int32)) x2)))))))
def f5_bringsNow_4 (K : Int32 → nw_ST → Prop) : Nat → nw_ST → Int32 → Int32 → Int32 → Prop
  | 0 => fun _ _ _ _ => False
  | n + 1 => b5_bringsNow_4 K (f5_bringsNow_4 K n)
def f5_bringsNow (K : Int32 → nw_ST → Prop) (σ : nw_ST) (a1 : Int32) : Prop := (∃ n, f5_bringsNow_4 K n σ a1 (0 : Int32) (0 : Int32))
def rm5_bringsNow : Room := { frames := 0, cells := 0, slots := 0, locals := 0 }
theorem yd5_bringsNow : yX5_bringsNow.cls = RX5 ∧ yX5_bringsNow.cls ≠ "java/lang/invoke/MethodHandle" ∧ yX5_bringsNow.cls ≠ "java/lang/invoke/VarHandle" ∧ (parseMethodDescriptor yX5_bringsNow.desc).map (fun d => d.parameters.length) = some 1 := by decide +kernel
set_option maxHeartbeats 4000000 in
set_option maxRecDepth 100000 in
theorem ct5_bringsNow (l : Launch) (P : nw_PT) (hD : nw_D P) (σ : nw_ST) (a1 : Int32)  (K : Int32 → nw_ST → Prop) (hf : f5_bringsNow K σ a1) : nw_MT l yX5_bringsNow cX5_bringsNow 4 (some .int) rm5_bringsNow P [.ref (P.2.1 37), .int a1] σ (nw_Ki K) := by
  refine nw_enter (by decide) (by first | decide | exact Nat.le_of_ble_eq_true rfl) hD ?_
  intro X hl h he hR
  subst hl
  have h : nw_ok P X cX5_bringsNow RX5 4 := h
  show nw_G P X 4 σ [(0, .ref (P.2.1 37)), (1, .int a1)] 0 []
  have hL_40 : ∀ (H_4 : nw_ST → Int32 → Int32 → Int32 → Prop) (hH_4 : (∀ (σ : nw_ST) (x1 : Int32) (x2 : Int32) (x3 : Int32), H_4 σ x1 x2 x3 → nw_G P X 4 σ [(0, .ref (P.2.1 37)), (1, .int x1), (2, .int x2), (3, .int x3)] 4 [])), ∀ (σ : nw_ST) (x1 : Int32) (x3 : Int32) (y0 : Int32) (y1 : Int32), f5_bringsNow_40 K H_4 σ x1 x3 y0 y1 → nw_G P X 4 σ [(0, .ref (P.2.1 37)), (1, .int x1), (3, .int x3)] 40 [.int y0, .int y1] := by
    intro H_4 hH_4 σ x1 x3 y0 y1 hf
    unfold f5_bringsNow_40 at hf
    refine nw_iadd (pc := 40) h dX5_bringsNow_40 ?_
    refine nw_istore_n (pc := 41) (lv' := [(2, .int (y1 + y0)), (0, .ref (P.2.1 37)), (1, .int x1), (3, .int x3)]) h dX5_bringsNow_41 rfl (by decide) rfl ?_
    refine nw_iinc (pc := 42) (v := (x3 + (1 : Int32))) (lv' := [(3, .int (x3 + (1 : Int32))), (2, .int (y1 + y0)), (0, .ref (P.2.1 37)), (1, .int x1)]) h dX5_bringsNow_42 (j := 3) rfl rfl (by decide) rfl ?_
    refine nw_goto (pc := 45) (tgt := 4) h dX5_bringsNow_45 (by decide) ?_
    refine nw_sub (lv' := [(0, .ref (P.2.1 37)), (1, .int x1), (2, .int (y1 + y0)), (3, .int (x3 + (1 : Int32)))]) [2, 3, 1, 0] rfl ?_
    exact hH_4 _ _ _ _ (hf)
  have hB_4 : ∀ (H_4 : nw_ST → Int32 → Int32 → Int32 → Prop) (hH_4 : (∀ (σ : nw_ST) (x1 : Int32) (x2 : Int32) (x3 : Int32), H_4 σ x1 x2 x3 → nw_G P X 4 σ [(0, .ref (P.2.1 37)), (1, .int x1), (2, .int x2), (3, .int x3)] 4 [])), ∀ (σ : nw_ST) (x1 : Int32) (x2 : Int32) (x3 : Int32), b5_bringsNow_4 K H_4 σ x1 x2 x3 → nw_G P X 4 σ [(0, .ref (P.2.1 37)), (1, .int x1), (2, .int x2), (3, .int x3)] 4 [] := by
    intro H_4 hH_4 σ x1 x2 x3 hf
    unfold b5_bringsNow_4 at hf
    refine nw_iload_n (pc := 4) h dX5_bringsNow_4 rfl 3 rfl ?_
    refine nw_aload_n (pc := 5) h dX5_bringsNow_5 rfl 0 rfl ?_
    refine gf5_108 (pc := 6) h rfl dX5_bringsNow_6 ?_
    refine nw_icmp_ge (pc := 9) (tgt := 48) h dX5_bringsNow_9 (by decide) (fun c_9 => ?_) (fun c_9 => ?_)
    · have hf := hf.1 c_9
      refine nw_iload_n (pc := 48) h dX5_bringsNow_48 rfl 2 rfl ?_
      exact nw_iret (pc := 49) h he dX5_bringsNow_49 ⟨_, rfl, hf⟩
    · have hf := hf.2 c_9
      refine nw_iload_n (pc := 12) h dX5_bringsNow_12 rfl 2 rfl ?_
      refine nw_iload_n (pc := 13) h dX5_bringsNow_13 rfl 1 rfl ?_
      refine nw_aload_n (pc := 14) h dX5_bringsNow_14 rfl 0 rfl ?_
      refine gf5_25 (pc := 15) (r := 43) h rfl rfl dX5_bringsNow_15 ?_
      refine nw_iload_n (pc := 18) h dX5_bringsNow_18 rfl 3 rfl ?_
      obtain ⟨h_19, hf⟩ := hf
      refine nw_iald (pc := 19) (n := 9) h rfl rfl h_19 dX5_bringsNow_19 ?_
      obtain ⟨h_20, hf⟩ := hf
      refine nw_irem (pc := 20) h dX5_bringsNow_20 h_20 ?_
      refine nw_aload_n (pc := 21) h dX5_bringsNow_21 rfl 0 rfl ?_
      refine gf5_28 (pc := 22) (r := 44) h rfl rfl dX5_bringsNow_22 ?_
      refine nw_iload_n (pc := 25) h dX5_bringsNow_25 rfl 3 rfl ?_
      obtain ⟨h_26, hf⟩ := hf
      refine nw_iald (pc := 26) (n := 9) h rfl rfl h_26 dX5_bringsNow_26 ?_
      obtain ⟨ho, hf⟩ := hf
      refine nw_icmp_ne (pc := 27) (tgt := 39) h dX5_bringsNow_27 (by decide) (fun c_27 => ?_) (fun c_27 => ?_)
      · skip
        have ho := ho.2 c_27
        refine nw_iconst (pc := 39) (v := 0) h dX5_bringsNow_39 (by decide) ?_
        simp only [if_neg c_27] at hf
        refine nw_sub (lv' := [(0, .ref (P.2.1 37)), (1, .int x1), (3, .int x3)]) [0, 1, 3] rfl ?_
        exact hL_40 H_4 hH_4 _ _ _ _ _ hf
      · skip
        have ho := ho.1 c_27
        refine nw_aload_n (pc := 30) h dX5_bringsNow_30 rfl 0 rfl ?_
        refine gf5_31 (pc := 31) (r := 45) h rfl rfl dX5_bringsNow_31 ?_
        refine nw_iload_n (pc := 34) h dX5_bringsNow_34 rfl 3 rfl ?_
        have h_35 := ho
        refine nw_iald (pc := 35) (n := 9) h rfl rfl h_35 dX5_bringsNow_35 ?_
        refine nw_goto (pc := 36) (tgt := 40) h dX5_bringsNow_36 (by decide) ?_
        simp only [if_pos c_27] at hf
        refine nw_sub (lv' := [(0, .ref (P.2.1 37)), (1, .int x1), (3, .int x3)]) [0, 1, 3] rfl ?_
        exact hL_40 H_4 hH_4 _ _ _ _ _ hf
  have hL_4 :  ∀ (n : Nat) (σ : nw_ST) (x1 : Int32) (x2 : Int32) (x3 : Int32), f5_bringsNow_4 K n σ x1 x2 x3 → nw_G P X 4 σ [(0, .ref (P.2.1 37)), (1, .int x1), (2, .int x2), (3, .int x3)] 4 [] := by
    intro n
    induction n with
    | zero => intro σ x1 x2 x3 hf; exact False.elim hf
    | succ n ih => exact hB_4 _ ih
  unfold f5_bringsNow at hf
  refine nw_iconst (pc := 0) (v := 0) h dX5_bringsNow_0 (by decide) ?_
  refine nw_istore_n (pc := 1) (lv' := [(2, .int (0 : Int32)), (0, .ref (P.2.1 37)), (1, .int a1)]) h dX5_bringsNow_1 rfl (by decide) rfl ?_
  refine nw_iconst (pc := 2) (v := 0) h dX5_bringsNow_2 (by decide) ?_
  refine nw_istore_n (pc := 3) (lv' := [(3, .int (0 : Int32)), (2, .int (0 : Int32)), (0, .ref (P.2.1 37)), (1, .int a1)]) h dX5_bringsNow_3 rfl (by decide) rfl ?_
  obtain ⟨n_4, hf⟩ := hf
  refine nw_sub (lv' := [(0, .ref (P.2.1 37)), (1, .int a1), (2, .int (0 : Int32)), (3, .int (0 : Int32))]) [2, 3, 1, 0] rfl ?_
  exact hL_4 n_4 _ _ _ _ hf
theorem klX5_216 {P : nw_PT} {X : nw_EX} {cc : ByteArray} {nL : Nat} {σ : nw_ST} {lv : List (Nat × Value)} {pc : Nat} {rest : List Value} {a1 : Int32} (h : nw_ok P X cc RX5 nL) (hR : rm5_bringsNow.frames + 1 ≤ X.2.2.2.1.frames ∧ 8 + (4 + 11) + rm5_bringsNow.locals ≤ X.2.2.2.1.locals)  {K : Int32 → nw_ST → Prop} (hf : f5_bringsNow K σ a1) (hst : (rest.map fun v => v.category).sum ≤ 8) (hd : decode cc pc = .ok (.invokevirtual 216, 3)) (k : ∀ (r : Int32) (s2 : nw_ST), K r s2 → nw_G P X nL s2 lv (pc + 3) (.int r :: rest)) : nw_G P X nL σ lv pc (.int a1 :: .ref (P.2.1 37) :: rest) :=
  nw_callV (As := [.int a1]) (rest := rest) (C := RX5) (ci := 5) h (ct5_bringsNow _ P h.2.2 σ a1 K hf) (nw_goodV nw_w483 nw_w484 nw_w485 nw_w342 nw_w486) yd5_bringsNow rfl hR ⟨rfl, rfl⟩ rfl (by decide) rfl rfl hst rfl hd (fun v s2 z => by obtain ⟨r, rfl, z⟩ := z; exact k r s2 z)
def f5_bringsOf (K : Int32 → nw_ST → Prop) (σ : nw_ST) (a1 : Int32) : Prop := (f5_reads (fun (s_1 : nw_ST) => (f5_bringsNow (fun (r_6 : Int32) (s_6 : nw_ST) => (K r_6 s_6)) s_1 a1)) σ)
def rm5_bringsOf : Room := { frames := 7, cells := 0, slots := 0, locals := 160 }
theorem yd5_bringsOf : yX5_bringsOf.cls = RX5 ∧ yX5_bringsOf.cls ≠ "java/lang/invoke/MethodHandle" ∧ yX5_bringsOf.cls ≠ "java/lang/invoke/VarHandle" ∧ (parseMethodDescriptor yX5_bringsOf.desc).map (fun d => d.parameters.length) = some 1 := by decide +kernel
set_option maxHeartbeats 4000000 in
set_option maxRecDepth 100000 in
theorem ct5_bringsOf (l : Launch) (P : nw_PT) (hD : nw_D P) (σ : nw_ST) (a1 : Int32)  (K : Int32 → nw_ST → Prop) (hf : f5_bringsOf K σ a1) : nw_MT l yX5_bringsOf cX5_bringsOf 2 (some .int) rm5_bringsOf P [.ref (P.2.1 37), .int a1] σ (nw_Ki K) := by
  refine nw_enter (by decide) (by first | decide | exact Nat.le_of_ble_eq_true rfl) hD ?_
  intro X hl h he hR
  subst hl
  have h : nw_ok P X cX5_bringsOf RX5 2 := h
  show nw_G P X 2 σ [(0, .ref (P.2.1 37)), (1, .int a1)] 0 []
  unfold f5_bringsOf at hf
  refine nw_aload_n (pc := 0) h dX5_bringsOf_0 rfl 0 rfl ?_
  refine klX5_122 (pc := 1) h (by rw [hR]; decide) hf (Nat.le_of_ble_eq_true rfl) dX5_bringsOf_1 (fun s_1 hf => ?_)
  refine nw_aload_n (pc := 4) h dX5_bringsOf_4 rfl 0 rfl ?_
  refine nw_iload_n (pc := 5) h dX5_bringsOf_5 rfl 1 rfl ?_
  refine klX5_216 (pc := 6) h (by rw [hR]; decide) hf (Nat.le_of_ble_eq_true rfl) dX5_bringsOf_6 (fun r_6 s_6 hf => ?_)
  exact nw_iret (pc := 9) h he dX5_bringsOf_9 ⟨_, rfl, hf⟩
theorem klX5_219 {P : nw_PT} {X : nw_EX} {cc : ByteArray} {nL : Nat} {σ : nw_ST} {lv : List (Nat × Value)} {pc : Nat} {rest : List Value} {a1 : Int32} (h : nw_ok P X cc RX5 nL) (hR : rm5_bringsOf.frames + 1 ≤ X.2.2.2.1.frames ∧ 8 + (2 + 11) + rm5_bringsOf.locals ≤ X.2.2.2.1.locals)  {K : Int32 → nw_ST → Prop} (hf : f5_bringsOf K σ a1) (hst : (rest.map fun v => v.category).sum ≤ 8) (hd : decode cc pc = .ok (.invokevirtual 219, 3)) (k : ∀ (r : Int32) (s2 : nw_ST), K r s2 → nw_G P X nL s2 lv (pc + 3) (.int r :: rest)) : nw_G P X nL σ lv pc (.int a1 :: .ref (P.2.1 37) :: rest) :=
  nw_callV (As := [.int a1]) (rest := rest) (C := RX5) (ci := 5) h (ct5_bringsOf _ P h.2.2 σ a1 K hf) (nw_goodV nw_w487 nw_w488 nw_w489 nw_w342 nw_w490) yd5_bringsOf rfl hR ⟨rfl, rfl⟩ rfl (by decide) rfl rfl hst rfl hd (fun v s2 z => by obtain ⟨r, rfl, z⟩ := z; exact k r s2 z)
def f5_brings_17 (K : Int32 → nw_ST → Prop) (σ : nw_ST) (y0 : Int32) : Prop := (K y0 σ)
def f5_brings (K : Int32 → nw_ST → Prop) (σ : nw_ST) (a1 : Int32) : Prop := ((((v5_isNumber a1) = 0) → (f5_brings_17 K σ (-2 : Int32))) ∧ (¬ ((v5_isNumber a1) = 0) → (f5_bringsOf (fun (r_9 : Int32) (s_9 : nw_ST) => (f5_brings_17 K s_9 r_9)) σ a1)))
def rm5_brings : Room := { frames := 8, cells := 0, slots := 0, locals := 181 }
theorem yd5_brings : yX5_brings.cls = RX5 ∧ yX5_brings.cls ≠ "java/lang/invoke/MethodHandle" ∧ yX5_brings.cls ≠ "java/lang/invoke/VarHandle" ∧ (parseMethodDescriptor yX5_brings.desc).map (fun d => d.parameters.length) = some 1 := by decide +kernel
set_option maxHeartbeats 4000000 in
set_option maxRecDepth 100000 in
theorem ct5_brings (l : Launch) (P : nw_PT) (hD : nw_D P) (σ : nw_ST) (a1 : Int32)  (K : Int32 → nw_ST → Prop) (hf : f5_brings K σ a1) : nw_MT l yX5_brings cX5_brings 2 (some .int) rm5_brings P [.ref (P.2.1 37), .int a1] σ (nw_Ki K) := by
  refine nw_enter (by decide) (by first | decide | exact Nat.le_of_ble_eq_true rfl) hD ?_
  intro X hl h he hR
  subst hl
  have h : nw_ok P X cX5_brings RX5 2 := h
  show nw_G P X 2 σ [(0, .ref (P.2.1 37)), (1, .int a1)] 0 []
  have hL_17 :  ∀ (σ : nw_ST) (y0 : Int32), f5_brings_17 K σ y0 → nw_G P X 2 σ [] 17 [.int y0] := by
    intro σ y0 hf
    unfold f5_brings_17 at hf
    exact nw_iret (pc := 17) h he dX5_brings_17 ⟨_, rfl, hf⟩
  unfold f5_brings at hf
  refine nw_iload_n (pc := 0) h dX5_brings_0 rfl 1 rfl ?_
  refine klX5_149 (pc := 1) h (by rw [hR]; decide) (Nat.le_of_ble_eq_true rfl) dX5_brings_1 ?_
  refine nw_if_eq (pc := 4) (tgt := 15) h dX5_brings_4 (by decide) (fun c_4 => ?_) (fun c_4 => ?_)
  · have hf := hf.1 c_4
    refine nw_bipush (pc := 15) (v := -2) h dX5_brings_15 (by decide) ?_
    refine nw_sub (lv' := []) [] rfl ?_
    exact hL_17 _ _ (hf)
  · have hf := hf.2 c_4
    refine nw_aload_n (pc := 7) h dX5_brings_7 rfl 0 rfl ?_
    refine nw_iload_n (pc := 8) h dX5_brings_8 rfl 1 rfl ?_
    refine klX5_219 (pc := 9) h (by rw [hR]; decide) hf (Nat.le_of_ble_eq_true rfl) dX5_brings_9 (fun r_9 s_9 hf => ?_)
    refine nw_goto (pc := 12) (tgt := 17) h dX5_brings_12 (by decide) ?_
    refine nw_sub (lv' := []) [] rfl ?_
    exact hL_17 _ _ (hf)
theorem gf5_170 {P : nw_PT} {X : nw_EX} {cc : ByteArray} {nL : Nat} {σ : nw_ST} {lv : List (Nat × Value)} {pc : Nat} {st : List Value} {q : Nat} (h : nw_ok P X cc RX5 nL) (hq : nw_cl q = 5) (hd : decode cc pc = .ok (.getfield 170, 3)) (k : nw_G P X nL σ lv (pc + 3) (.int (nw_gS σ q 24) :: st)) : nw_G P X nL σ lv pc (.ref (P.2.1 q) :: st) := by
  intro H locs ls h1 h2 h3
  exact va_get (D := P.1) (ci := 5) (C := RX5) (T := TX5) (N := 38) h.1.1 h.1.2.1 h.1.2.2.2.2 in_T5 h.1.2.2.2.1 h.2.1.1 h1 q (nw_at5 hq) rfl 24 (by decide) (h.1.2.2.2.2 _ nw_w429) (fun _ z => z) rfl hd (k H locs ls h1 h2 h3)
def b5_holderOf_2 (K : Int32 → nw_ST → Prop) (H_2 : nw_ST → Int32 → Int32 → Prop) (σ : nw_ST) (x1 : Int32) (x2 : Int32) : Prop := ((((nw_gS σ 37 24) ≤ x2) → (K (-1 : Int32) σ)) ∧ (¬ ((nw_gS σ 37 24) ≤ x2) → ((vp_in x2 13) ∧ ((((nw_gA σ 50 x2.toNatClampNeg) = x1) → ((vp_in x2 13) ∧ (K (nw_gA σ 49 x2.toNatClampNeg) σ))) ∧ (¬ ((nw_gA σ 50 x2.toNatClampNeg) = x1) → (H_2 σ x1 (x2 + (1 : Int32))))))))
def f5_holderOf_2 (K : Int32 → nw_ST → Prop) : Nat → nw_ST → Int32 → Int32 → Prop
  | 0 => fun _ _ _ => False
  | n + 1 => b5_holderOf_2 K (f5_holderOf_2 K n)
def f5_holderOf (K : Int32 → nw_ST → Prop) (σ : nw_ST) (a1 : Int32) : Prop := (∃ n, f5_holderOf_2 K n σ a1 (0 : Int32))
def rm5_holderOf : Room := { frames := 0, cells := 0, slots := 0, locals := 0 }
theorem yd5_holderOf : yX5_holderOf.cls = RX5 ∧ yX5_holderOf.cls ≠ "java/lang/invoke/MethodHandle" ∧ yX5_holderOf.cls ≠ "java/lang/invoke/VarHandle" ∧ (parseMethodDescriptor yX5_holderOf.desc).map (fun d => d.parameters.length) = some 1 := by decide +kernel
set_option maxHeartbeats 4000000 in
set_option maxRecDepth 100000 in
theorem ct5_holderOf (l : Launch) (P : nw_PT) (hD : nw_D P) (σ : nw_ST) (a1 : Int32)  (K : Int32 → nw_ST → Prop) (hf : f5_holderOf K σ a1) : nw_MT l yX5_holderOf cX5_holderOf 3 (some .int) rm5_holderOf P [.ref (P.2.1 37), .int a1] σ (nw_Ki K) := by
  refine nw_enter (by decide) (by first | decide | exact Nat.le_of_ble_eq_true rfl) hD ?_
  intro X hl h he hR
  subst hl
  have h : nw_ok P X cX5_holderOf RX5 3 := h
  show nw_G P X 3 σ [(0, .ref (P.2.1 37)), (1, .int a1)] 0 []
  have hB_2 : ∀ (H_2 : nw_ST → Int32 → Int32 → Prop) (hH_2 : (∀ (σ : nw_ST) (x1 : Int32) (x2 : Int32), H_2 σ x1 x2 → nw_G P X 3 σ [(0, .ref (P.2.1 37)), (1, .int x1), (2, .int x2)] 2 [])), ∀ (σ : nw_ST) (x1 : Int32) (x2 : Int32), b5_holderOf_2 K H_2 σ x1 x2 → nw_G P X 3 σ [(0, .ref (P.2.1 37)), (1, .int x1), (2, .int x2)] 2 [] := by
    intro H_2 hH_2 σ x1 x2 hf
    unfold b5_holderOf_2 at hf
    refine nw_iload_n (pc := 2) h dX5_holderOf_2 rfl 2 rfl ?_
    refine nw_aload_n (pc := 3) h dX5_holderOf_3 rfl 0 rfl ?_
    refine gf5_170 (pc := 4) h rfl dX5_holderOf_4 ?_
    refine nw_icmp_ge (pc := 7) (tgt := 33) h dX5_holderOf_7 (by decide) (fun c_7 => ?_) (fun c_7 => ?_)
    · have hf := hf.1 c_7
      refine nw_iconst (pc := 33) (v := -1) h dX5_holderOf_33 (by decide) ?_
      exact nw_iret (pc := 34) h he dX5_holderOf_34 ⟨_, rfl, hf⟩
    · have hf := hf.2 c_7
      refine nw_aload_n (pc := 10) h dX5_holderOf_10 rfl 0 rfl ?_
      refine gf5_46 (pc := 11) (r := 50) h rfl rfl dX5_holderOf_11 ?_
      refine nw_iload_n (pc := 14) h dX5_holderOf_14 rfl 2 rfl ?_
      obtain ⟨h_15, hf⟩ := hf
      refine nw_iald (pc := 15) (n := 13) h rfl rfl h_15 dX5_holderOf_15 ?_
      refine nw_iload_n (pc := 16) h dX5_holderOf_16 rfl 1 rfl ?_
      refine nw_icmp_ne (pc := 17) (tgt := 27) h dX5_holderOf_17 (by decide) (fun c_17 => ?_) (fun c_17 => ?_)
      · have hf := hf.2 c_17
        refine nw_iinc (pc := 27) (v := (x2 + (1 : Int32))) (lv' := [(2, .int (x2 + (1 : Int32))), (0, .ref (P.2.1 37)), (1, .int x1)]) h dX5_holderOf_27 (j := 2) rfl rfl (by decide) rfl ?_
        refine nw_goto (pc := 30) (tgt := 2) h dX5_holderOf_30 (by decide) ?_
        refine nw_sub (lv' := [(0, .ref (P.2.1 37)), (1, .int x1), (2, .int (x2 + (1 : Int32)))]) [1, 2, 0] rfl ?_
        exact hH_2 _ _ _ (hf)
      · have hf := hf.1 c_17
        refine nw_aload_n (pc := 20) h dX5_holderOf_20 rfl 0 rfl ?_
        refine gf5_43 (pc := 21) (r := 49) h rfl rfl dX5_holderOf_21 ?_
        refine nw_iload_n (pc := 24) h dX5_holderOf_24 rfl 2 rfl ?_
        obtain ⟨h_25, hf⟩ := hf
        refine nw_iald (pc := 25) (n := 13) h rfl rfl h_25 dX5_holderOf_25 ?_
        exact nw_iret (pc := 26) h he dX5_holderOf_26 ⟨_, rfl, hf⟩
  have hL_2 :  ∀ (n : Nat) (σ : nw_ST) (x1 : Int32) (x2 : Int32), f5_holderOf_2 K n σ x1 x2 → nw_G P X 3 σ [(0, .ref (P.2.1 37)), (1, .int x1), (2, .int x2)] 2 [] := by
    intro n
    induction n with
    | zero => intro σ x1 x2 hf; exact False.elim hf
    | succ n ih => exact hB_2 _ ih
  unfold f5_holderOf at hf
  refine nw_iconst (pc := 0) (v := 0) h dX5_holderOf_0 (by decide) ?_
  refine nw_istore_n (pc := 1) (lv' := [(2, .int (0 : Int32)), (0, .ref (P.2.1 37)), (1, .int a1)]) h dX5_holderOf_1 rfl (by decide) rfl ?_
  obtain ⟨n_2, hf⟩ := hf
  refine nw_sub (lv' := [(0, .ref (P.2.1 37)), (1, .int a1), (2, .int (0 : Int32))]) [1, 2, 0] rfl ?_
  exact hL_2 n_2 _ _ _ hf
theorem klX5_222 {P : nw_PT} {X : nw_EX} {cc : ByteArray} {nL : Nat} {σ : nw_ST} {lv : List (Nat × Value)} {pc : Nat} {rest : List Value} {a1 : Int32} (h : nw_ok P X cc RX5 nL) (hR : rm5_holderOf.frames + 1 ≤ X.2.2.2.1.frames ∧ 8 + (3 + 11) + rm5_holderOf.locals ≤ X.2.2.2.1.locals)  {K : Int32 → nw_ST → Prop} (hf : f5_holderOf K σ a1) (hst : (rest.map fun v => v.category).sum ≤ 8) (hd : decode cc pc = .ok (.invokevirtual 222, 3)) (k : ∀ (r : Int32) (s2 : nw_ST), K r s2 → nw_G P X nL s2 lv (pc + 3) (.int r :: rest)) : nw_G P X nL σ lv pc (.int a1 :: .ref (P.2.1 37) :: rest) :=
  nw_callV (As := [.int a1]) (rest := rest) (C := RX5) (ci := 5) h (ct5_holderOf _ P h.2.2 σ a1 K hf) (nw_goodV nw_w491 nw_w492 nw_w493 nw_w342 nw_w494) yd5_holderOf rfl hR ⟨rfl, rfl⟩ rfl (by decide) rfl rfl hst rfl hd (fun v s2 z => by obtain ⟨r, rfl, z⟩ := z; exact k r s2 z)
def f5_claimsNow_103 (K : Int32 → nw_ST → Prop) (H_4 : nw_ST → Int32 → Int32 → Int32 → Prop) (σ : nw_ST) (x1 : Int32) (x2 : Int32) (x3 : Int32) : Prop := (H_4 σ x1 x2 (x3 + (1 : Int32)))
def f5_claimsNow_101 (K : Int32 → nw_ST → Prop) (H_4 : nw_ST → Int32 → Int32 → Int32 → Prop) (σ : nw_ST) (x1 : Int32) (x3 : Int32) (y0 : Int32) (y1 : Int32) : Prop := (f5_claimsNow_103 K H_4 σ x1 (y1 + y0) x3)
def f5_claimsNow_70 (K : Int32 → nw_ST → Prop) (H_4 : nw_ST → Int32 → Int32 → Int32 → Prop) (σ : nw_ST) (x1 : Int32) (x3 : Int32) (x4 : Int32) (x5 : Int32) (y0 : Int32) (y1 : Int32) : Prop := ((vp_in x3 240) ∧ ((((nw_gA σ 52 x3.toNatClampNeg) ≤ (1 : Int32)) → (f5_claimsNow_101 K H_4 σ x1 x3 (0 : Int32) (y1 + y0))) ∧ (¬ ((nw_gA σ 52 x3.toNatClampNeg) ≤ (1 : Int32)) → (f5_holderOf (fun (r_88 : Int32) (s_88 : nw_ST) => (f5_claimsNow_101 K H_4 s_88 x1 x3 (if (r_88 = x1) then x5 else (0 : Int32)) (y1 + y0))) σ (x4 + (1 : Int32))))))
def f5_claimsNow_51 (K : Int32 → nw_ST → Prop) (H_4 : nw_ST → Int32 → Int32 → Int32 → Prop) (σ : nw_ST) (x1 : Int32) (x2 : Int32) (x3 : Int32) (x4 : Int32) (y0 : Int32) : Prop := (f5_holderOf (fun (r_57 : Int32) (s_57 : nw_ST) => (f5_claimsNow_70 K H_4 s_57 x1 x3 x4 y0 (if (r_57 = x1) then y0 else (0 : Int32)) x2)) σ x4)
def b5_claimsNow_4 (K : Int32 → nw_ST → Prop) (H_4 : nw_ST → Int32 → Int32 → Int32 → Prop) (σ : nw_ST) (x1 : Int32) (x2 : Int32) (x3 : Int32) : Prop := ((((240 : Int32) ≤ x3) → (K x2 σ)) ∧ (¬ ((240 : Int32) ≤ x3) → ((vp_in x3 240) ∧ ((((nw_gA σ 53 x3.toNatClampNeg) ≤ 0) → (f5_claimsNow_103 K H_4 σ x1 x2 x3)) ∧ (¬ ((nw_gA σ 53 x3.toNatClampNeg) ≤ 0) → (f5_bringsNow (fun (r_27 : Int32) (s_27 : nw_ST) => ((vp_in x3 240) ∧ (f5_claimsNow_51 K H_4 s_27 x1 x2 x3 (nw_gA σ 53 x3.toNatClampNeg) (if ((nw_gA s_27 52 x3.toNatClampNeg) ≤ (1 : Int32)) then r_27 else (r_27 / (2 : Int32)))))) σ (nw_gA σ 53 x3.toNatClampNeg)))))))
def f5_claimsNow_4 (K : Int32 → nw_ST → Prop) : Nat → nw_ST → Int32 → Int32 → Int32 → Prop
  | 0 => fun _ _ _ _ => False
  | n + 1 => b5_claimsNow_4 K (f5_claimsNow_4 K n)
def f5_claimsNow (K : Int32 → nw_ST → Prop) (σ : nw_ST) (a1 : Int32) : Prop := (∃ n, f5_claimsNow_4 K n σ a1 (0 : Int32) (0 : Int32))
def rm5_claimsNow : Room := { frames := 1, cells := 0, slots := 0, locals := 23 }
theorem yd5_claimsNow : yX5_claimsNow.cls = RX5 ∧ yX5_claimsNow.cls ≠ "java/lang/invoke/MethodHandle" ∧ yX5_claimsNow.cls ≠ "java/lang/invoke/VarHandle" ∧ (parseMethodDescriptor yX5_claimsNow.desc).map (fun d => d.parameters.length) = some 1 := by decide +kernel
set_option maxHeartbeats 4000000 in
set_option maxRecDepth 100000 in
theorem ct5_claimsNow (l : Launch) (P : nw_PT) (hD : nw_D P) (σ : nw_ST) (a1 : Int32)  (K : Int32 → nw_ST → Prop) (hf : f5_claimsNow K σ a1) : nw_MT l yX5_claimsNow cX5_claimsNow 6 (some .int) rm5_claimsNow P [.ref (P.2.1 37), .int a1] σ (nw_Ki K) := by
  refine nw_enter (by decide) (by first | decide | exact Nat.le_of_ble_eq_true rfl) hD ?_
  intro X hl h he hR
  subst hl
  have h : nw_ok P X cX5_claimsNow RX5 6 := h
  show nw_G P X 6 σ [(0, .ref (P.2.1 37)), (1, .int a1)] 0 []
  have hL_103 : ∀ (H_4 : nw_ST → Int32 → Int32 → Int32 → Prop) (hH_4 : (∀ (σ : nw_ST) (x1 : Int32) (x2 : Int32) (x3 : Int32), H_4 σ x1 x2 x3 → nw_G P X 6 σ [(0, .ref (P.2.1 37)), (1, .int x1), (2, .int x2), (3, .int x3)] 4 [])), ∀ (σ : nw_ST) (x1 : Int32) (x2 : Int32) (x3 : Int32), f5_claimsNow_103 K H_4 σ x1 x2 x3 → nw_G P X 6 σ [(0, .ref (P.2.1 37)), (1, .int x1), (2, .int x2), (3, .int x3)] 103 [] := by
    intro H_4 hH_4 σ x1 x2 x3 hf
    unfold f5_claimsNow_103 at hf
    refine nw_iinc (pc := 103) (v := (x3 + (1 : Int32))) (lv' := [(3, .int (x3 + (1 : Int32))), (0, .ref (P.2.1 37)), (1, .int x1), (2, .int x2)]) h dX5_claimsNow_103 (j := 3) rfl rfl (by decide) rfl ?_
    refine nw_goto (pc := 106) (tgt := 4) h dX5_claimsNow_106 (by decide) ?_
    refine nw_sub (lv' := [(0, .ref (P.2.1 37)), (1, .int x1), (2, .int x2), (3, .int (x3 + (1 : Int32)))]) [1, 2, 3, 0] rfl ?_
    exact hH_4 _ _ _ _ (hf)
  have hL_101 : ∀ (H_4 : nw_ST → Int32 → Int32 → Int32 → Prop) (hH_4 : (∀ (σ : nw_ST) (x1 : Int32) (x2 : Int32) (x3 : Int32), H_4 σ x1 x2 x3 → nw_G P X 6 σ [(0, .ref (P.2.1 37)), (1, .int x1), (2, .int x2), (3, .int x3)] 4 [])), ∀ (σ : nw_ST) (x1 : Int32) (x3 : Int32) (y0 : Int32) (y1 : Int32), f5_claimsNow_101 K H_4 σ x1 x3 y0 y1 → nw_G P X 6 σ [(0, .ref (P.2.1 37)), (1, .int x1), (3, .int x3)] 101 [.int y0, .int y1] := by
    intro H_4 hH_4 σ x1 x3 y0 y1 hf
    unfold f5_claimsNow_101 at hf
    refine nw_iadd (pc := 101) h dX5_claimsNow_101 ?_
    refine nw_istore_n (pc := 102) (lv' := [(2, .int (y1 + y0)), (0, .ref (P.2.1 37)), (1, .int x1), (3, .int x3)]) h dX5_claimsNow_102 rfl (by decide) rfl ?_
    refine nw_sub (lv' := [(0, .ref (P.2.1 37)), (1, .int x1), (2, .int (y1 + y0)), (3, .int x3)]) [1, 2, 0, 3] rfl ?_
    exact hL_103 H_4 hH_4 _ _ _ _ (hf)
  have hL_70 : ∀ (H_4 : nw_ST → Int32 → Int32 → Int32 → Prop) (hH_4 : (∀ (σ : nw_ST) (x1 : Int32) (x2 : Int32) (x3 : Int32), H_4 σ x1 x2 x3 → nw_G P X 6 σ [(0, .ref (P.2.1 37)), (1, .int x1), (2, .int x2), (3, .int x3)] 4 [])), ∀ (σ : nw_ST) (x1 : Int32) (x3 : Int32) (x4 : Int32) (x5 : Int32) (y0 : Int32) (y1 : Int32), f5_claimsNow_70 K H_4 σ x1 x3 x4 x5 y0 y1 → nw_G P X 6 σ [(0, .ref (P.2.1 37)), (1, .int x1), (3, .int x3), (4, .int x4), (5, .int x5)] 70 [.int y0, .int y1] := by
    intro H_4 hH_4 σ x1 x3 x4 x5 y0 y1 hf
    unfold f5_claimsNow_70 at hf
    refine nw_iadd (pc := 70) h dX5_claimsNow_70 ?_
    refine nw_istore_n (pc := 71) (lv' := [(2, .int (y1 + y0)), (0, .ref (P.2.1 37)), (1, .int x1), (3, .int x3), (4, .int x4), (5, .int x5)]) h dX5_claimsNow_71 rfl (by decide) rfl ?_
    refine nw_iload_n (pc := 72) h dX5_claimsNow_72 rfl 0 rfl ?_
    refine nw_aload_n (pc := 73) h dX5_claimsNow_73 rfl 1 rfl ?_
    refine gf5_52 (pc := 74) (r := 52) h rfl rfl dX5_claimsNow_74 ?_
    refine nw_iload_n (pc := 77) h dX5_claimsNow_77 rfl 3 rfl ?_
    obtain ⟨h_78, hf⟩ := hf
    refine nw_iald (pc := 78) (n := 240) h rfl rfl h_78 dX5_claimsNow_78 ?_
    refine nw_iconst (pc := 79) (v := 1) h dX5_claimsNow_79 (by decide) ?_
    refine nw_icmp_le (pc := 80) (tgt := 100) h dX5_claimsNow_80 (by decide) (fun c_80 => ?_) (fun c_80 => ?_)
    · have hf := hf.1 c_80
      refine nw_iconst (pc := 100) (v := 0) h dX5_claimsNow_100 (by decide) ?_
      refine nw_sub (lv' := [(0, .ref (P.2.1 37)), (1, .int x1), (3, .int x3)]) [1, 2, 3] rfl ?_
      exact hL_101 H_4 hH_4 _ _ _ _ _ (hf)
    · have hf := hf.2 c_80
      refine nw_aload_n (pc := 83) h dX5_claimsNow_83 rfl 1 rfl ?_
      refine nw_iload (pc := 84) h dX5_claimsNow_84 4 rfl ?_
      refine nw_iconst (pc := 86) (v := 1) h dX5_claimsNow_86 (by decide) ?_
      refine nw_iadd (pc := 87) h dX5_claimsNow_87 ?_
      refine klX5_222 (pc := 88) h (by rw [hR]; decide) hf (Nat.le_of_ble_eq_true rfl) dX5_claimsNow_88 (fun r_88 s_88 hf => ?_)
      refine nw_iload_n (pc := 91) h dX5_claimsNow_91 rfl 2 rfl ?_
      refine nw_icmp_ne (pc := 92) (tgt := 100) h dX5_claimsNow_92 (by decide) (fun c_92 => ?_) (fun c_92 => ?_)
      · skip
        refine nw_iconst (pc := 100) (v := 0) h dX5_claimsNow_100 (by decide) ?_
        simp only [if_neg c_92] at hf
        refine nw_sub (lv' := [(0, .ref (P.2.1 37)), (1, .int x1), (3, .int x3)]) [1, 2, 3] rfl ?_
        exact hL_101 H_4 hH_4 _ _ _ _ _ hf
      · skip
        refine nw_iload (pc := 95) h dX5_claimsNow_95 5 rfl ?_
        refine nw_goto (pc := 97) (tgt := 101) h dX5_claimsNow_97 (by decide) ?_
        simp only [if_pos c_92] at hf
        refine nw_sub (lv' := [(0, .ref (P.2.1 37)), (1, .int x1), (3, .int x3)]) [1, 2, 3] rfl ?_
        exact hL_101 H_4 hH_4 _ _ _ _ _ hf
  have hL_51 : ∀ (H_4 : nw_ST → Int32 → Int32 → Int32 → Prop) (hH_4 : (∀ (σ : nw_ST) (x1 : Int32) (x2 : Int32) (x3 : Int32), H_4 σ x1 x2 x3 → nw_G P X 6 σ [(0, .ref (P.2.1 37)), (1, .int x1), (2, .int x2), (3, .int x3)] 4 [])), ∀ (σ : nw_ST) (x1 : Int32) (x2 : Int32) (x3 : Int32) (x4 : Int32) (y0 : Int32), f5_claimsNow_51 K H_4 σ x1 x2 x3 x4 y0 → nw_G P X 6 σ [(0, .ref (P.2.1 37)), (1, .int x1), (2, .int x2), (3, .int x3), (4, .int x4)] 51 [.int y0] := by
    intro H_4 hH_4 σ x1 x2 x3 x4 y0 hf
    unfold f5_claimsNow_51 at hf
    refine nw_istore (pc := 51) (lv' := [(5, .int y0), (0, .ref (P.2.1 37)), (1, .int x1), (2, .int x2), (3, .int x3), (4, .int x4)]) h dX5_claimsNow_51 (by decide) rfl ?_
    refine nw_iload_n (pc := 53) h dX5_claimsNow_53 rfl 3 rfl ?_
    refine nw_aload_n (pc := 54) h dX5_claimsNow_54 rfl 1 rfl ?_
    refine nw_iload (pc := 55) h dX5_claimsNow_55 5 rfl ?_
    refine klX5_222 (pc := 57) h (by rw [hR]; decide) hf (Nat.le_of_ble_eq_true rfl) dX5_claimsNow_57 (fun r_57 s_57 hf => ?_)
    refine nw_iload_n (pc := 60) h dX5_claimsNow_60 rfl 2 rfl ?_
    refine nw_icmp_ne (pc := 61) (tgt := 69) h dX5_claimsNow_61 (by decide) (fun c_61 => ?_) (fun c_61 => ?_)
    · skip
      refine nw_iconst (pc := 69) (v := 0) h dX5_claimsNow_69 (by decide) ?_
      simp only [if_neg c_61] at hf
      refine nw_sub (lv' := [(0, .ref (P.2.1 37)), (1, .int x1), (3, .int x3), (4, .int x4), (5, .int y0)]) [1, 2, 4, 5, 0] rfl ?_
      exact hL_70 H_4 hH_4 _ _ _ _ _ _ _ hf
    · skip
      refine nw_iload (pc := 64) h dX5_claimsNow_64 0 rfl ?_
      refine nw_goto (pc := 66) (tgt := 70) h dX5_claimsNow_66 (by decide) ?_
      simp only [if_pos c_61] at hf
      refine nw_sub (lv' := [(0, .ref (P.2.1 37)), (1, .int x1), (3, .int x3), (4, .int x4), (5, .int y0)]) [1, 2, 4, 5, 0] rfl ?_
      exact hL_70 H_4 hH_4 _ _ _ _ _ _ _ hf
  have hB_4 : ∀ (H_4 : nw_ST → Int32 → Int32 → Int32 → Prop) (hH_4 : (∀ (σ : nw_ST) (x1 : Int32) (x2 : Int32) (x3 : Int32), H_4 σ x1 x2 x3 → nw_G P X 6 σ [(0, .ref (P.2.1 37)), (1, .int x1), (2, .int x2), (3, .int x3)] 4 [])), ∀ (σ : nw_ST) (x1 : Int32) (x2 : Int32) (x3 : Int32), b5_claimsNow_4 K H_4 σ x1 x2 x3 → nw_G P X 6 σ [(0, .ref (P.2.1 37)), (1, .int x1), (2, .int x2), (3, .int x3)] 4 [] := by
    intro H_4 hH_4 σ x1 x2 x3 hf
    unfold b5_claimsNow_4 at hf
    refine nw_iload_n (pc := 4) h dX5_claimsNow_4 rfl 3 rfl ?_
    refine nw_sipush (pc := 5) (v := 240) h dX5_claimsNow_5 (by decide) ?_
    refine nw_icmp_ge (pc := 8) (tgt := 109) h dX5_claimsNow_8 (by decide) (fun c_8 => ?_) (fun c_8 => ?_)
    · have hf := hf.1 c_8
      refine nw_iload_n (pc := 109) h dX5_claimsNow_109 rfl 2 rfl ?_
      exact nw_iret (pc := 110) h he dX5_claimsNow_110 ⟨_, rfl, hf⟩
    · have hf := hf.2 c_8
      refine nw_aload_n (pc := 11) h dX5_claimsNow_11 rfl 0 rfl ?_
      refine gf5_55 (pc := 12) (r := 53) h rfl rfl dX5_claimsNow_12 ?_
      refine nw_iload_n (pc := 15) h dX5_claimsNow_15 rfl 3 rfl ?_
      obtain ⟨h_16, hf⟩ := hf
      refine nw_iald (pc := 16) (n := 240) h rfl rfl h_16 dX5_claimsNow_16 ?_
      refine nw_istore (pc := 17) (lv' := [(4, .int (nw_gA σ 53 x3.toNatClampNeg)), (0, .ref (P.2.1 37)), (1, .int x1), (2, .int x2), (3, .int x3)]) h dX5_claimsNow_17 (by decide) rfl ?_
      refine nw_iload (pc := 19) h dX5_claimsNow_19 0 rfl ?_
      refine nw_if_le (pc := 21) (tgt := 103) h dX5_claimsNow_21 (by decide) (fun c_21 => ?_) (fun c_21 => ?_)
      · have hf := hf.1 c_21
        refine nw_sub (lv' := [(0, .ref (P.2.1 37)), (1, .int x1), (2, .int x2), (3, .int x3)]) [1, 2, 3, 4] rfl ?_
        exact hL_103 H_4 hH_4 _ _ _ _ (hf)
      · have hf := hf.2 c_21
        refine nw_aload_n (pc := 24) h dX5_claimsNow_24 rfl 1 rfl ?_
        refine nw_iload (pc := 25) h dX5_claimsNow_25 0 rfl ?_
        refine klX5_216 (pc := 27) h (by rw [hR]; decide) hf (Nat.le_of_ble_eq_true rfl) dX5_claimsNow_27 (fun r_27 s_27 hf => ?_)
        refine nw_istore (pc := 30) (lv' := [(5, .int r_27), (4, .int (nw_gA σ 53 x3.toNatClampNeg)), (0, .ref (P.2.1 37)), (1, .int x1), (2, .int x2), (3, .int x3)]) h dX5_claimsNow_30 (by decide) rfl ?_
        refine nw_aload_n (pc := 32) h dX5_claimsNow_32 rfl 2 rfl ?_
        refine gf5_52 (pc := 33) (r := 52) h rfl rfl dX5_claimsNow_33 ?_
        refine nw_iload_n (pc := 36) h dX5_claimsNow_36 rfl 5 rfl ?_
        obtain ⟨h_37, hf⟩ := hf
        refine nw_iald (pc := 37) (n := 240) h rfl rfl h_37 dX5_claimsNow_37 ?_
        refine nw_iconst (pc := 38) (v := 1) h dX5_claimsNow_38 (by decide) ?_
        refine nw_icmp_le (pc := 39) (tgt := 49) h dX5_claimsNow_39 (by decide) (fun c_39 => ?_) (fun c_39 => ?_)
        · skip
          refine nw_iload (pc := 49) h dX5_claimsNow_49 0 rfl ?_
          simp only [if_pos c_39] at hf
          refine nw_sub (lv' := [(0, .ref (P.2.1 37)), (1, .int x1), (2, .int x2), (3, .int x3), (4, .int (nw_gA σ 53 x3.toNatClampNeg))]) [2, 3, 4, 5, 1] rfl ?_
          exact hL_51 H_4 hH_4 _ _ _ _ _ _ hf
        · skip
          refine nw_iload (pc := 42) h dX5_claimsNow_42 0 rfl ?_
          refine nw_iconst (pc := 44) (v := 2) h dX5_claimsNow_44 (by decide) ?_
          refine nw_idiv (pc := 45) h dX5_claimsNow_45 (by decide) ?_
          refine nw_goto (pc := 46) (tgt := 51) h dX5_claimsNow_46 (by decide) ?_
          simp only [if_neg c_39] at hf
          refine nw_sub (lv' := [(0, .ref (P.2.1 37)), (1, .int x1), (2, .int x2), (3, .int x3), (4, .int (nw_gA σ 53 x3.toNatClampNeg))]) [2, 3, 4, 5, 1] rfl ?_
          exact hL_51 H_4 hH_4 _ _ _ _ _ _ hf
  have hL_4 :  ∀ (n : Nat) (σ : nw_ST) (x1 : Int32) (x2 : Int32) (x3 : Int32), f5_claimsNow_4 K n σ x1 x2 x3 → nw_G P X 6 σ [(0, .ref (P.2.1 37)), (1, .int x1), (2, .int x2), (3, .int x3)] 4 [] := by
    intro n
    induction n with
    | zero => intro σ x1 x2 x3 hf; exact False.elim hf
    | succ n ih => exact hB_4 _ ih
  unfold f5_claimsNow at hf
  refine nw_iconst (pc := 0) (v := 0) h dX5_claimsNow_0 (by decide) ?_
  refine nw_istore_n (pc := 1) (lv' := [(2, .int (0 : Int32)), (0, .ref (P.2.1 37)), (1, .int a1)]) h dX5_claimsNow_1 rfl (by decide) rfl ?_
  refine nw_iconst (pc := 2) (v := 0) h dX5_claimsNow_2 (by decide) ?_
  refine nw_istore_n (pc := 3) (lv' := [(3, .int (0 : Int32)), (2, .int (0 : Int32)), (0, .ref (P.2.1 37)), (1, .int a1)]) h dX5_claimsNow_3 rfl (by decide) rfl ?_
  obtain ⟨n_4, hf⟩ := hf
  refine nw_sub (lv' := [(0, .ref (P.2.1 37)), (1, .int a1), (2, .int (0 : Int32)), (3, .int (0 : Int32))]) [2, 3, 1, 0] rfl ?_
  exact hL_4 n_4 _ _ _ _ hf
theorem klX5_225 {P : nw_PT} {X : nw_EX} {cc : ByteArray} {nL : Nat} {σ : nw_ST} {lv : List (Nat × Value)} {pc : Nat} {rest : List Value} {a1 : Int32} (h : nw_ok P X cc RX5 nL) (hR : rm5_claimsNow.frames + 1 ≤ X.2.2.2.1.frames ∧ 8 + (6 + 11) + rm5_claimsNow.locals ≤ X.2.2.2.1.locals)  {K : Int32 → nw_ST → Prop} (hf : f5_claimsNow K σ a1) (hst : (rest.map fun v => v.category).sum ≤ 8) (hd : decode cc pc = .ok (.invokevirtual 225, 3)) (k : ∀ (r : Int32) (s2 : nw_ST), K r s2 → nw_G P X nL s2 lv (pc + 3) (.int r :: rest)) : nw_G P X nL σ lv pc (.int a1 :: .ref (P.2.1 37) :: rest) :=
  nw_callV (As := [.int a1]) (rest := rest) (C := RX5) (ci := 5) h (ct5_claimsNow _ P h.2.2 σ a1 K hf) (nw_goodV nw_w495 nw_w496 nw_w497 nw_w342 nw_w498) yd5_claimsNow rfl hR ⟨rfl, rfl⟩ rfl (by decide) rfl rfl hst rfl hd (fun v s2 z => by obtain ⟨r, rfl, z⟩ := z; exact k r s2 z)
def f5_claimsOf (K : Int32 → nw_ST → Prop) (σ : nw_ST) (a1 : Int32) : Prop := (f5_laysTold (fun (s_1 : nw_ST) => (f5_claimsNow (fun (r_6 : Int32) (s_6 : nw_ST) => (K r_6 s_6)) s_1 a1)) σ)
def rm5_claimsOf : Room := { frames := 8, cells := 0, slots := 0, locals := 180 }
theorem yd5_claimsOf : yX5_claimsOf.cls = RX5 ∧ yX5_claimsOf.cls ≠ "java/lang/invoke/MethodHandle" ∧ yX5_claimsOf.cls ≠ "java/lang/invoke/VarHandle" ∧ (parseMethodDescriptor yX5_claimsOf.desc).map (fun d => d.parameters.length) = some 1 := by decide +kernel
set_option maxHeartbeats 4000000 in
set_option maxRecDepth 100000 in
theorem ct5_claimsOf (l : Launch) (P : nw_PT) (hD : nw_D P) (σ : nw_ST) (a1 : Int32)  (K : Int32 → nw_ST → Prop) (hf : f5_claimsOf K σ a1) : nw_MT l yX5_claimsOf cX5_claimsOf 2 (some .int) rm5_claimsOf P [.ref (P.2.1 37), .int a1] σ (nw_Ki K) := by
  refine nw_enter (by decide) (by first | decide | exact Nat.le_of_ble_eq_true rfl) hD ?_
  intro X hl h he hR
  subst hl
  have h : nw_ok P X cX5_claimsOf RX5 2 := h
  show nw_G P X 2 σ [(0, .ref (P.2.1 37)), (1, .int a1)] 0 []
  unfold f5_claimsOf at hf
  refine nw_aload_n (pc := 0) h dX5_claimsOf_0 rfl 0 rfl ?_
  refine klX5_198 (pc := 1) h (by rw [hR]; decide) hf (Nat.le_of_ble_eq_true rfl) dX5_claimsOf_1 (fun s_1 hf => ?_)
  refine nw_aload_n (pc := 4) h dX5_claimsOf_4 rfl 0 rfl ?_
  refine nw_iload_n (pc := 5) h dX5_claimsOf_5 rfl 1 rfl ?_
  refine klX5_225 (pc := 6) h (by rw [hR]; decide) hf (Nat.le_of_ble_eq_true rfl) dX5_claimsOf_6 (fun r_6 s_6 hf => ?_)
  exact nw_iret (pc := 9) h he dX5_claimsOf_9 ⟨_, rfl, hf⟩
theorem klX5_228 {P : nw_PT} {X : nw_EX} {cc : ByteArray} {nL : Nat} {σ : nw_ST} {lv : List (Nat × Value)} {pc : Nat} {rest : List Value} {a1 : Int32} (h : nw_ok P X cc RX5 nL) (hR : rm5_claimsOf.frames + 1 ≤ X.2.2.2.1.frames ∧ 8 + (2 + 11) + rm5_claimsOf.locals ≤ X.2.2.2.1.locals)  {K : Int32 → nw_ST → Prop} (hf : f5_claimsOf K σ a1) (hst : (rest.map fun v => v.category).sum ≤ 8) (hd : decode cc pc = .ok (.invokevirtual 228, 3)) (k : ∀ (r : Int32) (s2 : nw_ST), K r s2 → nw_G P X nL s2 lv (pc + 3) (.int r :: rest)) : nw_G P X nL σ lv pc (.int a1 :: .ref (P.2.1 37) :: rest) :=
  nw_callV (As := [.int a1]) (rest := rest) (C := RX5) (ci := 5) h (ct5_claimsOf _ P h.2.2 σ a1 K hf) (nw_goodV nw_w499 nw_w500 nw_w501 nw_w342 nw_w502) yd5_claimsOf rfl hR ⟨rfl, rfl⟩ rfl (by decide) rfl rfl hst rfl hd (fun v s2 z => by obtain ⟨r, rfl, z⟩ := z; exact k r s2 z)
def f5_claims_20 (K : Int32 → nw_ST → Prop) (σ : nw_ST) (y0 : Int32) : Prop := (K y0 σ)
def f5_claims (K : Int32 → nw_ST → Prop) (σ : nw_ST) (a1 : Int32) : Prop := ((((v5_in a1 (0 : Int32) (7 : Int32)) = 0) → (f5_claims_20 K σ (-2 : Int32))) ∧ (¬ ((v5_in a1 (0 : Int32) (7 : Int32)) = 0) → (f5_claimsOf (fun (r_12 : Int32) (s_12 : nw_ST) => (f5_claims_20 K s_12 r_12)) σ a1)))
def rm5_claims : Room := { frames := 9, cells := 0, slots := 0, locals := 201 }
theorem yd5_claims : yX5_claims.cls = RX5 ∧ yX5_claims.cls ≠ "java/lang/invoke/MethodHandle" ∧ yX5_claims.cls ≠ "java/lang/invoke/VarHandle" ∧ (parseMethodDescriptor yX5_claims.desc).map (fun d => d.parameters.length) = some 1 := by decide +kernel
set_option maxHeartbeats 4000000 in
set_option maxRecDepth 100000 in
theorem ct5_claims (l : Launch) (P : nw_PT) (hD : nw_D P) (σ : nw_ST) (a1 : Int32)  (K : Int32 → nw_ST → Prop) (hf : f5_claims K σ a1) : nw_MT l yX5_claims cX5_claims 2 (some .int) rm5_claims P [.ref (P.2.1 37), .int a1] σ (nw_Ki K) := by
  refine nw_enter (by decide) (by first | decide | exact Nat.le_of_ble_eq_true rfl) hD ?_
  intro X hl h he hR
  subst hl
  have h : nw_ok P X cX5_claims RX5 2 := h
  show nw_G P X 2 σ [(0, .ref (P.2.1 37)), (1, .int a1)] 0 []
  have hL_20 :  ∀ (σ : nw_ST) (y0 : Int32), f5_claims_20 K σ y0 → nw_G P X 2 σ [] 20 [.int y0] := by
    intro σ y0 hf
    unfold f5_claims_20 at hf
    exact nw_iret (pc := 20) h he dX5_claims_20 ⟨_, rfl, hf⟩
  unfold f5_claims at hf
  refine nw_iload_n (pc := 0) h dX5_claims_0 rfl 1 rfl ?_
  refine nw_iconst (pc := 1) (v := 0) h dX5_claims_1 (by decide) ?_
  refine nw_bipush (pc := 2) (v := 7) h dX5_claims_2 (by decide) ?_
  refine klX5_89 (pc := 4) h (by rw [hR]; decide) (Nat.le_of_ble_eq_true rfl) dX5_claims_4 ?_
  refine nw_if_eq (pc := 7) (tgt := 18) h dX5_claims_7 (by decide) (fun c_7 => ?_) (fun c_7 => ?_)
  · have hf := hf.1 c_7
    refine nw_bipush (pc := 18) (v := -2) h dX5_claims_18 (by decide) ?_
    refine nw_sub (lv' := []) [] rfl ?_
    exact hL_20 _ _ (hf)
  · have hf := hf.2 c_7
    refine nw_aload_n (pc := 10) h dX5_claims_10 rfl 0 rfl ?_
    refine nw_iload_n (pc := 11) h dX5_claims_11 rfl 1 rfl ?_
    refine klX5_228 (pc := 12) h (by rw [hR]; decide) hf (Nat.le_of_ble_eq_true rfl) dX5_claims_12 (fun r_12 s_12 hf => ?_)
    refine nw_goto (pc := 15) (tgt := 20) h dX5_claims_15 (by decide) ?_
    refine nw_sub (lv' := []) [] rfl ?_
    exact hL_20 _ _ (hf)
def f5_goodOf_71 (K : Int32 → nw_ST → Prop) (σ : nw_ST) (y0 : Int32) : Prop := (K y0 σ)
def f5_goodOf_55 (K : Int32 → nw_ST → Prop) (H_26 : nw_ST → Int32 → Int32 → Int32 → Prop) (σ : nw_ST) (x1 : Int32) (x3 : Int32) (y0 : Int32) : Prop := (H_26 σ x1 y0 (x3 + (1 : Int32)))
def b5_goodOf_26 (K : Int32 → nw_ST → Prop) (H_26 : nw_ST → Int32 → Int32 → Int32 → Prop) (σ : nw_ST) (x1 : Int32) (x2 : Int32) (x3 : Int32) : Prop := (((x1 ≤ x3) → (f5_goodOf_71 K σ (if (x2 = 0) then (0 : Int32) else (1 : Int32)))) ∧ (¬ (x1 ≤ x3) → ((((x2 = 0) → True) ∧ (¬ (x2 = 0) → ((vp_in x3 13) ∧ (vp_in x1 13)))) ∧ (f5_goodOf_55 K H_26 σ x1 x3 (if (x2 = 0) then (0 : Int32) else (if ((nw_gA σ 50 x3.toNatClampNeg) = (nw_gA σ 50 x1.toNatClampNeg)) then (0 : Int32) else (1 : Int32)))))))
def f5_goodOf_26 (K : Int32 → nw_ST → Prop) : Nat → nw_ST → Int32 → Int32 → Int32 → Prop
  | 0 => fun _ _ _ _ => False
  | n + 1 => b5_goodOf_26 K (f5_goodOf_26 K n)
def f5_goodOf_23 (K : Int32 → nw_ST → Prop) (σ : nw_ST) (x1 : Int32) (y0 : Int32) : Prop := (∃ n, f5_goodOf_26 K n σ x1 y0 (0 : Int32))
def f5_goodOf (K : Int32 → nw_ST → Prop) (σ : nw_ST) (a1 : Int32) : Prop := (f5_laysTold (fun (s_1 : nw_ST) => ((vp_in a1 13) ∧ (f5_timeOf (fun (r_11 : Int32) (s_11 : nw_ST) => (f5_goodOf_23 K s_11 a1 (if (r_11 = (-1 : Int32)) then (0 : Int32) else (1 : Int32)))) s_1 (nw_gA s_1 50 a1.toNatClampNeg)))) σ)
def rm5_goodOf : Room := { frames := 8, cells := 0, slots := 0, locals := 180 }
theorem yd5_goodOf : yX5_goodOf.cls = RX5 ∧ yX5_goodOf.cls ≠ "java/lang/invoke/MethodHandle" ∧ yX5_goodOf.cls ≠ "java/lang/invoke/VarHandle" ∧ (parseMethodDescriptor yX5_goodOf.desc).map (fun d => d.parameters.length) = some 1 := by decide +kernel
set_option maxHeartbeats 4000000 in
set_option maxRecDepth 100000 in
theorem ct5_goodOf (l : Launch) (P : nw_PT) (hD : nw_D P) (σ : nw_ST) (a1 : Int32)  (K : Int32 → nw_ST → Prop) (hf : f5_goodOf K σ a1) : nw_MT l yX5_goodOf cX5_goodOf 4 (some .int) rm5_goodOf P [.ref (P.2.1 37), .int a1] σ (nw_Ki K) := by
  refine nw_enter (by decide) (by first | decide | exact Nat.le_of_ble_eq_true rfl) hD ?_
  intro X hl h he hR
  subst hl
  have h : nw_ok P X cX5_goodOf RX5 4 := h
  show nw_G P X 4 σ [(0, .ref (P.2.1 37)), (1, .int a1)] 0 []
  have hL_71 :  ∀ (σ : nw_ST) (y0 : Int32), f5_goodOf_71 K σ y0 → nw_G P X 4 σ [] 71 [.int y0] := by
    intro σ y0 hf
    unfold f5_goodOf_71 at hf
    exact nw_iret (pc := 71) h he dX5_goodOf_71 ⟨_, rfl, hf⟩
  have hL_55 : ∀ (H_26 : nw_ST → Int32 → Int32 → Int32 → Prop) (hH_26 : (∀ (σ : nw_ST) (x1 : Int32) (x2 : Int32) (x3 : Int32), H_26 σ x1 x2 x3 → nw_G P X 4 σ [(0, .ref (P.2.1 37)), (1, .int x1), (2, .int x2), (3, .int x3)] 26 [])), ∀ (σ : nw_ST) (x1 : Int32) (x3 : Int32) (y0 : Int32), f5_goodOf_55 K H_26 σ x1 x3 y0 → nw_G P X 4 σ [(0, .ref (P.2.1 37)), (1, .int x1), (3, .int x3)] 55 [.int y0] := by
    intro H_26 hH_26 σ x1 x3 y0 hf
    unfold f5_goodOf_55 at hf
    refine nw_istore_n (pc := 55) (lv' := [(2, .int y0), (0, .ref (P.2.1 37)), (1, .int x1), (3, .int x3)]) h dX5_goodOf_55 rfl (by decide) rfl ?_
    refine nw_iinc (pc := 56) (v := (x3 + (1 : Int32))) (lv' := [(3, .int (x3 + (1 : Int32))), (2, .int y0), (0, .ref (P.2.1 37)), (1, .int x1)]) h dX5_goodOf_56 (j := 3) rfl rfl (by decide) rfl ?_
    refine nw_goto (pc := 59) (tgt := 26) h dX5_goodOf_59 (by decide) ?_
    refine nw_sub (lv' := [(0, .ref (P.2.1 37)), (1, .int x1), (2, .int y0), (3, .int (x3 + (1 : Int32)))]) [2, 3, 1, 0] rfl ?_
    exact hH_26 _ _ _ _ (hf)
  have hB_26 : ∀ (H_26 : nw_ST → Int32 → Int32 → Int32 → Prop) (hH_26 : (∀ (σ : nw_ST) (x1 : Int32) (x2 : Int32) (x3 : Int32), H_26 σ x1 x2 x3 → nw_G P X 4 σ [(0, .ref (P.2.1 37)), (1, .int x1), (2, .int x2), (3, .int x3)] 26 [])), ∀ (σ : nw_ST) (x1 : Int32) (x2 : Int32) (x3 : Int32), b5_goodOf_26 K H_26 σ x1 x2 x3 → nw_G P X 4 σ [(0, .ref (P.2.1 37)), (1, .int x1), (2, .int x2), (3, .int x3)] 26 [] := by
    intro H_26 hH_26 σ x1 x2 x3 hf
    unfold b5_goodOf_26 at hf
    refine nw_iload_n (pc := 26) h dX5_goodOf_26 rfl 3 rfl ?_
    refine nw_iload_n (pc := 27) h dX5_goodOf_27 rfl 1 rfl ?_
    refine nw_icmp_ge (pc := 28) (tgt := 62) h dX5_goodOf_28 (by decide) (fun c_28 => ?_) (fun c_28 => ?_)
    · have hf := hf.1 c_28
      refine nw_iload_n (pc := 62) h dX5_goodOf_62 rfl 2 rfl ?_
      refine nw_if_eq (pc := 63) (tgt := 70) h dX5_goodOf_63 (by decide) (fun c_63 => ?_) (fun c_63 => ?_)
      · skip
        refine nw_iconst (pc := 70) (v := 0) h dX5_goodOf_70 (by decide) ?_
        simp only [if_pos c_63] at hf
        refine nw_sub (lv' := []) [] rfl ?_
        exact hL_71 _ _ hf
      · skip
        refine nw_iconst (pc := 66) (v := 1) h dX5_goodOf_66 (by decide) ?_
        refine nw_goto (pc := 67) (tgt := 71) h dX5_goodOf_67 (by decide) ?_
        simp only [if_neg c_63] at hf
        refine nw_sub (lv' := []) [] rfl ?_
        exact hL_71 _ _ hf
    · have hf := hf.2 c_28
      refine nw_iload_n (pc := 31) h dX5_goodOf_31 rfl 2 rfl ?_
      obtain ⟨ho, hf⟩ := hf
      refine nw_if_eq (pc := 32) (tgt := 54) h dX5_goodOf_32 (by decide) (fun c_32 => ?_) (fun c_32 => ?_)
      · skip
        have ho := ho.1 c_32
        refine nw_iconst (pc := 54) (v := 0) h dX5_goodOf_54 (by decide) ?_
        simp only [if_pos c_32] at hf
        refine nw_sub (lv' := [(0, .ref (P.2.1 37)), (1, .int x1), (3, .int x3)]) [0, 1, 3] rfl ?_
        exact hL_55 H_26 hH_26 _ _ _ _ hf
      · skip
        have ho := ho.2 c_32
        refine nw_aload_n (pc := 35) h dX5_goodOf_35 rfl 0 rfl ?_
        refine gf5_46 (pc := 36) (r := 50) h rfl rfl dX5_goodOf_36 ?_
        refine nw_iload_n (pc := 39) h dX5_goodOf_39 rfl 3 rfl ?_
        obtain ⟨h_40, ho⟩ := ho
        refine nw_iald (pc := 40) (n := 13) h rfl rfl h_40 dX5_goodOf_40 ?_
        refine nw_aload_n (pc := 41) h dX5_goodOf_41 rfl 0 rfl ?_
        refine gf5_46 (pc := 42) (r := 50) h rfl rfl dX5_goodOf_42 ?_
        refine nw_iload_n (pc := 45) h dX5_goodOf_45 rfl 1 rfl ?_
        have h_46 := ho
        refine nw_iald (pc := 46) (n := 13) h rfl rfl h_46 dX5_goodOf_46 ?_
        refine nw_icmp_eq (pc := 47) (tgt := 54) h dX5_goodOf_47 (by decide) (fun c_47 => ?_) (fun c_47 => ?_)
        · skip
          refine nw_iconst (pc := 54) (v := 0) h dX5_goodOf_54 (by decide) ?_
          simp only [if_neg c_32, if_pos c_47] at hf
          refine nw_sub (lv' := [(0, .ref (P.2.1 37)), (1, .int x1), (3, .int x3)]) [0, 1, 3] rfl ?_
          exact hL_55 H_26 hH_26 _ _ _ _ hf
        · skip
          refine nw_iconst (pc := 50) (v := 1) h dX5_goodOf_50 (by decide) ?_
          refine nw_goto (pc := 51) (tgt := 55) h dX5_goodOf_51 (by decide) ?_
          simp only [if_neg c_32, if_neg c_47] at hf
          refine nw_sub (lv' := [(0, .ref (P.2.1 37)), (1, .int x1), (3, .int x3)]) [0, 1, 3] rfl ?_
          exact hL_55 H_26 hH_26 _ _ _ _ hf
  have hL_26 :  ∀ (n : Nat) (σ : nw_ST) (x1 : Int32) (x2 : Int32) (x3 : Int32), f5_goodOf_26 K n σ x1 x2 x3 → nw_G P X 4 σ [(0, .ref (P.2.1 37)), (1, .int x1), (2, .int x2), (3, .int x3)] 26 [] := by
    intro n
    induction n with
    | zero => intro σ x1 x2 x3 hf; exact False.elim hf
    | succ n ih => exact hB_26 _ ih
  have hL_23 :  ∀ (σ : nw_ST) (x1 : Int32) (y0 : Int32), f5_goodOf_23 K σ x1 y0 → nw_G P X 4 σ [(0, .ref (P.2.1 37)), (1, .int x1)] 23 [.int y0] := by
    intro σ x1 y0 hf
    unfold f5_goodOf_23 at hf
    refine nw_istore_n (pc := 23) (lv' := [(2, .int y0), (0, .ref (P.2.1 37)), (1, .int x1)]) h dX5_goodOf_23 rfl (by decide) rfl ?_
    refine nw_iconst (pc := 24) (v := 0) h dX5_goodOf_24 (by decide) ?_
    refine nw_istore_n (pc := 25) (lv' := [(3, .int (0 : Int32)), (2, .int y0), (0, .ref (P.2.1 37)), (1, .int x1)]) h dX5_goodOf_25 rfl (by decide) rfl ?_
    obtain ⟨n_26, hf⟩ := hf
    refine nw_sub (lv' := [(0, .ref (P.2.1 37)), (1, .int x1), (2, .int y0), (3, .int (0 : Int32))]) [2, 3, 1, 0] rfl ?_
    exact hL_26 n_26 _ _ _ _ hf
  unfold f5_goodOf at hf
  refine nw_aload_n (pc := 0) h dX5_goodOf_0 rfl 0 rfl ?_
  refine klX5_198 (pc := 1) h (by rw [hR]; decide) hf (Nat.le_of_ble_eq_true rfl) dX5_goodOf_1 (fun s_1 hf => ?_)
  refine nw_aload_n (pc := 4) h dX5_goodOf_4 rfl 0 rfl ?_
  refine nw_aload_n (pc := 5) h dX5_goodOf_5 rfl 0 rfl ?_
  refine gf5_46 (pc := 6) (r := 50) h rfl rfl dX5_goodOf_6 ?_
  refine nw_iload_n (pc := 9) h dX5_goodOf_9 rfl 1 rfl ?_
  obtain ⟨h_10, hf⟩ := hf
  refine nw_iald (pc := 10) (n := 13) h rfl rfl h_10 dX5_goodOf_10 ?_
  refine klX5_207 (pc := 11) h (by rw [hR]; decide) hf (Nat.le_of_ble_eq_true rfl) dX5_goodOf_11 (fun r_11 s_11 hf => ?_)
  refine nw_iconst (pc := 14) (v := -1) h dX5_goodOf_14 (by decide) ?_
  refine nw_icmp_eq (pc := 15) (tgt := 22) h dX5_goodOf_15 (by decide) (fun c_15 => ?_) (fun c_15 => ?_)
  · skip
    refine nw_iconst (pc := 22) (v := 0) h dX5_goodOf_22 (by decide) ?_
    simp only [if_pos c_15] at hf
    exact hL_23 _ _ _ hf
  · skip
    refine nw_iconst (pc := 18) (v := 1) h dX5_goodOf_18 (by decide) ?_
    refine nw_goto (pc := 19) (tgt := 23) h dX5_goodOf_19 (by decide) ?_
    simp only [if_neg c_15] at hf
    exact hL_23 _ _ _ hf
theorem klX5_231 {P : nw_PT} {X : nw_EX} {cc : ByteArray} {nL : Nat} {σ : nw_ST} {lv : List (Nat × Value)} {pc : Nat} {rest : List Value} {a1 : Int32} (h : nw_ok P X cc RX5 nL) (hR : rm5_goodOf.frames + 1 ≤ X.2.2.2.1.frames ∧ 8 + (4 + 11) + rm5_goodOf.locals ≤ X.2.2.2.1.locals)  {K : Int32 → nw_ST → Prop} (hf : f5_goodOf K σ a1) (hst : (rest.map fun v => v.category).sum ≤ 8) (hd : decode cc pc = .ok (.invokevirtual 231, 3)) (k : ∀ (r : Int32) (s2 : nw_ST), K r s2 → nw_G P X nL s2 lv (pc + 3) (.int r :: rest)) : nw_G P X nL σ lv pc (.int a1 :: .ref (P.2.1 37) :: rest) :=
  nw_callV (As := [.int a1]) (rest := rest) (C := RX5) (ci := 5) h (ct5_goodOf _ P h.2.2 σ a1 K hf) (nw_goodV nw_w503 nw_w504 nw_w505 nw_w342 nw_w506) yd5_goodOf rfl hR ⟨rfl, rfl⟩ rfl (by decide) rfl rfl hst rfl hd (fun v s2 z => by obtain ⟨r, rfl, z⟩ := z; exact k r s2 z)
def f5_good_24 (K : Int32 → nw_ST → Prop) (σ : nw_ST) (y0 : Int32) : Prop := (K y0 σ)
def f5_good (K : Int32 → nw_ST → Prop) (σ : nw_ST) (a1 : Int32) : Prop := ((((v5_in a1 (0 : Int32) ((nw_gS σ 37 16) - (1 : Int32))) = 0) → (f5_good_24 K σ (-2 : Int32))) ∧ (¬ ((v5_in a1 (0 : Int32) ((nw_gS σ 37 16) - (1 : Int32))) = 0) → (f5_goodOf (fun (r_16 : Int32) (s_16 : nw_ST) => (f5_good_24 K s_16 r_16)) σ a1)))
def rm5_good : Room := { frames := 9, cells := 0, slots := 0, locals := 203 }
theorem yd5_good : yX5_good.cls = RX5 ∧ yX5_good.cls ≠ "java/lang/invoke/MethodHandle" ∧ yX5_good.cls ≠ "java/lang/invoke/VarHandle" ∧ (parseMethodDescriptor yX5_good.desc).map (fun d => d.parameters.length) = some 1 := by decide +kernel
set_option maxHeartbeats 4000000 in
set_option maxRecDepth 100000 in
theorem ct5_good (l : Launch) (P : nw_PT) (hD : nw_D P) (σ : nw_ST) (a1 : Int32)  (K : Int32 → nw_ST → Prop) (hf : f5_good K σ a1) : nw_MT l yX5_good cX5_good 2 (some .int) rm5_good P [.ref (P.2.1 37), .int a1] σ (nw_Ki K) := by
  refine nw_enter (by decide) (by first | decide | exact Nat.le_of_ble_eq_true rfl) hD ?_
  intro X hl h he hR
  subst hl
  have h : nw_ok P X cX5_good RX5 2 := h
  show nw_G P X 2 σ [(0, .ref (P.2.1 37)), (1, .int a1)] 0 []
  have hL_24 :  ∀ (σ : nw_ST) (y0 : Int32), f5_good_24 K σ y0 → nw_G P X 2 σ [] 24 [.int y0] := by
    intro σ y0 hf
    unfold f5_good_24 at hf
    exact nw_iret (pc := 24) h he dX5_good_24 ⟨_, rfl, hf⟩
  unfold f5_good at hf
  refine nw_iload_n (pc := 0) h dX5_good_0 rfl 1 rfl ?_
  refine nw_iconst (pc := 1) (v := 0) h dX5_good_1 (by decide) ?_
  refine nw_aload_n (pc := 2) h dX5_good_2 rfl 0 rfl ?_
  refine gf5_152 (pc := 3) h rfl dX5_good_3 ?_
  refine nw_iconst (pc := 6) (v := 1) h dX5_good_6 (by decide) ?_
  refine nw_isub (pc := 7) h dX5_good_7 ?_
  refine klX5_89 (pc := 8) h (by rw [hR]; decide) (Nat.le_of_ble_eq_true rfl) dX5_good_8 ?_
  refine nw_if_eq (pc := 11) (tgt := 22) h dX5_good_11 (by decide) (fun c_11 => ?_) (fun c_11 => ?_)
  · have hf := hf.1 c_11
    refine nw_bipush (pc := 22) (v := -2) h dX5_good_22 (by decide) ?_
    refine nw_sub (lv' := []) [] rfl ?_
    exact hL_24 _ _ (hf)
  · have hf := hf.2 c_11
    refine nw_aload_n (pc := 14) h dX5_good_14 rfl 0 rfl ?_
    refine nw_iload_n (pc := 15) h dX5_good_15 rfl 1 rfl ?_
    refine klX5_231 (pc := 16) h (by rw [hR]; decide) hf (Nat.le_of_ble_eq_true rfl) dX5_good_16 (fun r_16 s_16 hf => ?_)
    refine nw_goto (pc := 19) (tgt := 24) h dX5_good_19 (by decide) ?_
    refine nw_sub (lv' := []) [] rfl ?_
    exact hL_24 _ _ (hf)
def b5_lowestBy_4 (K : Int32 → nw_ST → Prop) (H_4 : nw_ST → Int32 → Int32 → Prop) (σ : nw_ST) (x2 : Int32) (x3 : Int32) : Prop := (((x3 = 0) → (K x2 σ)) ∧ (¬ (x3 = 0) → ((¬ x3 = 0) ∧ (H_4 σ x3 (nw_rem x2 x3)))))
def f5_lowestBy_4 (K : Int32 → nw_ST → Prop) : Nat → nw_ST → Int32 → Int32 → Prop
  | 0 => fun _ _ _ => False
  | n + 1 => b5_lowestBy_4 K (f5_lowestBy_4 K n)
def f5_lowestBy (K : Int32 → nw_ST → Prop) (σ : nw_ST) (a1 : Int32) (a2 : Int32) : Prop := (∃ n, f5_lowestBy_4 K n σ a1 a2)
def rm5_lowestBy : Room := { frames := 0, cells := 0, slots := 0, locals := 0 }
theorem yd5_lowestBy : yX5_lowestBy.cls = RX5 ∧ yX5_lowestBy.cls ≠ "java/lang/invoke/MethodHandle" ∧ yX5_lowestBy.cls ≠ "java/lang/invoke/VarHandle" ∧ (parseMethodDescriptor yX5_lowestBy.desc).map (fun d => d.parameters.length) = some 2 := by decide +kernel
set_option maxHeartbeats 4000000 in
set_option maxRecDepth 100000 in
theorem ct5_lowestBy (l : Launch) (P : nw_PT) (hD : nw_D P) (σ : nw_ST) (a1 : Int32) (a2 : Int32)  (K : Int32 → nw_ST → Prop) (hf : f5_lowestBy K σ a1 a2) : nw_MT l yX5_lowestBy cX5_lowestBy 5 (some .int) rm5_lowestBy P [.int a1, .int a2] σ (nw_Ki K) := by
  refine nw_enter (by decide) (by first | decide | exact Nat.le_of_ble_eq_true rfl) hD ?_
  intro X hl h he hR
  subst hl
  have h : nw_ok P X cX5_lowestBy RX5 5 := h
  show nw_G P X 5 σ [(0, .int a1), (1, .int a2)] 0 []
  have hB_4 : ∀ (H_4 : nw_ST → Int32 → Int32 → Prop) (hH_4 : (∀ (σ : nw_ST) (x2 : Int32) (x3 : Int32), H_4 σ x2 x3 → nw_G P X 5 σ [(2, .int x2), (3, .int x3)] 4 [])), ∀ (σ : nw_ST) (x2 : Int32) (x3 : Int32), b5_lowestBy_4 K H_4 σ x2 x3 → nw_G P X 5 σ [(2, .int x2), (3, .int x3)] 4 [] := by
    intro H_4 hH_4 σ x2 x3 hf
    unfold b5_lowestBy_4 at hf
    refine nw_iload_n (pc := 4) h dX5_lowestBy_4 rfl 1 rfl ?_
    refine nw_if_eq (pc := 5) (tgt := 21) h dX5_lowestBy_5 (by decide) (fun c_5 => ?_) (fun c_5 => ?_)
    · have hf := hf.1 c_5
      refine nw_iload_n (pc := 21) h dX5_lowestBy_21 rfl 0 rfl ?_
      exact nw_iret (pc := 22) h he dX5_lowestBy_22 ⟨_, rfl, hf⟩
    · have hf := hf.2 c_5
      refine nw_iload_n (pc := 8) h dX5_lowestBy_8 rfl 0 rfl ?_
      refine nw_iload_n (pc := 9) h dX5_lowestBy_9 rfl 1 rfl ?_
      obtain ⟨h_10, hf⟩ := hf
      refine nw_irem (pc := 10) h dX5_lowestBy_10 h_10 ?_
      refine nw_istore (pc := 11) (lv' := [(4, .int (nw_rem x2 x3)), (2, .int x2), (3, .int x3)]) h dX5_lowestBy_11 (by decide) rfl ?_
      refine nw_iload_n (pc := 13) h dX5_lowestBy_13 rfl 2 rfl ?_
      refine nw_istore_n (pc := 14) (lv' := [(2, .int x3), (4, .int (nw_rem x2 x3)), (3, .int x3)]) h dX5_lowestBy_14 rfl (by decide) rfl ?_
      refine nw_iload (pc := 15) h dX5_lowestBy_15 1 rfl ?_
      refine nw_istore_n (pc := 17) (lv' := [(3, .int (nw_rem x2 x3)), (2, .int x3), (4, .int (nw_rem x2 x3))]) h dX5_lowestBy_17 rfl (by decide) rfl ?_
      refine nw_goto (pc := 18) (tgt := 4) h dX5_lowestBy_18 (by decide) ?_
      refine nw_sub (lv' := [(2, .int x3), (3, .int (nw_rem x2 x3))]) [1, 0] rfl ?_
      exact hH_4 _ _ _ (hf)
  have hL_4 :  ∀ (n : Nat) (σ : nw_ST) (x2 : Int32) (x3 : Int32), f5_lowestBy_4 K n σ x2 x3 → nw_G P X 5 σ [(2, .int x2), (3, .int x3)] 4 [] := by
    intro n
    induction n with
    | zero => intro σ x2 x3 hf; exact False.elim hf
    | succ n ih => exact hB_4 _ ih
  unfold f5_lowestBy at hf
  refine nw_iload_n (pc := 0) h dX5_lowestBy_0 rfl 0 rfl ?_
  refine nw_istore_n (pc := 1) (lv' := [(2, .int a1), (0, .int a1), (1, .int a2)]) h dX5_lowestBy_1 rfl (by decide) rfl ?_
  refine nw_iload_n (pc := 2) h dX5_lowestBy_2 rfl 2 rfl ?_
  refine nw_istore_n (pc := 3) (lv' := [(3, .int a2), (2, .int a1), (0, .int a1), (1, .int a2)]) h dX5_lowestBy_3 rfl (by decide) rfl ?_
  obtain ⟨n_4, hf⟩ := hf
  refine nw_sub (lv' := [(2, .int a1), (3, .int a2)]) [1, 0] rfl ?_
  exact hL_4 n_4 _ _ _ hf
theorem klX5_234 {P : nw_PT} {X : nw_EX} {cc : ByteArray} {nL : Nat} {σ : nw_ST} {lv : List (Nat × Value)} {pc : Nat} {rest : List Value} {a1 : Int32} {a2 : Int32} (h : nw_ok P X cc RX5 nL) (hR : rm5_lowestBy.frames + 1 ≤ X.2.2.2.1.frames ∧ 8 + (5 + 11) + rm5_lowestBy.locals ≤ X.2.2.2.1.locals)  {K : Int32 → nw_ST → Prop} (hf : f5_lowestBy K σ a1 a2) (hst : (rest.map fun v => v.category).sum ≤ 8) (hd : decode cc pc = .ok (.invokestatic 234, 3)) (k : ∀ (r : Int32) (s2 : nw_ST), K r s2 → nw_G P X nL s2 lv (pc + 3) (.int r :: rest)) : nw_G P X nL σ lv pc (.int a2 :: .int a1 :: rest) :=
  nw_callS (As := [.int a1, .int a2]) (rest := rest) h (ct5_lowestBy _ P h.2.2 σ a1 a2 K hf) (nw_goodS nw_w507 nw_w508 nw_w342 nw_w509) yd5_lowestBy.2 rfl hR ⟨rfl, rfl⟩ hst rfl hd (fun v s2 z => by obtain ⟨r, rfl, z⟩ := z; exact k r s2 z)
def f5_agreeOf_128 (K : Int32 → nw_ST → Prop) (H_85 : nw_ST → Int32 → Int32 → Int32 → Int32 → Int32 → Int32 → Prop) (σ : nw_ST) (x1 : Int32) (x2 : Int32) (x4 : Int32) (x5 : Int32) (x6 : Int32) (x7 : Int32) : Prop := (H_85 σ x1 x2 x4 x5 x6 (x7 + (1 : Int32)))
def f5_agreeOf_127 (K : Int32 → nw_ST → Prop) (σ : nw_ST) (y0 : Int32) : Prop := (K y0 σ)
def b5_agreeOf_85 (K : Int32 → nw_ST → Prop) (H_85 : nw_ST → Int32 → Int32 → Int32 → Int32 → Int32 → Int32 → Prop) (σ : nw_ST) (x1 : Int32) (x2 : Int32) (x4 : Int32) (x5 : Int32) (x6 : Int32) (x7 : Int32) : Prop := ((((x6 + x5) ≤ x7) → (K (-1 : Int32) σ)) ∧ (¬ ((x6 + x5) ≤ x7) → ((o5_isCrest σ x1 x7) ∧ ((((v5_isCrest σ x1 x7) = 0) → (f5_agreeOf_128 K H_85 σ x1 x2 x4 x5 x6 x7)) ∧ (¬ ((v5_isCrest σ x1 x7) = 0) → ((o5_isCrest σ x2 x7) ∧ ((((v5_isCrest σ x2 x7) = 0) → (f5_agreeOf_128 K H_85 σ x1 x2 x4 x5 x6 x7)) ∧ (¬ ((v5_isCrest σ x2 x7) = 0) → (f5_agreeOf_127 K σ (if (x4 = 0) then x7 else x5))))))))))
def f5_agreeOf_85 (K : Int32 → nw_ST → Prop) : Nat → nw_ST → Int32 → Int32 → Int32 → Int32 → Int32 → Int32 → Prop
  | 0 => fun _ _ _ _ _ _ _ => False
  | n + 1 => b5_agreeOf_85 K (f5_agreeOf_85 K n)
def f5_agreeOf_79 (K : Int32 → nw_ST → Prop) (σ : nw_ST) (x1 : Int32) (x2 : Int32) (x4 : Int32) (x5 : Int32) (y0 : Int32) : Prop := (∃ n, f5_agreeOf_85 K n σ x1 x2 x4 x5 y0 y0)
def f5_agreeOf_65 (K : Int32 → nw_ST → Prop) (σ : nw_ST) (x1 : Int32) (x2 : Int32) (x3 : Int32) (x4 : Int32) (x5 : Int32) (y0 : Int32) : Prop := (f5_agreeOf_79 K σ x1 x2 x4 x5 (if (x3 ≤ y0) then y0 else x3))
def f5_agreeOf (K : Int32 → nw_ST → Prop) (σ : nw_ST) (a1 : Int32) (a2 : Int32) (a3 : Int32) (a4 : Int32) : Prop := ((vp_in a1 7) ∧ ((vp_in a2 7) ∧ ((vp_in a1 7) ∧ ((vp_in a2 7) ∧ (f5_lowestBy (fun (r_27 : Int32) (s_27 : nw_ST) => ((¬ (Int32.toInt64 r_27) = 0) ∧ ((vp_in a1 7) ∧ ((vp_in a2 7) ∧ (((((nw_gA s_27 42 a1.toNatClampNeg) ≤ (nw_gA s_27 42 a2.toNatClampNeg)) → (vp_in a2 7)) ∧ (¬ ((nw_gA s_27 42 a1.toNatClampNeg) ≤ (nw_gA s_27 42 a2.toNatClampNeg)) → (vp_in a1 7))) ∧ (f5_agreeOf_65 K s_27 a1 a2 a3 a4 (Int64.toInt32 (((Int32.toInt64 (nw_gA σ 41 a1.toNatClampNeg)) * (Int32.toInt64 (nw_gA σ 41 a2.toNatClampNeg))) / (Int32.toInt64 r_27))) (if ((nw_gA s_27 42 a1.toNatClampNeg) ≤ (nw_gA s_27 42 a2.toNatClampNeg)) then (nw_gA s_27 42 a2.toNatClampNeg) else (nw_gA s_27 42 a1.toNatClampNeg)))))))) σ (nw_gA σ 41 a1.toNatClampNeg) (nw_gA σ 41 a2.toNatClampNeg))))))
def rm5_agreeOf : Room := { frames := 1, cells := 0, slots := 0, locals := 24 }
theorem yd5_agreeOf : yX5_agreeOf.cls = RX5 ∧ yX5_agreeOf.cls ≠ "java/lang/invoke/MethodHandle" ∧ yX5_agreeOf.cls ≠ "java/lang/invoke/VarHandle" ∧ (parseMethodDescriptor yX5_agreeOf.desc).map (fun d => d.parameters.length) = some 4 := by decide +kernel
set_option maxHeartbeats 4000000 in
set_option maxRecDepth 100000 in
theorem ct5_agreeOf (l : Launch) (P : nw_PT) (hD : nw_D P) (σ : nw_ST) (a1 : Int32) (a2 : Int32) (a3 : Int32) (a4 : Int32)  (K : Int32 → nw_ST → Prop) (hf : f5_agreeOf K σ a1 a2 a3 a4) : nw_MT l yX5_agreeOf cX5_agreeOf 8 (some .int) rm5_agreeOf P [.ref (P.2.1 37), .int a1, .int a2, .int a3, .int a4] σ (nw_Ki K) := by
  refine nw_enter (by decide) (by first | decide | exact Nat.le_of_ble_eq_true rfl) hD ?_
  intro X hl h he hR
  subst hl
  have h : nw_ok P X cX5_agreeOf RX5 8 := h
  show nw_G P X 8 σ [(0, .ref (P.2.1 37)), (1, .int a1), (2, .int a2), (3, .int a3), (4, .int a4)] 0 []
  have hL_128 : ∀ (H_85 : nw_ST → Int32 → Int32 → Int32 → Int32 → Int32 → Int32 → Prop) (hH_85 : (∀ (σ : nw_ST) (x1 : Int32) (x2 : Int32) (x4 : Int32) (x5 : Int32) (x6 : Int32) (x7 : Int32), H_85 σ x1 x2 x4 x5 x6 x7 → nw_G P X 8 σ [(0, .ref (P.2.1 37)), (1, .int x1), (2, .int x2), (4, .int x4), (5, .int x5), (6, .int x6), (7, .int x7)] 85 [])), ∀ (σ : nw_ST) (x1 : Int32) (x2 : Int32) (x4 : Int32) (x5 : Int32) (x6 : Int32) (x7 : Int32), f5_agreeOf_128 K H_85 σ x1 x2 x4 x5 x6 x7 → nw_G P X 8 σ [(0, .ref (P.2.1 37)), (1, .int x1), (2, .int x2), (4, .int x4), (5, .int x5), (6, .int x6), (7, .int x7)] 128 [] := by
    intro H_85 hH_85 σ x1 x2 x4 x5 x6 x7 hf
    unfold f5_agreeOf_128 at hf
    refine nw_iinc (pc := 128) (v := (x7 + (1 : Int32))) (lv' := [(7, .int (x7 + (1 : Int32))), (0, .ref (P.2.1 37)), (1, .int x1), (2, .int x2), (4, .int x4), (5, .int x5), (6, .int x6)]) h dX5_agreeOf_128 (j := 6) rfl rfl (by decide) rfl ?_
    refine nw_goto (pc := 131) (tgt := 85) h dX5_agreeOf_131 (by decide) ?_
    refine nw_sub (lv' := [(0, .ref (P.2.1 37)), (1, .int x1), (2, .int x2), (4, .int x4), (5, .int x5), (6, .int x6), (7, .int (x7 + (1 : Int32)))]) [1, 2, 3, 4, 5, 6, 0] rfl ?_
    exact hH_85 _ _ _ _ _ _ _ (hf)
  have hL_127 :  ∀ (σ : nw_ST) (y0 : Int32), f5_agreeOf_127 K σ y0 → nw_G P X 8 σ [] 127 [.int y0] := by
    intro σ y0 hf
    unfold f5_agreeOf_127 at hf
    exact nw_iret (pc := 127) h he dX5_agreeOf_127 ⟨_, rfl, hf⟩
  have hB_85 : ∀ (H_85 : nw_ST → Int32 → Int32 → Int32 → Int32 → Int32 → Int32 → Prop) (hH_85 : (∀ (σ : nw_ST) (x1 : Int32) (x2 : Int32) (x4 : Int32) (x5 : Int32) (x6 : Int32) (x7 : Int32), H_85 σ x1 x2 x4 x5 x6 x7 → nw_G P X 8 σ [(0, .ref (P.2.1 37)), (1, .int x1), (2, .int x2), (4, .int x4), (5, .int x5), (6, .int x6), (7, .int x7)] 85 [])), ∀ (σ : nw_ST) (x1 : Int32) (x2 : Int32) (x4 : Int32) (x5 : Int32) (x6 : Int32) (x7 : Int32), b5_agreeOf_85 K H_85 σ x1 x2 x4 x5 x6 x7 → nw_G P X 8 σ [(0, .ref (P.2.1 37)), (1, .int x1), (2, .int x2), (4, .int x4), (5, .int x5), (6, .int x6), (7, .int x7)] 85 [] := by
    intro H_85 hH_85 σ x1 x2 x4 x5 x6 x7 hf
    unfold b5_agreeOf_85 at hf
    refine nw_iload (pc := 85) h dX5_agreeOf_85 6 rfl ?_
    refine nw_iload (pc := 87) h dX5_agreeOf_87 5 rfl ?_
    refine nw_iload (pc := 89) h dX5_agreeOf_89 4 rfl ?_
    refine nw_iadd (pc := 91) h dX5_agreeOf_91 ?_
    refine nw_icmp_ge (pc := 92) (tgt := 134) h dX5_agreeOf_92 (by decide) (fun c_92 => ?_) (fun c_92 => ?_)
    · have hf := hf.1 c_92
      refine nw_iconst (pc := 134) (v := -1) h dX5_agreeOf_134 (by decide) ?_
      exact nw_iret (pc := 135) h he dX5_agreeOf_135 ⟨_, rfl, hf⟩
    · have hf := hf.2 c_92
      refine nw_aload_n (pc := 95) h dX5_agreeOf_95 rfl 0 rfl ?_
      refine nw_iload_n (pc := 96) h dX5_agreeOf_96 rfl 1 rfl ?_
      refine nw_iload (pc := 97) h dX5_agreeOf_97 6 rfl ?_
      obtain ⟨h_99, hf⟩ := hf
      refine klX5_179 (pc := 99) h (by rw [hR]; decide) h_99 (Nat.le_of_ble_eq_true rfl) dX5_agreeOf_99 ?_
      refine nw_if_eq (pc := 102) (tgt := 128) h dX5_agreeOf_102 (by decide) (fun c_102 => ?_) (fun c_102 => ?_)
      · have hf := hf.1 c_102
        exact hL_128 H_85 hH_85 _ _ _ _ _ _ _ (hf)
      · have hf := hf.2 c_102
        refine nw_aload_n (pc := 105) h dX5_agreeOf_105 rfl 0 rfl ?_
        refine nw_iload_n (pc := 106) h dX5_agreeOf_106 rfl 2 rfl ?_
        refine nw_iload (pc := 107) h dX5_agreeOf_107 6 rfl ?_
        obtain ⟨h_109, hf⟩ := hf
        refine klX5_179 (pc := 109) h (by rw [hR]; decide) h_109 (Nat.le_of_ble_eq_true rfl) dX5_agreeOf_109 ?_
        refine nw_if_eq (pc := 112) (tgt := 128) h dX5_agreeOf_112 (by decide) (fun c_112 => ?_) (fun c_112 => ?_)
        · have hf := hf.1 c_112
          exact hL_128 H_85 hH_85 _ _ _ _ _ _ _ (hf)
        · have hf := hf.2 c_112
          refine nw_iload (pc := 115) h dX5_agreeOf_115 3 rfl ?_
          refine nw_if_ne (pc := 117) (tgt := 125) h dX5_agreeOf_117 (by decide) (fun c_117 => ?_) (fun c_117 => ?_)
          · skip
            refine nw_iload (pc := 125) h dX5_agreeOf_125 4 rfl ?_
            simp only [if_neg c_117] at hf
            refine nw_sub (lv' := []) [] rfl ?_
            exact hL_127 _ _ hf
          · skip
            refine nw_iload (pc := 120) h dX5_agreeOf_120 6 rfl ?_
            refine nw_goto (pc := 122) (tgt := 127) h dX5_agreeOf_122 (by decide) ?_
            simp only [if_pos c_117] at hf
            refine nw_sub (lv' := []) [] rfl ?_
            exact hL_127 _ _ hf
  have hL_85 :  ∀ (n : Nat) (σ : nw_ST) (x1 : Int32) (x2 : Int32) (x4 : Int32) (x5 : Int32) (x6 : Int32) (x7 : Int32), f5_agreeOf_85 K n σ x1 x2 x4 x5 x6 x7 → nw_G P X 8 σ [(0, .ref (P.2.1 37)), (1, .int x1), (2, .int x2), (4, .int x4), (5, .int x5), (6, .int x6), (7, .int x7)] 85 [] := by
    intro n
    induction n with
    | zero => intro σ x1 x2 x4 x5 x6 x7 hf; exact False.elim hf
    | succ n ih => exact hB_85 _ ih
  have hL_79 :  ∀ (σ : nw_ST) (x1 : Int32) (x2 : Int32) (x4 : Int32) (x5 : Int32) (y0 : Int32), f5_agreeOf_79 K σ x1 x2 x4 x5 y0 → nw_G P X 8 σ [(0, .ref (P.2.1 37)), (1, .int x1), (2, .int x2), (4, .int x4), (5, .int x5)] 79 [.int y0] := by
    intro σ x1 x2 x4 x5 y0 hf
    unfold f5_agreeOf_79 at hf
    refine nw_istore (pc := 79) (lv' := [(6, .int y0), (0, .ref (P.2.1 37)), (1, .int x1), (2, .int x2), (4, .int x4), (5, .int x5)]) h dX5_agreeOf_79 (by decide) rfl ?_
    refine nw_iload (pc := 81) h dX5_agreeOf_81 0 rfl ?_
    refine nw_istore (pc := 83) (lv' := [(7, .int y0), (6, .int y0), (0, .ref (P.2.1 37)), (1, .int x1), (2, .int x2), (4, .int x4), (5, .int x5)]) h dX5_agreeOf_83 (by decide) rfl ?_
    obtain ⟨n_85, hf⟩ := hf
    refine nw_sub (lv' := [(0, .ref (P.2.1 37)), (1, .int x1), (2, .int x2), (4, .int x4), (5, .int x5), (6, .int y0), (7, .int y0)]) [2, 3, 4, 5, 6, 1, 0] rfl ?_
    exact hL_85 n_85 _ _ _ _ _ _ _ hf
  have hL_65 :  ∀ (σ : nw_ST) (x1 : Int32) (x2 : Int32) (x3 : Int32) (x4 : Int32) (x5 : Int32) (y0 : Int32), f5_agreeOf_65 K σ x1 x2 x3 x4 x5 y0 → nw_G P X 8 σ [(0, .ref (P.2.1 37)), (1, .int x1), (2, .int x2), (3, .int x3), (4, .int x4), (5, .int x5)] 65 [.int y0] := by
    intro σ x1 x2 x3 x4 x5 y0 hf
    unfold f5_agreeOf_65 at hf
    refine nw_istore (pc := 65) (lv' := [(6, .int y0), (0, .ref (P.2.1 37)), (1, .int x1), (2, .int x2), (3, .int x3), (4, .int x4), (5, .int x5)]) h dX5_agreeOf_65 (by decide) rfl ?_
    refine nw_iload_n (pc := 67) h dX5_agreeOf_67 rfl 4 rfl ?_
    refine nw_iload (pc := 68) h dX5_agreeOf_68 0 rfl ?_
    refine nw_icmp_le (pc := 70) (tgt := 77) h dX5_agreeOf_70 (by decide) (fun c_70 => ?_) (fun c_70 => ?_)
    · skip
      refine nw_iload (pc := 77) h dX5_agreeOf_77 0 rfl ?_
      simp only [if_pos c_70] at hf
      refine nw_sub (lv' := [(0, .ref (P.2.1 37)), (1, .int x1), (2, .int x2), (4, .int x4), (5, .int x5)]) [1, 2, 3, 5, 6] rfl ?_
      exact hL_79 _ _ _ _ _ _ hf
    · skip
      refine nw_iload_n (pc := 73) h dX5_agreeOf_73 rfl 4 rfl ?_
      refine nw_goto (pc := 74) (tgt := 79) h dX5_agreeOf_74 (by decide) ?_
      simp only [if_neg c_70] at hf
      refine nw_sub (lv' := [(0, .ref (P.2.1 37)), (1, .int x1), (2, .int x2), (4, .int x4), (5, .int x5)]) [1, 2, 3, 5, 6] rfl ?_
      exact hL_79 _ _ _ _ _ _ hf
  unfold f5_agreeOf at hf
  refine nw_aload_n (pc := 0) h dX5_agreeOf_0 rfl 0 rfl ?_
  refine gf5_19 (pc := 1) (r := 41) h rfl rfl dX5_agreeOf_1 ?_
  refine nw_iload_n (pc := 4) h dX5_agreeOf_4 rfl 1 rfl ?_
  obtain ⟨h_5, hf⟩ := hf
  refine nw_iald (pc := 5) (n := 7) h rfl rfl h_5 dX5_agreeOf_5 ?_
  refine nw_i2l (pc := 6) h dX5_agreeOf_6 ?_
  refine nw_aload_n (pc := 7) h dX5_agreeOf_7 rfl 0 rfl ?_
  refine gf5_19 (pc := 8) (r := 41) h rfl rfl dX5_agreeOf_8 ?_
  refine nw_iload_n (pc := 11) h dX5_agreeOf_11 rfl 2 rfl ?_
  obtain ⟨h_12, hf⟩ := hf
  refine nw_iald (pc := 12) (n := 7) h rfl rfl h_12 dX5_agreeOf_12 ?_
  refine nw_i2l (pc := 13) h dX5_agreeOf_13 ?_
  refine nw_lmul (pc := 14) h dX5_agreeOf_14 ?_
  refine nw_aload_n (pc := 15) h dX5_agreeOf_15 rfl 0 rfl ?_
  refine gf5_19 (pc := 16) (r := 41) h rfl rfl dX5_agreeOf_16 ?_
  refine nw_iload_n (pc := 19) h dX5_agreeOf_19 rfl 1 rfl ?_
  obtain ⟨h_20, hf⟩ := hf
  refine nw_iald (pc := 20) (n := 7) h rfl rfl h_20 dX5_agreeOf_20 ?_
  refine nw_aload_n (pc := 21) h dX5_agreeOf_21 rfl 0 rfl ?_
  refine gf5_19 (pc := 22) (r := 41) h rfl rfl dX5_agreeOf_22 ?_
  refine nw_iload_n (pc := 25) h dX5_agreeOf_25 rfl 2 rfl ?_
  obtain ⟨h_26, hf⟩ := hf
  refine nw_iald (pc := 26) (n := 7) h rfl rfl h_26 dX5_agreeOf_26 ?_
  refine klX5_234 (pc := 27) h (by rw [hR]; decide) hf (Nat.le_of_ble_eq_true rfl) dX5_agreeOf_27 (fun r_27 s_27 hf => ?_)
  refine nw_i2l (pc := 30) h dX5_agreeOf_30 ?_
  obtain ⟨h_31, hf⟩ := hf
  refine nw_ldiv_ (pc := 31) h dX5_agreeOf_31 h_31 ?_
  refine nw_l2i (pc := 32) h dX5_agreeOf_32 ?_
  refine nw_istore (pc := 33) (lv' := [(5, .int (Int64.toInt32 (((Int32.toInt64 (nw_gA σ 41 a1.toNatClampNeg)) * (Int32.toInt64 (nw_gA σ 41 a2.toNatClampNeg))) / (Int32.toInt64 r_27)))), (0, .ref (P.2.1 37)), (1, .int a1), (2, .int a2), (3, .int a3), (4, .int a4)]) h dX5_agreeOf_33 (by decide) rfl ?_
  refine nw_aload_n (pc := 35) h dX5_agreeOf_35 rfl 1 rfl ?_
  refine gf5_22 (pc := 36) (r := 42) h rfl rfl dX5_agreeOf_36 ?_
  refine nw_iload_n (pc := 39) h dX5_agreeOf_39 rfl 2 rfl ?_
  obtain ⟨h_40, hf⟩ := hf
  refine nw_iald (pc := 40) (n := 7) h rfl rfl h_40 dX5_agreeOf_40 ?_
  refine nw_aload_n (pc := 41) h dX5_agreeOf_41 rfl 1 rfl ?_
  refine gf5_22 (pc := 42) (r := 42) h rfl rfl dX5_agreeOf_42 ?_
  refine nw_iload_n (pc := 45) h dX5_agreeOf_45 rfl 3 rfl ?_
  obtain ⟨h_46, hf⟩ := hf
  refine nw_iald (pc := 46) (n := 7) h rfl rfl h_46 dX5_agreeOf_46 ?_
  obtain ⟨ho, hf⟩ := hf
  refine nw_icmp_le (pc := 47) (tgt := 59) h dX5_agreeOf_47 (by decide) (fun c_47 => ?_) (fun c_47 => ?_)
  · skip
    have ho := ho.1 c_47
    refine nw_aload_n (pc := 59) h dX5_agreeOf_59 rfl 1 rfl ?_
    refine gf5_22 (pc := 60) (r := 42) h rfl rfl dX5_agreeOf_60 ?_
    refine nw_iload_n (pc := 63) h dX5_agreeOf_63 rfl 3 rfl ?_
    have h_64 := ho
    refine nw_iald (pc := 64) (n := 7) h rfl rfl h_64 dX5_agreeOf_64 ?_
    simp only [if_pos c_47] at hf
    refine nw_sub (lv' := [(0, .ref (P.2.1 37)), (1, .int a1), (2, .int a2), (3, .int a3), (4, .int a4), (5, .int (Int64.toInt32 (((Int32.toInt64 (nw_gA σ 41 a1.toNatClampNeg)) * (Int32.toInt64 (nw_gA σ 41 a2.toNatClampNeg))) / (Int32.toInt64 r_27))))]) [1, 2, 3, 4, 5, 0] rfl ?_
    exact hL_65 _ _ _ _ _ _ _ hf
  · skip
    have ho := ho.2 c_47
    refine nw_aload_n (pc := 50) h dX5_agreeOf_50 rfl 1 rfl ?_
    refine gf5_22 (pc := 51) (r := 42) h rfl rfl dX5_agreeOf_51 ?_
    refine nw_iload_n (pc := 54) h dX5_agreeOf_54 rfl 2 rfl ?_
    have h_55 := ho
    refine nw_iald (pc := 55) (n := 7) h rfl rfl h_55 dX5_agreeOf_55 ?_
    refine nw_goto (pc := 56) (tgt := 65) h dX5_agreeOf_56 (by decide) ?_
    simp only [if_neg c_47] at hf
    refine nw_sub (lv' := [(0, .ref (P.2.1 37)), (1, .int a1), (2, .int a2), (3, .int a3), (4, .int a4), (5, .int (Int64.toInt32 (((Int32.toInt64 (nw_gA σ 41 a1.toNatClampNeg)) * (Int32.toInt64 (nw_gA σ 41 a2.toNatClampNeg))) / (Int32.toInt64 r_27))))]) [1, 2, 3, 4, 5, 0] rfl ?_
    exact hL_65 _ _ _ _ _ _ _ hf
theorem klX5_237 {P : nw_PT} {X : nw_EX} {cc : ByteArray} {nL : Nat} {σ : nw_ST} {lv : List (Nat × Value)} {pc : Nat} {rest : List Value} {a1 : Int32} {a2 : Int32} {a3 : Int32} {a4 : Int32} (h : nw_ok P X cc RX5 nL) (hR : rm5_agreeOf.frames + 1 ≤ X.2.2.2.1.frames ∧ 8 + (8 + 11) + rm5_agreeOf.locals ≤ X.2.2.2.1.locals)  {K : Int32 → nw_ST → Prop} (hf : f5_agreeOf K σ a1 a2 a3 a4) (hst : (rest.map fun v => v.category).sum ≤ 8) (hd : decode cc pc = .ok (.invokevirtual 237, 3)) (k : ∀ (r : Int32) (s2 : nw_ST), K r s2 → nw_G P X nL s2 lv (pc + 3) (.int r :: rest)) : nw_G P X nL σ lv pc (.int a4 :: .int a3 :: .int a2 :: .int a1 :: .ref (P.2.1 37) :: rest) :=
  nw_callV (As := [.int a1, .int a2, .int a3, .int a4]) (rest := rest) (C := RX5) (ci := 5) h (ct5_agreeOf _ P h.2.2 σ a1 a2 a3 a4 K hf) (nw_goodV nw_w510 nw_w511 nw_w512 nw_w342 nw_w513) yd5_agreeOf rfl hR ⟨rfl, rfl⟩ rfl (by decide) rfl rfl hst rfl hd (fun v s2 z => by obtain ⟨r, rfl, z⟩ := z; exact k r s2 z)
def f5_agree_52 (K : Int32 → nw_ST → Prop) (σ : nw_ST) (y0 : Int32) : Prop := (K y0 σ)
def f5_agree_50 (K : Int32 → nw_ST → Prop) (σ : nw_ST) : Prop := (f5_agree_52 K σ (-2 : Int32))
def f5_agree (K : Int32 → nw_ST → Prop) (σ : nw_ST) (a1 : Int32) (a2 : Int32) (a3 : Int32) (a4 : Int32) : Prop := (f5_isSwell (fun (r_2 : Int32) (s_2 : nw_ST) => (((r_2 = 0) → (f5_agree_50 K s_2)) ∧ (¬ (r_2 = 0) → (f5_isSwell (fun (r_10 : Int32) (s_10 : nw_ST) => (((r_10 = 0) → (f5_agree_50 K s_10)) ∧ (¬ (r_10 = 0) → (((a1 = a2) → (f5_agree_50 K s_10)) ∧ (¬ (a1 = a2) → ((((v5_isTime a3) = 0) → (f5_agree_50 K s_10)) ∧ (¬ ((v5_isTime a3) = 0) → ((((v5_in a4 (0 : Int32) (1 : Int32)) = 0) → (f5_agree_50 K s_10)) ∧ (¬ ((v5_in a4 (0 : Int32) (1 : Int32)) = 0) → (f5_agreeOf (fun (r_44 : Int32) (s_44 : nw_ST) => (f5_agree_52 K s_44 r_44)) s_10 a1 a2 a3 a4)))))))))) s_2 a2)))) σ a1)
def rm5_agree : Room := { frames := 8, cells := 0, slots := 0, locals := 181 }
theorem yd5_agree : yX5_agree.cls = RX5 ∧ yX5_agree.cls ≠ "java/lang/invoke/MethodHandle" ∧ yX5_agree.cls ≠ "java/lang/invoke/VarHandle" ∧ (parseMethodDescriptor yX5_agree.desc).map (fun d => d.parameters.length) = some 4 := by decide +kernel
set_option maxHeartbeats 4000000 in
set_option maxRecDepth 100000 in
theorem ct5_agree (l : Launch) (P : nw_PT) (hD : nw_D P) (σ : nw_ST) (a1 : Int32) (a2 : Int32) (a3 : Int32) (a4 : Int32)  (K : Int32 → nw_ST → Prop) (hf : f5_agree K σ a1 a2 a3 a4) : nw_MT l yX5_agree cX5_agree 5 (some .int) rm5_agree P [.ref (P.2.1 37), .int a1, .int a2, .int a3, .int a4] σ (nw_Ki K) := by
  refine nw_enter (by decide) (by first | decide | exact Nat.le_of_ble_eq_true rfl) hD ?_
  intro X hl h he hR
  subst hl
  have h : nw_ok P X cX5_agree RX5 5 := h
  show nw_G P X 5 σ [(0, .ref (P.2.1 37)), (1, .int a1), (2, .int a2), (3, .int a3), (4, .int a4)] 0 []
  have hL_52 :  ∀ (σ : nw_ST) (y0 : Int32), f5_agree_52 K σ y0 → nw_G P X 5 σ [] 52 [.int y0] := by
    intro σ y0 hf
    unfold f5_agree_52 at hf
    exact nw_iret (pc := 52) h he dX5_agree_52 ⟨_, rfl, hf⟩
  have hL_50 :  ∀ (σ : nw_ST), f5_agree_50 K σ → nw_G P X 5 σ [] 50 [] := by
    intro σ hf
    unfold f5_agree_50 at hf
    refine nw_bipush (pc := 50) (v := -2) h dX5_agree_50 (by decide) ?_
    exact hL_52 _ _ (hf)
  unfold f5_agree at hf
  refine nw_aload_n (pc := 0) h dX5_agree_0 rfl 0 rfl ?_
  refine nw_iload_n (pc := 1) h dX5_agree_1 rfl 1 rfl ?_
  refine klX5_125 (pc := 2) h (by rw [hR]; decide) hf (Nat.le_of_ble_eq_true rfl) dX5_agree_2 (fun r_2 s_2 hf => ?_)
  refine nw_if_eq (pc := 5) (tgt := 50) h dX5_agree_5 (by decide) (fun c_5 => ?_) (fun c_5 => ?_)
  · have hf := hf.1 c_5
    refine nw_sub (lv' := []) [] rfl ?_
    exact hL_50 _ (hf)
  · have hf := hf.2 c_5
    refine nw_aload_n (pc := 8) h dX5_agree_8 rfl 0 rfl ?_
    refine nw_iload_n (pc := 9) h dX5_agree_9 rfl 2 rfl ?_
    refine klX5_125 (pc := 10) h (by rw [hR]; decide) hf (Nat.le_of_ble_eq_true rfl) dX5_agree_10 (fun r_10 s_10 hf => ?_)
    refine nw_if_eq (pc := 13) (tgt := 50) h dX5_agree_13 (by decide) (fun c_13 => ?_) (fun c_13 => ?_)
    · have hf := hf.1 c_13
      refine nw_sub (lv' := []) [] rfl ?_
      exact hL_50 _ (hf)
    · have hf := hf.2 c_13
      refine nw_iload_n (pc := 16) h dX5_agree_16 rfl 1 rfl ?_
      refine nw_iload_n (pc := 17) h dX5_agree_17 rfl 2 rfl ?_
      refine nw_icmp_eq (pc := 18) (tgt := 50) h dX5_agree_18 (by decide) (fun c_18 => ?_) (fun c_18 => ?_)
      · have hf := hf.1 c_18
        refine nw_sub (lv' := []) [] rfl ?_
        exact hL_50 _ (hf)
      · have hf := hf.2 c_18
        refine nw_iload_n (pc := 21) h dX5_agree_21 rfl 3 rfl ?_
        refine klX5_143 (pc := 22) h (by rw [hR]; decide) (Nat.le_of_ble_eq_true rfl) dX5_agree_22 ?_
        refine nw_if_eq (pc := 25) (tgt := 50) h dX5_agree_25 (by decide) (fun c_25 => ?_) (fun c_25 => ?_)
        · have hf := hf.1 c_25
          refine nw_sub (lv' := []) [] rfl ?_
          exact hL_50 _ (hf)
        · have hf := hf.2 c_25
          refine nw_iload (pc := 28) h dX5_agree_28 4 rfl ?_
          refine nw_iconst (pc := 30) (v := 0) h dX5_agree_30 (by decide) ?_
          refine nw_iconst (pc := 31) (v := 1) h dX5_agree_31 (by decide) ?_
          refine klX5_89 (pc := 32) h (by rw [hR]; decide) (Nat.le_of_ble_eq_true rfl) dX5_agree_32 ?_
          refine nw_if_eq (pc := 35) (tgt := 50) h dX5_agree_35 (by decide) (fun c_35 => ?_) (fun c_35 => ?_)
          · have hf := hf.1 c_35
            refine nw_sub (lv' := []) [] rfl ?_
            exact hL_50 _ (hf)
          · have hf := hf.2 c_35
            refine nw_aload_n (pc := 38) h dX5_agree_38 rfl 0 rfl ?_
            refine nw_iload_n (pc := 39) h dX5_agree_39 rfl 1 rfl ?_
            refine nw_iload_n (pc := 40) h dX5_agree_40 rfl 2 rfl ?_
            refine nw_iload_n (pc := 41) h dX5_agree_41 rfl 3 rfl ?_
            refine nw_iload (pc := 42) h dX5_agree_42 4 rfl ?_
            refine klX5_237 (pc := 44) h (by rw [hR]; decide) hf (Nat.le_of_ble_eq_true rfl) dX5_agree_44 (fun r_44 s_44 hf => ?_)
            refine nw_goto (pc := 47) (tgt := 52) h dX5_agree_47 (by decide) ?_
            refine nw_sub (lv' := []) [] rfl ?_
            exact hL_52 _ _ (hf)
