def f4_storm_18 (K : Int32 → nw_ST → Prop) (σ : nw_ST) : Prop := (K (-2 : Int32) σ)
def f4_storm_108 (K : Int32 → nw_ST → Prop) (σ : nw_ST) (y0 : Int32) : Prop := (K y0 σ)
def f4_storm_91 (K : Int32 → nw_ST → Prop) (H_39 : nw_ST → Int32 → Int32 → Int32 → Int32 → Int32 → Int32 → Prop) (σ : nw_ST) (x2 : Int32) (x3 : Int32) (x5 : Int32) (x6 : Int32) (x7 : Int32) (x8 : Int32) : Prop := (H_39 σ x2 x3 x5 x6 x7 (x8 + (1 : Int32)))
def b4_storm_39 (K : Int32 → nw_ST → Prop) (H_39 : nw_ST → Int32 → Int32 → Int32 → Int32 → Int32 → Int32 → Prop) (σ : nw_ST) (x2 : Int32) (x3 : Int32) (x5 : Int32) (x6 : Int32) (x7 : Int32) (x8 : Int32) : Prop := (((x2 ≤ x8) → (f4_storm_108 K σ (if (x3 = 0) then x5 else x6))) ∧ (¬ (x2 ≤ x8) → ((o3_numberAt σ (nw_rem (nw_ushr (((1103515245 : Int32) * x7) + (12345 : Int32)) (16 : Int32)) (240 : Int32))) ∧ ((((v3_numberAt σ (nw_rem (nw_ushr (((1103515245 : Int32) * x7) + (12345 : Int32)) (16 : Int32)) (240 : Int32))) ≤ 0) → (f4_storm_91 K H_39 σ x2 x3 x5 x6 (((1103515245 : Int32) * x7) + (12345 : Int32)) x8)) ∧ (¬ ((v3_numberAt σ (nw_rem (nw_ushr (((1103515245 : Int32) * x7) + (12345 : Int32)) (16 : Int32)) (240 : Int32))) ≤ 0) → (f4_valueOf (fun (r_82 : Int32) (s_82 : nw_ST) => (f4_storm_91 K H_39 s_82 x2 x3 (x5 + r_82) (x6 + (1 : Int32)) (((1103515245 : Int32) * x7) + (12345 : Int32)) x8)) σ (v3_numberAt σ (nw_rem (nw_ushr (((1103515245 : Int32) * x7) + (12345 : Int32)) (16 : Int32)) (240 : Int32)))))))))
def f4_storm_39 (K : Int32 → nw_ST → Prop) : Nat → nw_ST → Int32 → Int32 → Int32 → Int32 → Int32 → Int32 → Prop
  | 0 => fun _ _ _ _ _ _ _ => False
  | n + 1 => b4_storm_39 K (f4_storm_39 K n)
def f4_storm (K : Int32 → nw_ST → Prop) (σ : nw_ST) (a1 : Int32) (a2 : Int32) (a3 : Int32) : Prop := ((((v4_isFrom a2 (1 : Int32) (99 : Int32)) = 0) → (f4_storm_18 K σ)) ∧ (¬ ((v4_isFrom a2 (1 : Int32) (99 : Int32)) = 0) → ((((v4_isBelow a3 (2 : Int32)) = 0) → (f4_storm_18 K σ)) ∧ (¬ ((v4_isBelow a3 (2 : Int32)) = 0) → (f4_waves (fun (r_22 : Nat) (s_22 : nw_ST) => (∃ n, f4_storm_39 K n s_22 a2 a3 (0 : Int32) (0 : Int32) a1 (0 : Int32))) σ)))))
def rm4_storm : Room := { frames := 4, cells := 0, slots := 0, locals := 91 }
theorem yd4_storm : yX4_storm.cls = RX4 ∧ yX4_storm.cls ≠ "java/lang/invoke/MethodHandle" ∧ yX4_storm.cls ≠ "java/lang/invoke/VarHandle" ∧ (parseMethodDescriptor yX4_storm.desc).map (fun d => d.parameters.length) = some 3 := by decide +kernel
set_option maxHeartbeats 4000000 in
set_option maxRecDepth 100000 in
theorem ct4_storm (l : Launch) (P : nw_PT) (hD : nw_D P) (σ : nw_ST) (a1 : Int32) (a2 : Int32) (a3 : Int32)  (K : Int32 → nw_ST → Prop) (hf : f4_storm K σ a1 a2 a3) : nw_MT l yX4_storm cX4_storm 10 (some .int) rm4_storm P [.ref (P.2.1 0), .int a1, .int a2, .int a3] σ (nw_Ki K) := by
  refine nw_enter (by decide) (by first | decide | exact Nat.le_of_ble_eq_true rfl) hD ?_
  intro X hl h he hR
  subst hl
  have h : nw_ok P X cX4_storm RX4 10 := h
  show nw_G P X 10 σ [(0, .ref (P.2.1 0)), (1, .int a1), (2, .int a2), (3, .int a3)] 0 []
  have hL_18 :  ∀ (σ : nw_ST), f4_storm_18 K σ → nw_G P X 10 σ [] 18 [] := by
    intro σ hf
    unfold f4_storm_18 at hf
    refine nw_bipush (pc := 18) (v := -2) h dX4_storm_18 (by decide) ?_
    exact nw_iret (pc := 20) h he dX4_storm_20 ⟨_, rfl, hf⟩
  have hL_108 :  ∀ (σ : nw_ST) (y0 : Int32), f4_storm_108 K σ y0 → nw_G P X 10 σ [] 108 [.int y0] := by
    intro σ y0 hf
    unfold f4_storm_108 at hf
    exact nw_iret (pc := 108) h he dX4_storm_108 ⟨_, rfl, hf⟩
  have hL_91 : ∀ (H_39 : nw_ST → Int32 → Int32 → Int32 → Int32 → Int32 → Int32 → Prop) (hH_39 : (∀ (σ : nw_ST) (x2 : Int32) (x3 : Int32) (x5 : Int32) (x6 : Int32) (x7 : Int32) (x8 : Int32), H_39 σ x2 x3 x5 x6 x7 x8 → nw_G P X 10 σ [(0, .ref (P.2.1 0)), (2, .int x2), (3, .int x3), (4, .ref (P.2.1 19)), (5, .int x5), (6, .int x6), (7, .int x7), (8, .int x8)] 39 [])), ∀ (σ : nw_ST) (x2 : Int32) (x3 : Int32) (x5 : Int32) (x6 : Int32) (x7 : Int32) (x8 : Int32), f4_storm_91 K H_39 σ x2 x3 x5 x6 x7 x8 → nw_G P X 10 σ [(0, .ref (P.2.1 0)), (2, .int x2), (3, .int x3), (4, .ref (P.2.1 19)), (5, .int x5), (6, .int x6), (7, .int x7), (8, .int x8)] 91 [] := by
    intro H_39 hH_39 σ x2 x3 x5 x6 x7 x8 hf
    unfold f4_storm_91 at hf
    refine nw_iinc (pc := 91) (v := (x8 + (1 : Int32))) (lv' := [(8, .int (x8 + (1 : Int32))), (0, .ref (P.2.1 0)), (2, .int x2), (3, .int x3), (4, .ref (P.2.1 19)), (5, .int x5), (6, .int x6), (7, .int x7)]) h dX4_storm_91 (j := 7) rfl rfl (by decide) rfl ?_
    refine nw_goto (pc := 94) (tgt := 39) h dX4_storm_94 (by decide) ?_
    refine nw_sub (lv' := [(0, .ref (P.2.1 0)), (2, .int x2), (3, .int x3), (4, .ref (P.2.1 19)), (5, .int x5), (6, .int x6), (7, .int x7), (8, .int (x8 + (1 : Int32)))]) [1, 2, 3, 4, 5, 6, 7, 0] rfl ?_
    exact hH_39 _ _ _ _ _ _ _ (hf)
  have hB_39 : ∀ (H_39 : nw_ST → Int32 → Int32 → Int32 → Int32 → Int32 → Int32 → Prop) (hH_39 : (∀ (σ : nw_ST) (x2 : Int32) (x3 : Int32) (x5 : Int32) (x6 : Int32) (x7 : Int32) (x8 : Int32), H_39 σ x2 x3 x5 x6 x7 x8 → nw_G P X 10 σ [(0, .ref (P.2.1 0)), (2, .int x2), (3, .int x3), (4, .ref (P.2.1 19)), (5, .int x5), (6, .int x6), (7, .int x7), (8, .int x8)] 39 [])), ∀ (σ : nw_ST) (x2 : Int32) (x3 : Int32) (x5 : Int32) (x6 : Int32) (x7 : Int32) (x8 : Int32), b4_storm_39 K H_39 σ x2 x3 x5 x6 x7 x8 → nw_G P X 10 σ [(0, .ref (P.2.1 0)), (2, .int x2), (3, .int x3), (4, .ref (P.2.1 19)), (5, .int x5), (6, .int x6), (7, .int x7), (8, .int x8)] 39 [] := by
    intro H_39 hH_39 σ x2 x3 x5 x6 x7 x8 hf
    unfold b4_storm_39 at hf
    refine nw_iload (pc := 39) h dX4_storm_39 7 rfl ?_
    refine nw_iload_n (pc := 41) h dX4_storm_41 rfl 1 rfl ?_
    refine nw_icmp_ge (pc := 42) (tgt := 97) h dX4_storm_42 (by decide) (fun c_42 => ?_) (fun c_42 => ?_)
    · have hf := hf.1 c_42
      refine nw_iload_n (pc := 97) h dX4_storm_97 rfl 2 rfl ?_
      refine nw_if_ne (pc := 98) (tgt := 106) h dX4_storm_98 (by decide) (fun c_98 => ?_) (fun c_98 => ?_)
      · skip
        refine nw_iload (pc := 106) h dX4_storm_106 5 rfl ?_
        simp only [if_neg c_98] at hf
        refine nw_sub (lv' := []) [] rfl ?_
        exact hL_108 _ _ hf
      · skip
        refine nw_iload (pc := 101) h dX4_storm_101 4 rfl ?_
        refine nw_goto (pc := 103) (tgt := 108) h dX4_storm_103 (by decide) ?_
        simp only [if_pos c_98] at hf
        refine nw_sub (lv' := []) [] rfl ?_
        exact hL_108 _ _ hf
    · have hf := hf.2 c_42
      refine nw_ldc (pc := 45) h nw_w203 dX4_storm_45 ?_
      refine nw_iload (pc := 47) h dX4_storm_47 6 rfl ?_
      refine nw_imul (pc := 49) h dX4_storm_49 ?_
      refine nw_sipush (pc := 50) (v := 12345) h dX4_storm_50 (by decide) ?_
      refine nw_iadd (pc := 53) h dX4_storm_53 ?_
      refine nw_istore (pc := 54) (lv' := [(7, .int (((1103515245 : Int32) * x7) + (12345 : Int32))), (0, .ref (P.2.1 0)), (2, .int x2), (3, .int x3), (4, .ref (P.2.1 19)), (5, .int x5), (6, .int x6), (8, .int x8)]) h dX4_storm_54 (by decide) rfl ?_
      refine nw_aload (pc := 56) h dX4_storm_56 4 rfl ?_
      refine nw_iload (pc := 58) h dX4_storm_58 0 rfl ?_
      refine nw_bipush (pc := 60) (v := 16) h dX4_storm_60 (by decide) ?_
      refine nw_iushr (pc := 62) h dX4_storm_62 ?_
      refine nw_sipush (pc := 63) (v := 240) h dX4_storm_63 (by decide) ?_
      refine nw_irem (pc := 66) h dX4_storm_66 (by decide) ?_
      obtain ⟨h_67, hf⟩ := hf
      refine klX4_150 (pc := 67) h (by rw [hR]; decide) h_67 (Nat.le_of_ble_eq_true rfl) dX4_storm_67 ?_
      refine nw_istore (pc := 70) (lv' := [(9, .int (v3_numberAt σ (nw_rem (nw_ushr (((1103515245 : Int32) * x7) + (12345 : Int32)) (16 : Int32)) (240 : Int32)))), (7, .int (((1103515245 : Int32) * x7) + (12345 : Int32))), (0, .ref (P.2.1 0)), (2, .int x2), (3, .int x3), (4, .ref (P.2.1 19)), (5, .int x5), (6, .int x6), (8, .int x8)]) h dX4_storm_70 (by decide) rfl ?_
      refine nw_iload (pc := 72) h dX4_storm_72 0 rfl ?_
      refine nw_if_le (pc := 74) (tgt := 91) h dX4_storm_74 (by decide) (fun c_74 => ?_) (fun c_74 => ?_)
      · have hf := hf.1 c_74
        refine nw_sub (lv' := [(0, .ref (P.2.1 0)), (2, .int x2), (3, .int x3), (4, .ref (P.2.1 19)), (5, .int x5), (6, .int x6), (7, .int (((1103515245 : Int32) * x7) + (12345 : Int32))), (8, .int x8)]) [2, 3, 4, 5, 6, 7, 1, 8] rfl ?_
        exact hL_91 H_39 hH_39 _ _ _ _ _ _ _ (hf)
      · have hf := hf.2 c_74
        refine nw_iload (pc := 77) h dX4_storm_77 6 rfl ?_
        refine nw_aload_n (pc := 79) h dX4_storm_79 rfl 2 rfl ?_
        refine nw_iload (pc := 80) h dX4_storm_80 0 rfl ?_
        refine klX4_165 (pc := 82) h (by rw [hR]; decide) hf (Nat.le_of_ble_eq_true rfl) dX4_storm_82 (fun r_82 s_82 hf => ?_)
        refine nw_iadd (pc := 85) h dX4_storm_85 ?_
        refine nw_istore (pc := 86) (lv' := [(5, .int (x5 + r_82)), (9, .int (v3_numberAt σ (nw_rem (nw_ushr (((1103515245 : Int32) * x7) + (12345 : Int32)) (16 : Int32)) (240 : Int32)))), (7, .int (((1103515245 : Int32) * x7) + (12345 : Int32))), (0, .ref (P.2.1 0)), (2, .int x2), (3, .int x3), (4, .ref (P.2.1 19)), (6, .int x6), (8, .int x8)]) h dX4_storm_86 (by decide) rfl ?_
        refine nw_iinc (pc := 88) (v := (x6 + (1 : Int32))) (lv' := [(6, .int (x6 + (1 : Int32))), (5, .int (x5 + r_82)), (9, .int (v3_numberAt σ (nw_rem (nw_ushr (((1103515245 : Int32) * x7) + (12345 : Int32)) (16 : Int32)) (240 : Int32)))), (7, .int (((1103515245 : Int32) * x7) + (12345 : Int32))), (0, .ref (P.2.1 0)), (2, .int x2), (3, .int x3), (4, .ref (P.2.1 19)), (8, .int x8)]) h dX4_storm_88 (j := 7) rfl rfl (by decide) rfl ?_
        refine nw_sub (lv' := [(0, .ref (P.2.1 0)), (2, .int x2), (3, .int x3), (4, .ref (P.2.1 19)), (5, .int (x5 + r_82)), (6, .int (x6 + (1 : Int32))), (7, .int (((1103515245 : Int32) * x7) + (12345 : Int32))), (8, .int x8)]) [4, 5, 6, 7, 1, 0, 3, 8] rfl ?_
        exact hL_91 H_39 hH_39 _ _ _ _ _ _ _ (hf)
  have hL_39 :  ∀ (n : Nat) (σ : nw_ST) (x2 : Int32) (x3 : Int32) (x5 : Int32) (x6 : Int32) (x7 : Int32) (x8 : Int32), f4_storm_39 K n σ x2 x3 x5 x6 x7 x8 → nw_G P X 10 σ [(0, .ref (P.2.1 0)), (2, .int x2), (3, .int x3), (4, .ref (P.2.1 19)), (5, .int x5), (6, .int x6), (7, .int x7), (8, .int x8)] 39 [] := by
    intro n
    induction n with
    | zero => intro σ x2 x3 x5 x6 x7 x8 hf; exact False.elim hf
    | succ n ih => exact hB_39 _ ih
  unfold f4_storm at hf
  refine nw_iload_n (pc := 0) h dX4_storm_0 rfl 2 rfl ?_
  refine nw_iconst (pc := 1) (v := 1) h dX4_storm_1 (by decide) ?_
  refine nw_bipush (pc := 2) (v := 99) h dX4_storm_2 (by decide) ?_
  refine klX4_109 (pc := 4) h (by rw [hR]; decide) (Nat.le_of_ble_eq_true rfl) dX4_storm_4 ?_
  refine nw_if_eq (pc := 7) (tgt := 18) h dX4_storm_7 (by decide) (fun c_7 => ?_) (fun c_7 => ?_)
  · have hf := hf.1 c_7
    refine nw_sub (lv' := []) [] rfl ?_
    exact hL_18 _ (hf)
  · have hf := hf.2 c_7
    refine nw_iload_n (pc := 10) h dX4_storm_10 rfl 3 rfl ?_
    refine nw_iconst (pc := 11) (v := 2) h dX4_storm_11 (by decide) ?_
    refine klX4_84 (pc := 12) h (by rw [hR]; decide) (Nat.le_of_ble_eq_true rfl) dX4_storm_12 ?_
    refine nw_if_ne (pc := 15) (tgt := 21) h dX4_storm_15 (by decide) (fun c_15 => ?_) (fun c_15 => ?_)
    · have hf := hf.2 c_15
      refine nw_aload_n (pc := 21) h dX4_storm_21 rfl 0 rfl ?_
      refine klX4_140 (pc := 22) h (by rw [hR]; decide) hf (Nat.le_of_ble_eq_true rfl) dX4_storm_22 (fun r_22 s_22 hcr hf => ?_)
      obtain rfl := nw_q3 hcr
      refine nw_astore (pc := 25) (lv' := [(4, .ref (P.2.1 19)), (0, .ref (P.2.1 0)), (1, .int a1), (2, .int a2), (3, .int a3)]) h dX4_storm_25 (by decide) rfl ?_
      refine nw_iconst (pc := 27) (v := 0) h dX4_storm_27 (by decide) ?_
      refine nw_istore (pc := 28) (lv' := [(5, .int (0 : Int32)), (4, .ref (P.2.1 19)), (0, .ref (P.2.1 0)), (1, .int a1), (2, .int a2), (3, .int a3)]) h dX4_storm_28 (by decide) rfl ?_
      refine nw_iconst (pc := 30) (v := 0) h dX4_storm_30 (by decide) ?_
      refine nw_istore (pc := 31) (lv' := [(6, .int (0 : Int32)), (5, .int (0 : Int32)), (4, .ref (P.2.1 19)), (0, .ref (P.2.1 0)), (1, .int a1), (2, .int a2), (3, .int a3)]) h dX4_storm_31 (by decide) rfl ?_
      refine nw_iload_n (pc := 33) h dX4_storm_33 rfl 4 rfl ?_
      refine nw_istore (pc := 34) (lv' := [(7, .int a1), (6, .int (0 : Int32)), (5, .int (0 : Int32)), (4, .ref (P.2.1 19)), (0, .ref (P.2.1 0)), (1, .int a1), (2, .int a2), (3, .int a3)]) h dX4_storm_34 (by decide) rfl ?_
      refine nw_iconst (pc := 36) (v := 0) h dX4_storm_36 (by decide) ?_
      refine nw_istore (pc := 37) (lv' := [(8, .int (0 : Int32)), (7, .int a1), (6, .int (0 : Int32)), (5, .int (0 : Int32)), (4, .ref (P.2.1 19)), (0, .ref (P.2.1 0)), (1, .int a1), (2, .int a2), (3, .int a3)]) h dX4_storm_37 (by decide) rfl ?_
      obtain ⟨n_39, hf⟩ := hf
      refine nw_sub (lv' := [(0, .ref (P.2.1 0)), (2, .int a2), (3, .int a3), (4, .ref (P.2.1 19)), (5, .int (0 : Int32)), (6, .int (0 : Int32)), (7, .int a1), (8, .int (0 : Int32))]) [5, 7, 8, 4, 3, 2, 1, 0] rfl ?_
      exact hL_39 n_39 _ _ _ _ _ _ _ hf
    · have hf := hf.1 c_15
      refine nw_sub (lv' := []) [] rfl ?_
      exact hL_18 _ (hf)
theorem gf1_9 {P : nw_PT} {X : nw_EX} {cc : ByteArray} {nL : Nat} {σ : nw_ST} {lv : List (Nat × Value)} {pc : Nat} {st : List Value} {q : Nat} (h : nw_ok P X cc RX1 nL) (hq : nw_cl q = 1) {r : Nat} (hr : nw_rf q 0 = r) (hd : decode cc pc = .ok (.getfield 9, 3)) (k : nw_G P X nL σ lv (pc + 3) (.ref (P.2.1 r) :: st)) : nw_G P X nL σ lv pc (.ref (P.2.1 q) :: st) := by
  subst hr; intro H locs ls h1 h2 h3
  exact va_get (D := P.1) (ci := 1) (C := RX1) (T := TX1) (N := 4) h.1.1 h.1.2.1 h.1.2.2.2.2 in_T1 h.1.2.2.2.1 h.2.1.1 h1 q (nw_at1 hq) rfl 0 (by decide) (h.1.2.2.2.2 _ nw_w204) (fun _ z => z) rfl hd (k H locs ls h1 h2 h3)
theorem klX1_26 {P : nw_PT} {X : nw_EX} {cc : ByteArray} {nL : Nat} {σ : nw_ST} {lv : List (Nat × Value)} {pc : Nat} {rest : List Value} {q1 : Nat} {a2 : Int32} (h : nw_ok P X cc RX1 nL) (hR : rmJ7_fill_53178.frames + 1 ≤ X.2.2.2.1.frames ∧ 8 + (4 + 11) + rmJ7_fill_53178.locals ≤ X.2.2.2.1.locals) (hc_q1 : nw_cl q1 = 10) {K : nw_ST → Prop} (hf : fJ7_fill_53178 K σ q1 a2) (hst : (rest.map fun v => v.category).sum ≤ 8) (hd : decode cc pc = .ok (.invokestatic 26, 3)) (k : ∀ (s2 : nw_ST), K s2 → nw_G P X nL s2 lv (pc + 3) rest) : nw_G P X nL σ lv pc (.int a2 :: .ref (P.2.1 q1) :: rest) :=
  nw_callS (As := [.ref (P.2.1 q1), .int a2]) (rest := rest) h (ctJ7_fill_53178 _ P h.2.2 σ q1 a2 hc_q1 K hf) (nw_goodS nw_w205 nw_w7 nw_w8 nw_w9) ydJ7_fill_53178.2 rfl hR ⟨rfl, rfl⟩ hst rfl hd (fun v s2 z => by obtain ⟨rfl, z⟩ := z; exact k s2 z)
theorem pf1_15 {P : nw_PT} {X : nw_EX} {cc : ByteArray} {nL : Nat} {σ : nw_ST} {lv : List (Nat × Value)} {pc : Nat} {st : List Value} {q : Nat} (h : nw_ok P X cc RX1 nL) (hq : nw_cl q = 1) {v : Int32} (hd : decode cc pc = .ok (.putfield 15, 3)) (k : nw_G P X nL (nw_sS σ q 1 v) lv (pc + 3) st) : nw_G P X nL σ lv pc (.int v :: .ref (P.2.1 q) :: st) := by
  intro H locs ls h1 h2 h3
  exact va_put (D := P.1) (ci := 1) (ty := .int) (C := RX1) (T := TX1) (N := 4) h.1.1 h.1.2.1 h.1.2.2.2.2 in_T1 tyX1 tyX1_ok nmX1 h.1.2.2.2.1 h.2.1.1 h1 (h.2.2 σ) h2 q (nw_at1 hq) rfl 1 (by decide) (h.1.2.2.2.2 _ nw_w206) (fun _ z => z) rfl (by decide +kernel) rfl rfl (by show 1 < 4; decide) hd (fun H1 locs1 g1 _ g2 => k H1 locs1 ls (by rw [nw_set1_1 hq] at g1; exact g1) g2 h3)
theorem pf1_19 {P : nw_PT} {X : nw_EX} {cc : ByteArray} {nL : Nat} {σ : nw_ST} {lv : List (Nat × Value)} {pc : Nat} {st : List Value} {q : Nat} (h : nw_ok P X cc RX1 nL) (hq : nw_cl q = 1) {v : Int32} (hd : decode cc pc = .ok (.putfield 19, 3)) (k : nw_G P X nL (nw_sS σ q 2 v) lv (pc + 3) st) : nw_G P X nL σ lv pc (.int v :: .ref (P.2.1 q) :: st) := by
  intro H locs ls h1 h2 h3
  exact va_put (D := P.1) (ci := 1) (ty := .int) (C := RX1) (T := TX1) (N := 4) h.1.1 h.1.2.1 h.1.2.2.2.2 in_T1 tyX1 tyX1_ok nmX1 h.1.2.2.2.1 h.2.1.1 h1 (h.2.2 σ) h2 q (nw_at1 hq) rfl 2 (by decide) (h.1.2.2.2.2 _ nw_w207) (fun _ z => z) rfl (by decide +kernel) rfl rfl (by show 2 < 4; decide) hd (fun H1 locs1 g1 _ g2 => k H1 locs1 ls (by rw [nw_set1_2 hq] at g1; exact g1) g2 h3)
theorem pf1_22 {P : nw_PT} {X : nw_EX} {cc : ByteArray} {nL : Nat} {σ : nw_ST} {lv : List (Nat × Value)} {pc : Nat} {st : List Value} {q : Nat} (h : nw_ok P X cc RX1 nL) (hq : nw_cl q = 1) {v : Int32} (hz : nw_isZ v) (hd : decode cc pc = .ok (.putfield 22, 3)) (k : nw_G P X nL (nw_sS σ q 3 v) lv (pc + 3) st) : nw_G P X nL σ lv pc (.int v :: .ref (P.2.1 q) :: st) := by
  intro H locs ls h1 h2 h3
  exact va_put (D := P.1) (ci := 1) (ty := .boolean) (C := RX1) (T := TX1) (N := 4) h.1.1 h.1.2.1 h.1.2.2.2.2 in_T1 tyX1 tyX1_ok nmX1 h.1.2.2.2.1 h.2.1.1 h1 (h.2.2 σ) h2 q (nw_at1 hq) rfl 3 (by decide) (h.1.2.2.2.2 _ nw_w208) (fun _ z => z) rfl (by decide +kernel) (by rcases hz with rfl | rfl <;> decide) (by rcases hz with rfl | rfl <;> decide) (by show 3 < 4; decide) hd (fun H1 locs1 g1 _ g2 => k H1 locs1 ls (by rw [nw_set1_3 hq] at g1; exact g1) g2 h3)
def f1_renew (K : nw_ST → Prop) (σ : nw_ST) (q0 : Nat) (a1 : Int32) (a2 : Int32) : Prop := (fJ7_fill_53178 (fun (s_5 : nw_ST) => (K (nw_sS (nw_sS (nw_sS s_5 q0 1 a1) q0 2 a2) q0 3 (0 : Int32)))) σ (nw_rf q0 0) (0 : Int32))
def rm1_renew : Room := { frames := 1, cells := 0, slots := 0, locals := 23 }
theorem yd1_renew : yX1_renew.cls = RX1 ∧ yX1_renew.cls ≠ "java/lang/invoke/MethodHandle" ∧ yX1_renew.cls ≠ "java/lang/invoke/VarHandle" ∧ (parseMethodDescriptor yX1_renew.desc).map (fun d => d.parameters.length) = some 2 := by decide +kernel
set_option maxHeartbeats 4000000 in
set_option maxRecDepth 100000 in
theorem ct1_renew (l : Launch) (P : nw_PT) (hD : nw_D P) (σ : nw_ST) (q0 : Nat) (a1 : Int32) (a2 : Int32) (hc_q0 : nw_cl q0 = 1) (K : nw_ST → Prop) (hf : f1_renew K σ q0 a1 a2) : nw_MT l yX1_renew cX1_renew 3 none rm1_renew P [.ref (P.2.1 q0), .int a1, .int a2] σ (nw_Kv K) := by
  refine nw_enter (by decide) (by first | decide | exact Nat.le_of_ble_eq_true rfl) hD ?_
  intro X hl h he hR
  subst hl
  have h : nw_ok P X cX1_renew RX1 3 := h
  show nw_G P X 3 σ [(0, .ref (P.2.1 q0)), (1, .int a1), (2, .int a2)] 0 []
  unfold f1_renew at hf
  refine nw_aload_n (pc := 0) h dX1_renew_0 rfl 0 rfl ?_
  refine gf1_9 (pc := 1) h hc_q0 rfl dX1_renew_1 ?_
  refine nw_iconst (pc := 4) (v := 0) h dX1_renew_4 (by decide) ?_
  refine klX1_26 (pc := 5) h (by rw [hR]; decide) (nw_wt1_0 hc_q0) hf (Nat.le_of_ble_eq_true rfl) dX1_renew_5 (fun s_5 hf => ?_)
  refine nw_aload_n (pc := 8) h dX1_renew_8 rfl 0 rfl ?_
  refine nw_iload_n (pc := 9) h dX1_renew_9 rfl 1 rfl ?_
  refine pf1_15 (pc := 10) h hc_q0 dX1_renew_10 ?_
  refine nw_aload_n (pc := 13) h dX1_renew_13 rfl 0 rfl ?_
  refine nw_iload_n (pc := 14) h dX1_renew_14 rfl 2 rfl ?_
  refine pf1_19 (pc := 15) h hc_q0 dX1_renew_15 ?_
  refine nw_aload_n (pc := 18) h dX1_renew_18 rfl 0 rfl ?_
  refine nw_iconst (pc := 19) (v := 0) h dX1_renew_19 (by decide) ?_
  refine pf1_22 (pc := 20) h hc_q0 (Or.inl rfl) dX1_renew_20 ?_
  exact nw_vret (pc := 23) h he dX1_renew_23 ⟨rfl, hf⟩
theorem klX4_255 {P : nw_PT} {X : nw_EX} {cc : ByteArray} {nL : Nat} {σ : nw_ST} {lv : List (Nat × Value)} {pc : Nat} {rest : List Value} {q0 : Nat} {a1 : Int32} {a2 : Int32} (h : nw_ok P X cc RX4 nL) (hR : rm1_renew.frames + 1 ≤ X.2.2.2.1.frames ∧ 8 + (3 + 11) + rm1_renew.locals ≤ X.2.2.2.1.locals) (hc_q0 : nw_cl q0 = 1) {K : nw_ST → Prop} (hf : f1_renew K σ q0 a1 a2) (hst : (rest.map fun v => v.category).sum ≤ 8) (hd : decode cc pc = .ok (.invokevirtual 255, 3)) (k : ∀ (s2 : nw_ST), K s2 → nw_G P X nL s2 lv (pc + 3) rest) : nw_G P X nL σ lv pc (.int a2 :: .int a1 :: .ref (P.2.1 q0) :: rest) :=
  nw_callV (As := [.int a1, .int a2]) (rest := rest) (C := RX1) (ci := 1) h (ct1_renew _ P h.2.2 σ q0 a1 a2 hc_q0 K hf) (nw_goodV nw_w209 nw_w210 nw_w211 nw_w212 nw_w213) yd1_renew rfl hR ⟨rfl, rfl⟩ hc_q0 (by decide) rfl rfl hst rfl hd (fun v s2 z => by obtain ⟨rfl, z⟩ := z; exact k s2 z)
def f4_sheet_22 (K : Int32 → nw_ST → Prop) (σ : nw_ST) : Prop := (K (-2 : Int32) σ)
def f4_sheet (K : Int32 → nw_ST → Prop) (σ : nw_ST) (a1 : Int32) (a2 : Int32) (a3 : Int32) : Prop := ((((v4_isBelow a1 (4 : Int32)) = 0) → (f4_sheet_22 K σ)) ∧ (¬ ((v4_isBelow a1 (4 : Int32)) = 0) → ((((v4_isBelow a2 (3 : Int32)) = 0) → (f4_sheet_22 K σ)) ∧ (¬ ((v4_isBelow a2 (3 : Int32)) = 0) → (((a3 ≤ (48 : Int32)) → (((0 ≤ a3) → ((vp_in a1 4) ∧ (f1_renew (fun (s_43 : nw_ST) => (K a3 s_43)) σ (27 + 2 * a1.toNatClampNeg) a2 a3))) ∧ (¬ (0 ≤ a3) → (f4_finding (fun (r_31 : Int32) (s_31 : nw_ST) => (K r_31 s_31)) σ (5 : Int32))))) ∧ (¬ (a3 ≤ (48 : Int32)) → (f4_sheet_22 K σ)))))))
def rm4_sheet : Room := { frames := 2, cells := 0, slots := 0, locals := 45 }
theorem yd4_sheet : yX4_sheet.cls = RX4 ∧ yX4_sheet.cls ≠ "java/lang/invoke/MethodHandle" ∧ yX4_sheet.cls ≠ "java/lang/invoke/VarHandle" ∧ (parseMethodDescriptor yX4_sheet.desc).map (fun d => d.parameters.length) = some 3 := by decide +kernel
set_option maxHeartbeats 4000000 in
set_option maxRecDepth 100000 in
theorem ct4_sheet (l : Launch) (P : nw_PT) (hD : nw_D P) (σ : nw_ST) (a1 : Int32) (a2 : Int32) (a3 : Int32)  (K : Int32 → nw_ST → Prop) (hf : f4_sheet K σ a1 a2 a3) : nw_MT l yX4_sheet cX4_sheet 4 (some .int) rm4_sheet P [.ref (P.2.1 0), .int a1, .int a2, .int a3] σ (nw_Ki K) := by
  refine nw_enter (by decide) (by first | decide | exact Nat.le_of_ble_eq_true rfl) hD ?_
  intro X hl h he hR
  subst hl
  have h : nw_ok P X cX4_sheet RX4 4 := h
  show nw_G P X 4 σ [(0, .ref (P.2.1 0)), (1, .int a1), (2, .int a2), (3, .int a3)] 0 []
  have hL_22 :  ∀ (σ : nw_ST), f4_sheet_22 K σ → nw_G P X 4 σ [] 22 [] := by
    intro σ hf
    unfold f4_sheet_22 at hf
    refine nw_bipush (pc := 22) (v := -2) h dX4_sheet_22 (by decide) ?_
    exact nw_iret (pc := 24) h he dX4_sheet_24 ⟨_, rfl, hf⟩
  unfold f4_sheet at hf
  refine nw_iload_n (pc := 0) h dX4_sheet_0 rfl 1 rfl ?_
  refine nw_iconst (pc := 1) (v := 4) h dX4_sheet_1 (by decide) ?_
  refine klX4_84 (pc := 2) h (by rw [hR]; decide) (Nat.le_of_ble_eq_true rfl) dX4_sheet_2 ?_
  refine nw_if_eq (pc := 5) (tgt := 22) h dX4_sheet_5 (by decide) (fun c_5 => ?_) (fun c_5 => ?_)
  · have hf := hf.1 c_5
    refine nw_sub (lv' := []) [] rfl ?_
    exact hL_22 _ (hf)
  · have hf := hf.2 c_5
    refine nw_iload_n (pc := 8) h dX4_sheet_8 rfl 2 rfl ?_
    refine nw_iconst (pc := 9) (v := 3) h dX4_sheet_9 (by decide) ?_
    refine klX4_84 (pc := 10) h (by rw [hR]; decide) (Nat.le_of_ble_eq_true rfl) dX4_sheet_10 ?_
    refine nw_if_eq (pc := 13) (tgt := 22) h dX4_sheet_13 (by decide) (fun c_13 => ?_) (fun c_13 => ?_)
    · have hf := hf.1 c_13
      refine nw_sub (lv' := []) [] rfl ?_
      exact hL_22 _ (hf)
    · have hf := hf.2 c_13
      refine nw_iload_n (pc := 16) h dX4_sheet_16 rfl 3 rfl ?_
      refine nw_bipush (pc := 17) (v := 48) h dX4_sheet_17 (by decide) ?_
      refine nw_icmp_le (pc := 19) (tgt := 25) h dX4_sheet_19 (by decide) (fun c_19 => ?_) (fun c_19 => ?_)
      · have hf := hf.1 c_19
        refine nw_iload_n (pc := 25) h dX4_sheet_25 rfl 3 rfl ?_
        refine nw_if_ge (pc := 26) (tgt := 35) h dX4_sheet_26 (by decide) (fun c_26 => ?_) (fun c_26 => ?_)
        · have hf := hf.1 c_26
          refine nw_aload_n (pc := 35) h dX4_sheet_35 rfl 0 rfl ?_
          refine gf4_61 (pc := 36) (r := 26) h rfl rfl dX4_sheet_36 ?_
          refine nw_iload_n (pc := 39) h dX4_sheet_39 rfl 1 rfl ?_
          obtain ⟨h_40, hf⟩ := hf
          refine nw_aald (pc := 40) h h_40 dX4_sheet_40 ?_
          refine nw_iload_n (pc := 41) h dX4_sheet_41 rfl 2 rfl ?_
          refine nw_iload_n (pc := 42) h dX4_sheet_42 rfl 3 rfl ?_
          refine klX4_255 (pc := 43) h (by rw [hR]; decide) (nw_wtS (nw_lt4 h_40)) hf (Nat.le_of_ble_eq_true rfl) dX4_sheet_43 (fun s_43 hf => ?_)
          refine nw_iload_n (pc := 46) h dX4_sheet_46 rfl 3 rfl ?_
          exact nw_iret (pc := 47) h he dX4_sheet_47 ⟨_, rfl, hf⟩
        · have hf := hf.2 c_26
          refine nw_aload_n (pc := 29) h dX4_sheet_29 rfl 0 rfl ?_
          refine nw_iconst (pc := 30) (v := 5) h dX4_sheet_30 (by decide) ?_
          refine klX4_252 (pc := 31) h (by rw [hR]; decide) hf (Nat.le_of_ble_eq_true rfl) dX4_sheet_31 (fun r_31 s_31 hf => ?_)
          exact nw_iret (pc := 34) h he dX4_sheet_34 ⟨_, rfl, hf⟩
      · have hf := hf.2 c_19
        refine nw_sub (lv' := []) [] rfl ?_
        exact hL_22 _ (hf)
theorem pf4_259 {P : nw_PT} {X : nw_EX} {cc : ByteArray} {nL : Nat} {σ : nw_ST} {lv : List (Nat × Value)} {pc : Nat} {st : List Value} {q : Nat} (h : nw_ok P X cc RX4 nL) (hq : nw_cl q = 1) {v : Int32} (hz : nw_isZ v) (hd : decode cc pc = .ok (.putfield 259, 3)) (k : nw_G P X nL (nw_sS σ q 3 v) lv (pc + 3) st) : nw_G P X nL σ lv pc (.int v :: .ref (P.2.1 q) :: st) := by
  intro H locs ls h1 h2 h3
  exact va_putN (D := P.1) (ci := 1) (ty := .boolean) (C := RX1) (T := TX1) (N := 4) h.1.1 h.1.2.1 h.1.2.2.2.2 in_T1 tyX1 tyX1_ok nmX1 h.1.2.2.2.1 h.2.1.1 h1 (h.2.2 σ) h2 q (nw_at1 hq) rfl 3 (by decide) (va_Nw.use rfl (h.2.1.2.1 ("NumberedWaves", 259, "NumberedWaves$Sheet", "lost", "Z", "NumberedWaves") (by decide +kernel))) (fun _ z => z) rfl (by decide +kernel) (by rcases hz with rfl | rfl <;> decide) (by rcases hz with rfl | rfl <;> decide) (by show 3 < 4; decide) hd (fun H1 locs1 g1 _ g2 => k H1 locs1 ls (by rw [nw_set1_3 hq] at g1; exact g1) g2 h3)
def f4_lose (K : Int32 → nw_ST → Prop) (σ : nw_ST) (a1 : Int32) : Prop := (f4_sheetRefusal (fun (r_2 : Int32) (s_2 : nw_ST) => (((r_2 = 0) → ((vp_in a1 4) ∧ ((vp_in a1 4) ∧ (K (nw_gS (nw_sS s_2 (27 + 2 * a1.toNatClampNeg) 3 (1 : Int32)) (27 + 2 * a1.toNatClampNeg) 2) (nw_sS s_2 (27 + 2 * a1.toNatClampNeg) 3 (1 : Int32)))))) ∧ (¬ (r_2 = 0) → (K r_2 s_2)))) σ a1)
def rm4_lose : Room := { frames := 2, cells := 0, slots := 0, locals := 42 }
theorem yd4_lose : yX4_lose.cls = RX4 ∧ yX4_lose.cls ≠ "java/lang/invoke/MethodHandle" ∧ yX4_lose.cls ≠ "java/lang/invoke/VarHandle" ∧ (parseMethodDescriptor yX4_lose.desc).map (fun d => d.parameters.length) = some 1 := by decide +kernel
set_option maxHeartbeats 4000000 in
set_option maxRecDepth 100000 in
theorem ct4_lose (l : Launch) (P : nw_PT) (hD : nw_D P) (σ : nw_ST) (a1 : Int32)  (K : Int32 → nw_ST → Prop) (hf : f4_lose K σ a1) : nw_MT l yX4_lose cX4_lose 3 (some .int) rm4_lose P [.ref (P.2.1 0), .int a1] σ (nw_Ki K) := by
  refine nw_enter (by decide) (by first | decide | exact Nat.le_of_ble_eq_true rfl) hD ?_
  intro X hl h he hR
  subst hl
  have h : nw_ok P X cX4_lose RX4 3 := h
  show nw_G P X 3 σ [(0, .ref (P.2.1 0)), (1, .int a1)] 0 []
  unfold f4_lose at hf
  refine nw_aload_n (pc := 0) h dX4_lose_0 rfl 0 rfl ?_
  refine nw_iload_n (pc := 1) h dX4_lose_1 rfl 1 rfl ?_
  refine klX4_130 (pc := 2) h (by rw [hR]; decide) hf (Nat.le_of_ble_eq_true rfl) dX4_lose_2 (fun r_2 s_2 hf => ?_)
  refine nw_istore_n (pc := 5) (lv' := [(2, .int r_2), (0, .ref (P.2.1 0)), (1, .int a1)]) h dX4_lose_5 rfl (by decide) rfl ?_
  refine nw_iload_n (pc := 6) h dX4_lose_6 rfl 0 rfl ?_
  refine nw_if_eq (pc := 7) (tgt := 12) h dX4_lose_7 (by decide) (fun c_7 => ?_) (fun c_7 => ?_)
  · have hf := hf.1 c_7
    refine nw_aload_n (pc := 12) h dX4_lose_12 rfl 1 rfl ?_
    refine gf4_61 (pc := 13) (r := 26) h rfl rfl dX4_lose_13 ?_
    refine nw_iload_n (pc := 16) h dX4_lose_16 rfl 2 rfl ?_
    obtain ⟨h_17, hf⟩ := hf
    refine nw_aald (pc := 17) h h_17 dX4_lose_17 ?_
    refine nw_iconst (pc := 18) (v := 1) h dX4_lose_18 (by decide) ?_
    refine pf4_259 (pc := 19) h (nw_wtS (nw_lt4 h_17)) (Or.inr rfl) dX4_lose_19 ?_
    refine nw_aload_n (pc := 22) h dX4_lose_22 rfl 1 rfl ?_
    refine gf4_61 (pc := 23) (r := 26) h rfl rfl dX4_lose_23 ?_
    refine nw_iload_n (pc := 26) h dX4_lose_26 rfl 2 rfl ?_
    obtain ⟨h_27, hf⟩ := hf
    refine nw_aald (pc := 27) h h_27 dX4_lose_27 ?_
    refine gf4_134 (pc := 28) h (nw_wtS (nw_lt4 h_27)) dX4_lose_28 ?_
    exact nw_iret (pc := 31) h he dX4_lose_31 ⟨_, rfl, hf⟩
  · have hf := hf.2 c_7
    refine nw_iload_n (pc := 10) h dX4_lose_10 rfl 0 rfl ?_
    exact nw_iret (pc := 11) h he dX4_lose_11 ⟨_, rfl, hf⟩
theorem gf4_270 {P : nw_PT} {X : nw_EX} {cc : ByteArray} {nL : Nat} {σ : nw_ST} {lv : List (Nat × Value)} {pc : Nat} {st : List Value} {q : Nat} (h : nw_ok P X cc RX4 nL) (hq : nw_cl q = 1) (hd : decode cc pc = .ok (.getfield 270, 3)) (k : nw_G P X nL σ lv (pc + 3) (.int (nw_gS σ q 1) :: st)) : nw_G P X nL σ lv pc (.ref (P.2.1 q) :: st) := by
  intro H locs ls h1 h2 h3
  exact va_getN (D := P.1) (ci := 1) (C := RX1) (T := TX1) (N := 4) h.1.1 h.1.2.1 h.1.2.2.2.2 in_T1 h.1.2.2.2.1 h.2.1.1 h1 q (nw_at1 hq) rfl 1 (by decide) (va_Nw.use rfl (h.2.1.2.1 ("NumberedWaves", 270, "NumberedWaves$Sheet", "form", "I", "NumberedWaves") (by decide +kernel))) (fun _ z => z) rfl hd (k H locs ls h1 h2 h3)
def f4_itemRefusal_70 (K : Int32 → nw_ST → Prop) (σ : nw_ST) (y0 : Int32) : Prop := (K y0 σ)
def f4_itemRefusal (K : Int32 → nw_ST → Prop) (σ : nw_ST) (a1 : Int32) (a2 : Int32) (a3 : Int32) : Prop := ((((v4_isBelow a2 (3 : Int32)) = 0) → (K (-2 : Int32) σ)) ∧ (¬ ((v4_isBelow a2 (3 : Int32)) = 0) → (f4_sheetRefusal (fun (r_13 : Int32) (s_13 : nw_ST) => (((r_13 = 0) → ((vp_in a1 4) ∧ ((((nw_gS s_13 (27 + 2 * a1.toNatClampNeg) 1) = a2) → ((vp_in a1 4) ∧ ((((v4_isBelow a3 (nw_gS s_13 (27 + 2 * a1.toNatClampNeg) 2)) = 0) → (f4_finding (fun (r_67 : Int32) (s_67 : nw_ST) => (f4_itemRefusal_70 K s_67 r_67)) s_13 (2 : Int32))) ∧ (¬ ((v4_isBelow a3 (nw_gS s_13 (27 + 2 * a1.toNatClampNeg) 2)) = 0) → (f4_itemRefusal_70 K s_13 (0 : Int32)))))) ∧ (¬ ((nw_gS s_13 (27 + 2 * a1.toNatClampNeg) 1) = a2) → (f4_finding (fun (r_41 : Int32) (s_41 : nw_ST) => (K r_41 s_41)) s_13 (3 : Int32)))))) ∧ (¬ (r_13 = 0) → (K r_13 s_13)))) σ a1)))
def rm4_itemRefusal : Room := { frames := 2, cells := 0, slots := 0, locals := 42 }
theorem yd4_itemRefusal : yX4_itemRefusal.cls = RX4 ∧ yX4_itemRefusal.cls ≠ "java/lang/invoke/MethodHandle" ∧ yX4_itemRefusal.cls ≠ "java/lang/invoke/VarHandle" ∧ (parseMethodDescriptor yX4_itemRefusal.desc).map (fun d => d.parameters.length) = some 3 := by decide +kernel
set_option maxHeartbeats 4000000 in
set_option maxRecDepth 100000 in
theorem ct4_itemRefusal (l : Launch) (P : nw_PT) (hD : nw_D P) (σ : nw_ST) (a1 : Int32) (a2 : Int32) (a3 : Int32)  (K : Int32 → nw_ST → Prop) (hf : f4_itemRefusal K σ a1 a2 a3) : nw_MT l yX4_itemRefusal cX4_itemRefusal 5 (some .int) rm4_itemRefusal P [.ref (P.2.1 0), .int a1, .int a2, .int a3] σ (nw_Ki K) := by
  refine nw_enter (by decide) (by first | decide | exact Nat.le_of_ble_eq_true rfl) hD ?_
  intro X hl h he hR
  subst hl
  have h : nw_ok P X cX4_itemRefusal RX4 5 := h
  show nw_G P X 5 σ [(0, .ref (P.2.1 0)), (1, .int a1), (2, .int a2), (3, .int a3)] 0 []
  have hL_70 :  ∀ (σ : nw_ST) (y0 : Int32), f4_itemRefusal_70 K σ y0 → nw_G P X 5 σ [] 70 [.int y0] := by
    intro σ y0 hf
    unfold f4_itemRefusal_70 at hf
    exact nw_iret (pc := 70) h he dX4_itemRefusal_70 ⟨_, rfl, hf⟩
  unfold f4_itemRefusal at hf
  refine nw_iload_n (pc := 0) h dX4_itemRefusal_0 rfl 2 rfl ?_
  refine nw_iconst (pc := 1) (v := 3) h dX4_itemRefusal_1 (by decide) ?_
  refine klX4_84 (pc := 2) h (by rw [hR]; decide) (Nat.le_of_ble_eq_true rfl) dX4_itemRefusal_2 ?_
  refine nw_if_ne (pc := 5) (tgt := 11) h dX4_itemRefusal_5 (by decide) (fun c_5 => ?_) (fun c_5 => ?_)
  · have hf := hf.2 c_5
    refine nw_aload_n (pc := 11) h dX4_itemRefusal_11 rfl 0 rfl ?_
    refine nw_iload_n (pc := 12) h dX4_itemRefusal_12 rfl 1 rfl ?_
    refine klX4_130 (pc := 13) h (by rw [hR]; decide) hf (Nat.le_of_ble_eq_true rfl) dX4_itemRefusal_13 (fun r_13 s_13 hf => ?_)
    refine nw_istore (pc := 16) (lv' := [(4, .int r_13), (0, .ref (P.2.1 0)), (1, .int a1), (2, .int a2), (3, .int a3)]) h dX4_itemRefusal_16 (by decide) rfl ?_
    refine nw_iload (pc := 18) h dX4_itemRefusal_18 0 rfl ?_
    refine nw_if_eq (pc := 20) (tgt := 26) h dX4_itemRefusal_20 (by decide) (fun c_20 => ?_) (fun c_20 => ?_)
    · have hf := hf.1 c_20
      refine nw_aload_n (pc := 26) h dX4_itemRefusal_26 rfl 1 rfl ?_
      refine gf4_61 (pc := 27) (r := 26) h rfl rfl dX4_itemRefusal_27 ?_
      refine nw_iload_n (pc := 30) h dX4_itemRefusal_30 rfl 2 rfl ?_
      obtain ⟨h_31, hf⟩ := hf
      refine nw_aald (pc := 31) h h_31 dX4_itemRefusal_31 ?_
      refine gf4_270 (pc := 32) h (nw_wtS (nw_lt4 h_31)) dX4_itemRefusal_32 ?_
      refine nw_iload_n (pc := 35) h dX4_itemRefusal_35 rfl 3 rfl ?_
      refine nw_icmp_eq (pc := 36) (tgt := 45) h dX4_itemRefusal_36 (by decide) (fun c_36 => ?_) (fun c_36 => ?_)
      · have hf := hf.1 c_36
        refine nw_iload_n (pc := 45) h dX4_itemRefusal_45 rfl 4 rfl ?_
        refine nw_aload_n (pc := 46) h dX4_itemRefusal_46 rfl 1 rfl ?_
        refine gf4_61 (pc := 47) (r := 26) h rfl rfl dX4_itemRefusal_47 ?_
        refine nw_iload_n (pc := 50) h dX4_itemRefusal_50 rfl 2 rfl ?_
        obtain ⟨h_51, hf⟩ := hf
        refine nw_aald (pc := 51) h h_51 dX4_itemRefusal_51 ?_
        refine gf4_134 (pc := 52) h (nw_wtS (nw_lt4 h_51)) dX4_itemRefusal_52 ?_
        refine klX4_84 (pc := 55) h (by rw [hR]; decide) (Nat.le_of_ble_eq_true rfl) dX4_itemRefusal_55 ?_
        refine nw_if_eq (pc := 58) (tgt := 65) h dX4_itemRefusal_58 (by decide) (fun c_58 => ?_) (fun c_58 => ?_)
        · have hf := hf.1 c_58
          refine nw_aload_n (pc := 65) h dX4_itemRefusal_65 rfl 1 rfl ?_
          refine nw_iconst (pc := 66) (v := 2) h dX4_itemRefusal_66 (by decide) ?_
          refine klX4_252 (pc := 67) h (by rw [hR]; decide) hf (Nat.le_of_ble_eq_true rfl) dX4_itemRefusal_67 (fun r_67 s_67 hf => ?_)
          refine nw_sub (lv' := []) [] rfl ?_
          exact hL_70 _ _ (hf)
        · have hf := hf.2 c_58
          refine nw_iconst (pc := 61) (v := 0) h dX4_itemRefusal_61 (by decide) ?_
          refine nw_goto (pc := 62) (tgt := 70) h dX4_itemRefusal_62 (by decide) ?_
          refine nw_sub (lv' := []) [] rfl ?_
          exact hL_70 _ _ (hf)
      · have hf := hf.2 c_36
        refine nw_aload_n (pc := 39) h dX4_itemRefusal_39 rfl 1 rfl ?_
        refine nw_iconst (pc := 40) (v := 3) h dX4_itemRefusal_40 (by decide) ?_
        refine klX4_252 (pc := 41) h (by rw [hR]; decide) hf (Nat.le_of_ble_eq_true rfl) dX4_itemRefusal_41 (fun r_41 s_41 hf => ?_)
        exact nw_iret (pc := 44) h he dX4_itemRefusal_44 ⟨_, rfl, hf⟩
    · have hf := hf.2 c_20
      refine nw_iload (pc := 23) h dX4_itemRefusal_23 0 rfl ?_
      exact nw_iret (pc := 25) h he dX4_itemRefusal_25 ⟨_, rfl, hf⟩
  · have hf := hf.1 c_5
    refine nw_bipush (pc := 8) (v := -2) h dX4_itemRefusal_8 (by decide) ?_
    exact nw_iret (pc := 10) h he dX4_itemRefusal_10 ⟨_, rfl, hf⟩
theorem gf1_15 {P : nw_PT} {X : nw_EX} {cc : ByteArray} {nL : Nat} {σ : nw_ST} {lv : List (Nat × Value)} {pc : Nat} {st : List Value} {q : Nat} (h : nw_ok P X cc RX1 nL) (hq : nw_cl q = 1) (hd : decode cc pc = .ok (.getfield 15, 3)) (k : nw_G P X nL σ lv (pc + 3) (.int (nw_gS σ q 1) :: st)) : nw_G P X nL σ lv pc (.ref (P.2.1 q) :: st) := by
  intro H locs ls h1 h2 h3
  exact va_get (D := P.1) (ci := 1) (C := RX1) (T := TX1) (N := 4) h.1.1 h.1.2.1 h.1.2.2.2.2 in_T1 h.1.2.2.2.1 h.2.1.1 h1 q (nw_at1 hq) rfl 1 (by decide) (h.1.2.2.2.2 _ nw_w206) (fun _ z => z) rfl hd (k H locs ls h1 h2 h3)
def f1_store_31 (K : nw_ST → Prop) (σ : nw_ST) (y0 : Int32) (y1 : Int32) (y2 : Nat) : Prop := ((vp_in y1 (nw_len y2)) ∧ (K (nw_sA σ y2 y1.toNatClampNeg y0)))
def f1_store (K : nw_ST → Prop) (σ : nw_ST) (q0 : Nat) (a1 : Int32) (a2 : Int32) : Prop := (f1_store_31 K σ (if ((nw_gS σ q0 1) = 0) then (nw_b a2) else (if ((nw_gS σ q0 1) = (1 : Int32)) then (nw_s16 a2) else a2)) a1 (nw_rf q0 0))
def rm1_store : Room := { frames := 0, cells := 0, slots := 0, locals := 0 }
theorem yd1_store : yX1_store.cls = RX1 ∧ yX1_store.cls ≠ "java/lang/invoke/MethodHandle" ∧ yX1_store.cls ≠ "java/lang/invoke/VarHandle" ∧ (parseMethodDescriptor yX1_store.desc).map (fun d => d.parameters.length) = some 2 := by decide +kernel
set_option maxHeartbeats 4000000 in
set_option maxRecDepth 100000 in
theorem ct1_store (l : Launch) (P : nw_PT) (hD : nw_D P) (σ : nw_ST) (q0 : Nat) (a1 : Int32) (a2 : Int32) (hc_q0 : nw_cl q0 = 1) (K : nw_ST → Prop) (hf : f1_store K σ q0 a1 a2) : nw_MT l yX1_store cX1_store 3 none rm1_store P [.ref (P.2.1 q0), .int a1, .int a2] σ (nw_Kv K) := by
  refine nw_enter (by decide) (by first | decide | exact Nat.le_of_ble_eq_true rfl) hD ?_
  intro X hl h he hR
  subst hl
  have h : nw_ok P X cX1_store RX1 3 := h
  show nw_G P X 3 σ [(0, .ref (P.2.1 q0)), (1, .int a1), (2, .int a2)] 0 []
  have hL_31 :  ∀ (σ : nw_ST) (y0 : Int32) (y1 : Int32) (y2 : Nat), nw_cl y2 = 10 → f1_store_31 K σ y0 y1 y2 → nw_G P X 3 σ [] 31 [.int y0, .int y1, .ref (P.2.1 y2)] := by
    intro σ y0 y1 y2 hc_y2 hf
    unfold f1_store_31 at hf
    obtain ⟨h_31, hf⟩ := hf
    refine nw_iast (pc := 31) (n := (nw_len y2)) h hc_y2 rfl h_31 dX1_store_31 ?_
    exact nw_vret (pc := 32) h he dX1_store_32 ⟨rfl, hf⟩
  unfold f1_store at hf
  refine nw_aload_n (pc := 0) h dX1_store_0 rfl 0 rfl ?_
  refine gf1_9 (pc := 1) h hc_q0 rfl dX1_store_1 ?_
  refine nw_iload_n (pc := 4) h dX1_store_4 rfl 1 rfl ?_
  refine nw_aload_n (pc := 5) h dX1_store_5 rfl 0 rfl ?_
  refine gf1_15 (pc := 6) h hc_q0 dX1_store_6 ?_
  refine nw_if_ne (pc := 9) (tgt := 17) h dX1_store_9 (by decide) (fun c_9 => ?_) (fun c_9 => ?_)
  · skip
    refine nw_aload_n (pc := 17) h dX1_store_17 rfl 0 rfl ?_
    refine gf1_15 (pc := 18) h hc_q0 dX1_store_18 ?_
    refine nw_iconst (pc := 21) (v := 1) h dX1_store_21 (by decide) ?_
    refine nw_icmp_ne (pc := 22) (tgt := 30) h dX1_store_22 (by decide) (fun c_22 => ?_) (fun c_22 => ?_)
    · skip
      refine nw_iload_n (pc := 30) h dX1_store_30 rfl 2 rfl ?_
      simp only [if_neg c_9, if_neg c_22] at hf
      refine nw_sub (lv' := []) [] rfl ?_
      exact hL_31 _ _ _ _ (nw_wt1_0 hc_q0) hf
    · skip
      refine nw_iload_n (pc := 25) h dX1_store_25 rfl 2 rfl ?_
      refine nw_i2s (pc := 26) h dX1_store_26 ?_
      refine nw_goto (pc := 27) (tgt := 31) h dX1_store_27 (by decide) ?_
      simp only [if_neg c_9, if_pos c_22] at hf
      refine nw_sub (lv' := []) [] rfl ?_
      exact hL_31 _ _ _ _ (nw_wt1_0 hc_q0) hf
  · skip
    refine nw_iload_n (pc := 12) h dX1_store_12 rfl 2 rfl ?_
    refine nw_i2b (pc := 13) h dX1_store_13 ?_
    refine nw_goto (pc := 14) (tgt := 31) h dX1_store_14 (by decide) ?_
    simp only [if_pos c_9] at hf
    refine nw_sub (lv' := []) [] rfl ?_
    exact hL_31 _ _ _ _ (nw_wt1_0 hc_q0) hf
theorem klX4_262 {P : nw_PT} {X : nw_EX} {cc : ByteArray} {nL : Nat} {σ : nw_ST} {lv : List (Nat × Value)} {pc : Nat} {rest : List Value} {a1 : Int32} {a2 : Int32} {a3 : Int32} (h : nw_ok P X cc RX4 nL) (hR : rm4_itemRefusal.frames + 1 ≤ X.2.2.2.1.frames ∧ 8 + (5 + 11) + rm4_itemRefusal.locals ≤ X.2.2.2.1.locals)  {K : Int32 → nw_ST → Prop} (hf : f4_itemRefusal K σ a1 a2 a3) (hst : (rest.map fun v => v.category).sum ≤ 8) (hd : decode cc pc = .ok (.invokevirtual 262, 3)) (k : ∀ (r : Int32) (s2 : nw_ST), K r s2 → nw_G P X nL s2 lv (pc + 3) (.int r :: rest)) : nw_G P X nL σ lv pc (.int a3 :: .int a2 :: .int a1 :: .ref (P.2.1 0) :: rest) :=
  nw_callV (As := [.int a1, .int a2, .int a3]) (rest := rest) (C := RX4) (ci := 4) h (ct4_itemRefusal _ P h.2.2 σ a1 a2 a3 K hf) (nw_goodV nw_w214 nw_w215 nw_w216 nw_w24 nw_w217) yd4_itemRefusal rfl hR ⟨rfl, rfl⟩ rfl (by decide) rfl rfl hst rfl hd (fun v s2 z => by obtain ⟨r, rfl, z⟩ := z; exact k r s2 z)
theorem klX4_266 {P : nw_PT} {X : nw_EX} {cc : ByteArray} {nL : Nat} {σ : nw_ST} {lv : List (Nat × Value)} {pc : Nat} {rest : List Value} {q0 : Nat} {a1 : Int32} {a2 : Int32} (h : nw_ok P X cc RX4 nL) (hR : rm1_store.frames + 1 ≤ X.2.2.2.1.frames ∧ 8 + (3 + 11) + rm1_store.locals ≤ X.2.2.2.1.locals) (hc_q0 : nw_cl q0 = 1) {K : nw_ST → Prop} (hf : f1_store K σ q0 a1 a2) (hst : (rest.map fun v => v.category).sum ≤ 8) (hd : decode cc pc = .ok (.invokevirtual 266, 3)) (k : ∀ (s2 : nw_ST), K s2 → nw_G P X nL s2 lv (pc + 3) rest) : nw_G P X nL σ lv pc (.int a2 :: .int a1 :: .ref (P.2.1 q0) :: rest) :=
  nw_callV (As := [.int a1, .int a2]) (rest := rest) (C := RX1) (ci := 1) h (ct1_store _ P h.2.2 σ q0 a1 a2 hc_q0 K hf) (nw_goodV nw_w218 nw_w219 nw_w220 nw_w212 nw_w221) yd1_store rfl hR ⟨rfl, rfl⟩ hc_q0 (by decide) rfl rfl hst rfl hd (fun v s2 z => by obtain ⟨rfl, z⟩ := z; exact k s2 z)
def f4_put (K : Int32 → nw_ST → Prop) (σ : nw_ST) (a1 : Int32) (a2 : Int32) (a3 : Int32) (a4 : Int32) : Prop := (f4_itemRefusal (fun (r_4 : Int32) (s_4 : nw_ST) => (((r_4 = 0) → ((vp_in a1 4) ∧ (f1_store (fun (s_26 : nw_ST) => (K (1 : Int32) s_26)) s_4 (27 + 2 * a1.toNatClampNeg) a3 a4))) ∧ (¬ (r_4 = 0) → (K r_4 s_4)))) σ a1 a2 a3)
def rm4_put : Room := { frames := 3, cells := 0, slots := 0, locals := 66 }
theorem yd4_put : yX4_put.cls = RX4 ∧ yX4_put.cls ≠ "java/lang/invoke/MethodHandle" ∧ yX4_put.cls ≠ "java/lang/invoke/VarHandle" ∧ (parseMethodDescriptor yX4_put.desc).map (fun d => d.parameters.length) = some 4 := by decide +kernel
set_option maxHeartbeats 4000000 in
set_option maxRecDepth 100000 in
theorem ct4_put (l : Launch) (P : nw_PT) (hD : nw_D P) (σ : nw_ST) (a1 : Int32) (a2 : Int32) (a3 : Int32) (a4 : Int32)  (K : Int32 → nw_ST → Prop) (hf : f4_put K σ a1 a2 a3 a4) : nw_MT l yX4_put cX4_put 6 (some .int) rm4_put P [.ref (P.2.1 0), .int a1, .int a2, .int a3, .int a4] σ (nw_Ki K) := by
  refine nw_enter (by decide) (by first | decide | exact Nat.le_of_ble_eq_true rfl) hD ?_
  intro X hl h he hR
  subst hl
  have h : nw_ok P X cX4_put RX4 6 := h
  show nw_G P X 6 σ [(0, .ref (P.2.1 0)), (1, .int a1), (2, .int a2), (3, .int a3), (4, .int a4)] 0 []
  unfold f4_put at hf
  refine nw_aload_n (pc := 0) h dX4_put_0 rfl 0 rfl ?_
  refine nw_iload_n (pc := 1) h dX4_put_1 rfl 1 rfl ?_
  refine nw_iload_n (pc := 2) h dX4_put_2 rfl 2 rfl ?_
  refine nw_iload_n (pc := 3) h dX4_put_3 rfl 3 rfl ?_
  refine klX4_262 (pc := 4) h (by rw [hR]; decide) hf (Nat.le_of_ble_eq_true rfl) dX4_put_4 (fun r_4 s_4 hf => ?_)
  refine nw_istore (pc := 7) (lv' := [(5, .int r_4), (0, .ref (P.2.1 0)), (1, .int a1), (2, .int a2), (3, .int a3), (4, .int a4)]) h dX4_put_7 (by decide) rfl ?_
  refine nw_iload (pc := 9) h dX4_put_9 0 rfl ?_
  refine nw_if_eq (pc := 11) (tgt := 17) h dX4_put_11 (by decide) (fun c_11 => ?_) (fun c_11 => ?_)
  · have hf := hf.1 c_11
    refine nw_aload_n (pc := 17) h dX4_put_17 rfl 1 rfl ?_
    refine gf4_61 (pc := 18) (r := 26) h rfl rfl dX4_put_18 ?_
    refine nw_iload_n (pc := 21) h dX4_put_21 rfl 2 rfl ?_
    obtain ⟨h_22, hf⟩ := hf
    refine nw_aald (pc := 22) h h_22 dX4_put_22 ?_
    refine nw_iload_n (pc := 23) h dX4_put_23 rfl 4 rfl ?_
    refine nw_iload (pc := 24) h dX4_put_24 5 rfl ?_
    refine klX4_266 (pc := 26) h (by rw [hR]; decide) (nw_wtS (nw_lt4 h_22)) hf (Nat.le_of_ble_eq_true rfl) dX4_put_26 (fun s_26 hf => ?_)
    refine nw_iconst (pc := 29) (v := 1) h dX4_put_29 (by decide) ?_
    exact nw_iret (pc := 30) h he dX4_put_30 ⟨_, rfl, hf⟩
  · have hf := hf.2 c_11
    refine nw_iload (pc := 14) h dX4_put_14 0 rfl ?_
    exact nw_iret (pc := 16) h he dX4_put_16 ⟨_, rfl, hf⟩
def f4_get_27 (K : Int32 → nw_ST → Prop) (σ : nw_ST) (y0 : Int32) : Prop := (K y0 σ)
def f4_get (K : Int32 → nw_ST → Prop) (σ : nw_ST) (a1 : Int32) (a2 : Int32) (a3 : Int32) : Prop := (f4_itemRefusal (fun (r_4 : Int32) (s_4 : nw_ST) => ((((r_4 = 0) → ((vp_in a1 4) ∧ (vp_in a3 (nw_len (nw_rf (27 + 2 * a1.toNatClampNeg) 0))))) ∧ (¬ (r_4 = 0) → True)) ∧ (f4_get_27 K s_4 (if (r_4 = 0) then (nw_gA s_4 (nw_rf (27 + 2 * a1.toNatClampNeg) 0) a3.toNatClampNeg) else (-2147483648 : Int32))))) σ a1 a2 a3)
def rm4_get : Room := { frames := 3, cells := 0, slots := 0, locals := 66 }
theorem yd4_get : yX4_get.cls = RX4 ∧ yX4_get.cls ≠ "java/lang/invoke/MethodHandle" ∧ yX4_get.cls ≠ "java/lang/invoke/VarHandle" ∧ (parseMethodDescriptor yX4_get.desc).map (fun d => d.parameters.length) = some 3 := by decide +kernel
set_option maxHeartbeats 4000000 in
set_option maxRecDepth 100000 in
theorem ct4_get (l : Launch) (P : nw_PT) (hD : nw_D P) (σ : nw_ST) (a1 : Int32) (a2 : Int32) (a3 : Int32)  (K : Int32 → nw_ST → Prop) (hf : f4_get K σ a1 a2 a3) : nw_MT l yX4_get cX4_get 4 (some .int) rm4_get P [.ref (P.2.1 0), .int a1, .int a2, .int a3] σ (nw_Ki K) := by
  refine nw_enter (by decide) (by first | decide | exact Nat.le_of_ble_eq_true rfl) hD ?_
  intro X hl h he hR
  subst hl
  have h : nw_ok P X cX4_get RX4 4 := h
  show nw_G P X 4 σ [(0, .ref (P.2.1 0)), (1, .int a1), (2, .int a2), (3, .int a3)] 0 []
  have hL_27 :  ∀ (σ : nw_ST) (y0 : Int32), f4_get_27 K σ y0 → nw_G P X 4 σ [] 27 [.int y0] := by
    intro σ y0 hf
    unfold f4_get_27 at hf
    exact nw_iret (pc := 27) h he dX4_get_27 ⟨_, rfl, hf⟩
  unfold f4_get at hf
  refine nw_aload_n (pc := 0) h dX4_get_0 rfl 0 rfl ?_
  refine nw_iload_n (pc := 1) h dX4_get_1 rfl 1 rfl ?_
  refine nw_iload_n (pc := 2) h dX4_get_2 rfl 2 rfl ?_
  refine nw_iload_n (pc := 3) h dX4_get_3 rfl 3 rfl ?_
  refine klX4_262 (pc := 4) h (by rw [hR]; decide) hf (Nat.le_of_ble_eq_true rfl) dX4_get_4 (fun r_4 s_4 hf => ?_)
  obtain ⟨ho, hf⟩ := hf
  refine nw_if_eq (pc := 7) (tgt := 16) h dX4_get_7 (by decide) (fun c_7 => ?_) (fun c_7 => ?_)
  · skip
    have ho := ho.1 c_7
    refine nw_aload_n (pc := 16) h dX4_get_16 rfl 0 rfl ?_
    refine gf4_61 (pc := 17) (r := 26) h rfl rfl dX4_get_17 ?_
    refine nw_iload_n (pc := 20) h dX4_get_20 rfl 1 rfl ?_
    obtain ⟨h_21, ho⟩ := ho
    refine nw_aald (pc := 21) h h_21 dX4_get_21 ?_
    refine gf4_135 (pc := 22) h (nw_wtS (nw_lt4 h_21)) rfl dX4_get_22 ?_
    refine nw_iload_n (pc := 25) h dX4_get_25 rfl 3 rfl ?_
    have h_26 := ho
    refine nw_iald (pc := 26) (n := (nw_len (nw_rf (27 + 2 * a1.toNatClampNeg) 0))) h (nw_wt1_0 (nw_wtS (nw_lt4 h_21))) rfl h_26 dX4_get_26 ?_
    simp only [if_pos c_7] at hf
    refine nw_sub (lv' := []) [] rfl ?_
    exact hL_27 _ _ hf
  · skip
    have ho := ho.2 c_7
    refine nw_ldcw (pc := 10) h nw_w222 dX4_get_10 ?_
    refine nw_goto (pc := 13) (tgt := 27) h dX4_get_13 (by decide) ?_
    simp only [if_neg c_7] at hf
    refine nw_sub (lv' := []) [] rfl ?_
    exact hL_27 _ _ hf
theorem gf1_19 {P : nw_PT} {X : nw_EX} {cc : ByteArray} {nL : Nat} {σ : nw_ST} {lv : List (Nat × Value)} {pc : Nat} {st : List Value} {q : Nat} (h : nw_ok P X cc RX1 nL) (hq : nw_cl q = 1) (hd : decode cc pc = .ok (.getfield 19, 3)) (k : nw_G P X nL σ lv (pc + 3) (.int (nw_gS σ q 2) :: st)) : nw_G P X nL σ lv pc (.ref (P.2.1 q) :: st) := by
  intro H locs ls h1 h2 h3
  exact va_get (D := P.1) (ci := 1) (C := RX1) (T := TX1) (N := 4) h.1.1 h.1.2.1 h.1.2.2.2.2 in_T1 h.1.2.2.2.1 h.2.1.1 h1 q (nw_at1 hq) rfl 2 (by decide) (h.1.2.2.2.2 _ nw_w207) (fun _ z => z) rfl hd (k H locs ls h1 h2 h3)
def v1_hasRange (σ : nw_ST) (q0 : Nat) (a1 : Int32) (a2 : Int32) : Int32 := (if (a1 < 0) then (0 : Int32) else (if (a2 < 0) then (0 : Int32) else (if ((nw_gS σ q0 2) < a1) then (0 : Int32) else (if (((nw_gS σ q0 2) - a1) < a2) then (0 : Int32) else (1 : Int32)))))
theorem z1_hasRange (σ : nw_ST) (q0 : Nat) (a1 : Int32) (a2 : Int32) : nw_isZ (v1_hasRange σ q0 a1 a2) := by
  unfold v1_hasRange; repeat' split
  all_goals first | exact (Or.inl rfl) | exact (Or.inr rfl)
def rm1_hasRange : Room := { frames := 0, cells := 0, slots := 0, locals := 0 }
theorem yd1_hasRange : yX1_hasRange.cls = RX1 ∧ yX1_hasRange.cls ≠ "java/lang/invoke/MethodHandle" ∧ yX1_hasRange.cls ≠ "java/lang/invoke/VarHandle" ∧ (parseMethodDescriptor yX1_hasRange.desc).map (fun d => d.parameters.length) = some 2 := by decide +kernel
set_option maxHeartbeats 4000000 in
set_option maxRecDepth 100000 in
theorem ct1_hasRange (l : Launch) (P : nw_PT) (hD : nw_D P) (σ : nw_ST) (q0 : Nat) (a1 : Int32) (a2 : Int32) (hc_q0 : nw_cl q0 = 1)  : nw_MT l yX1_hasRange cX1_hasRange 3 (some .boolean) rm1_hasRange P [.ref (P.2.1 q0), .int a1, .int a2] σ (nw_Ki (fun r s2 => r = (v1_hasRange σ q0 a1 a2) ∧ s2 = σ)) := by
  refine nw_enter (by decide) (by first | decide | exact Nat.le_of_ble_eq_true rfl) hD ?_
  intro X hl h he hR
  subst hl
  have h : nw_ok P X cX1_hasRange RX1 3 := h
  show nw_G P X 3 σ [(0, .ref (P.2.1 q0)), (1, .int a1), (2, .int a2)] 0 []
  refine nw_iload_n (pc := 0) h dX1_hasRange_0 rfl 1 rfl ?_
  refine nw_if_lt (pc := 1) (tgt := 30) h dX1_hasRange_1 (by decide) (fun c_1 => ?_) (fun c_1 => ?_)
  · skip
    refine nw_iconst (pc := 30) (v := 0) h dX1_hasRange_30 (by decide) ?_
    exact nw_zret (pc := 31) h he dX1_hasRange_31 (Or.inl rfl) ⟨_, rfl, (by unfold v1_hasRange; rw [if_pos c_1]), rfl⟩
  · skip
    refine nw_iload_n (pc := 4) h dX1_hasRange_4 rfl 2 rfl ?_
    refine nw_if_lt (pc := 5) (tgt := 30) h dX1_hasRange_5 (by decide) (fun c_5 => ?_) (fun c_5 => ?_)
    · skip
      refine nw_iconst (pc := 30) (v := 0) h dX1_hasRange_30 (by decide) ?_
      exact nw_zret (pc := 31) h he dX1_hasRange_31 (Or.inl rfl) ⟨_, rfl, (by unfold v1_hasRange; rw [if_neg c_1, if_pos c_5]), rfl⟩
    · skip
      refine nw_iload_n (pc := 8) h dX1_hasRange_8 rfl 1 rfl ?_
      refine nw_aload_n (pc := 9) h dX1_hasRange_9 rfl 0 rfl ?_
      refine gf1_19 (pc := 10) h hc_q0 dX1_hasRange_10 ?_
      refine nw_icmp_gt (pc := 13) (tgt := 30) h dX1_hasRange_13 (by decide) (fun c_13 => ?_) (fun c_13 => ?_)
      · skip
        refine nw_iconst (pc := 30) (v := 0) h dX1_hasRange_30 (by decide) ?_
        exact nw_zret (pc := 31) h he dX1_hasRange_31 (Or.inl rfl) ⟨_, rfl, (by unfold v1_hasRange; rw [if_neg c_1, if_neg c_5, if_pos c_13]), rfl⟩
      · skip
        refine nw_iload_n (pc := 16) h dX1_hasRange_16 rfl 2 rfl ?_
        refine nw_aload_n (pc := 17) h dX1_hasRange_17 rfl 0 rfl ?_
        refine gf1_19 (pc := 18) h hc_q0 dX1_hasRange_18 ?_
        refine nw_iload_n (pc := 21) h dX1_hasRange_21 rfl 1 rfl ?_
        refine nw_isub (pc := 22) h dX1_hasRange_22 ?_
        refine nw_icmp_gt (pc := 23) (tgt := 30) h dX1_hasRange_23 (by decide) (fun c_23 => ?_) (fun c_23 => ?_)
        · skip
          refine nw_iconst (pc := 30) (v := 0) h dX1_hasRange_30 (by decide) ?_
          exact nw_zret (pc := 31) h he dX1_hasRange_31 (Or.inl rfl) ⟨_, rfl, (by unfold v1_hasRange; rw [if_neg c_1, if_neg c_5, if_neg c_13, if_pos c_23]), rfl⟩
        · skip
          refine nw_iconst (pc := 26) (v := 1) h dX1_hasRange_26 (by decide) ?_
          refine nw_goto (pc := 27) (tgt := 31) h dX1_hasRange_27 (by decide) ?_
          exact nw_zret (pc := 31) h he dX1_hasRange_31 (Or.inr rfl) ⟨_, rfl, (by unfold v1_hasRange; rw [if_neg c_1, if_neg c_5, if_neg c_13, if_neg c_23]), rfl⟩
theorem klX4_273 {P : nw_PT} {X : nw_EX} {cc : ByteArray} {nL : Nat} {σ : nw_ST} {lv : List (Nat × Value)} {pc : Nat} {rest : List Value} {q0 : Nat} {a1 : Int32} {a2 : Int32} (h : nw_ok P X cc RX4 nL) (hR : rm1_hasRange.frames + 1 ≤ X.2.2.2.1.frames ∧ 8 + (3 + 11) + rm1_hasRange.locals ≤ X.2.2.2.1.locals) (hc_q0 : nw_cl q0 = 1) (hst : (rest.map fun v => v.category).sum ≤ 8) (hd : decode cc pc = .ok (.invokevirtual 273, 3)) (k : nw_G P X nL σ lv (pc + 3) (.int (v1_hasRange σ q0 a1 a2) :: rest)) : nw_G P X nL σ lv pc (.int a2 :: .int a1 :: .ref (P.2.1 q0) :: rest) :=
  nw_callV (As := [.int a1, .int a2]) (rest := rest) (C := RX1) (ci := 1) h (ct1_hasRange _ P h.2.2 σ q0 a1 a2 hc_q0) (nw_goodV nw_w223 nw_w224 nw_w225 nw_w212 nw_w226) yd1_hasRange rfl hR ⟨rfl, rfl⟩ hc_q0 (by decide) rfl rfl hst rfl hd (fun v s2 z => by obtain ⟨r, rfl, rfl, rfl⟩ := z; exact k)
def f4_copy_16 (K : Int32 → nw_ST → Prop) (σ : nw_ST) : Prop := (K (-2 : Int32) σ)
def f4_copy_51 (K : Int32 → nw_ST → Prop) (σ : nw_ST) : Prop := (f4_finding (fun (r_53 : Int32) (s_53 : nw_ST) => (K r_53 s_53)) σ (1 : Int32))
def f4_copy_99 (K : Int32 → nw_ST → Prop) (σ : nw_ST) : Prop := (f4_finding (fun (r_101 : Int32) (s_101 : nw_ST) => (K r_101 s_101)) σ (2 : Int32))
def f4_copy (K : Int32 → nw_ST → Prop) (σ : nw_ST) (a1 : Int32) (a2 : Int32) (a3 : Int32) (a4 : Int32) (a5 : Int32) : Prop := ((((v4_isBelow a1 (4 : Int32)) = 0) → (f4_copy_16 K σ)) ∧ (¬ ((v4_isBelow a1 (4 : Int32)) = 0) → ((((v4_isBelow a3 (4 : Int32)) = 0) → (f4_copy_16 K σ)) ∧ (¬ ((v4_isBelow a3 (4 : Int32)) = 0) → ((vp_in a1 4) ∧ ((vp_in a3 4) ∧ ((((nw_gS σ (27 + 2 * a1.toNatClampNeg) 3) = 0) → ((((nw_gS σ (27 + 2 * a3.toNatClampNeg) 3) = 0) → ((((nw_gS σ (27 + 2 * a1.toNatClampNeg) 1) = (nw_gS σ (27 + 2 * a3.toNatClampNeg) 1)) → ((((v1_hasRange σ (27 + 2 * a1.toNatClampNeg) a2 a5) = 0) → (f4_copy_99 K σ)) ∧ (¬ ((v1_hasRange σ (27 + 2 * a1.toNatClampNeg) a2 a5) = 0) → ((((v1_hasRange σ (27 + 2 * a3.toNatClampNeg) a4 a5) = 0) → (f4_copy_99 K σ)) ∧ (¬ ((v1_hasRange σ (27 + 2 * a3.toNatClampNeg) a4 a5) = 0) → ((¬ a2 < 0) ∧ ((¬ a4 < 0) ∧ ((¬ a5 < 0) ∧ ((a2.toNatClampNeg + a5.toNatClampNeg ≤ (nw_len (nw_rf (27 + 2 * a1.toNatClampNeg) 0))) ∧ ((a4.toNatClampNeg + a5.toNatClampNeg ≤ (nw_len (nw_rf (27 + 2 * a3.toNatClampNeg) 0))) ∧ (K (1 : Int32) (nw_sC σ (nw_rf (27 + 2 * a1.toNatClampNeg) 0) (nw_rf (27 + 2 * a3.toNatClampNeg) 0) a2.toNatClampNeg a4.toNatClampNeg a5.toNatClampNeg)))))))))))) ∧ (¬ ((nw_gS σ (27 + 2 * a1.toNatClampNeg) 1) = (nw_gS σ (27 + 2 * a3.toNatClampNeg) 1)) → (f4_finding (fun (r_72 : Int32) (s_72 : nw_ST) => (K r_72 s_72)) σ (4 : Int32))))) ∧ (¬ ((nw_gS σ (27 + 2 * a3.toNatClampNeg) 3) = 0) → (f4_copy_51 K σ)))) ∧ (¬ ((nw_gS σ (27 + 2 * a1.toNatClampNeg) 3) = 0) → (f4_copy_51 K σ)))))))))
def rm4_copy : Room := { frames := 1, cells := 0, slots := 0, locals := 60 }
theorem yd4_copy : yX4_copy.cls = RX4 ∧ yX4_copy.cls ≠ "java/lang/invoke/MethodHandle" ∧ yX4_copy.cls ≠ "java/lang/invoke/VarHandle" ∧ (parseMethodDescriptor yX4_copy.desc).map (fun d => d.parameters.length) = some 5 := by decide +kernel
set_option maxHeartbeats 4000000 in
set_option maxRecDepth 100000 in
theorem ct4_copy (l : Launch) (P : nw_PT) (hD : nw_D P) (σ : nw_ST) (a1 : Int32) (a2 : Int32) (a3 : Int32) (a4 : Int32) (a5 : Int32)  (K : Int32 → nw_ST → Prop) (hf : f4_copy K σ a1 a2 a3 a4 a5) : nw_MT l yX4_copy cX4_copy 8 (some .int) rm4_copy P [.ref (P.2.1 0), .int a1, .int a2, .int a3, .int a4, .int a5] σ (nw_Ki K) := by
  refine nw_enter (by decide) (by first | decide | exact Nat.le_of_ble_eq_true rfl) hD ?_
  intro X hl h he hR
  subst hl
  have h : nw_ok P X cX4_copy RX4 8 := h
  show nw_G P X 8 σ [(0, .ref (P.2.1 0)), (1, .int a1), (2, .int a2), (3, .int a3), (4, .int a4), (5, .int a5)] 0 []
  have hL_16 :  ∀ (σ : nw_ST), f4_copy_16 K σ → nw_G P X 8 σ [] 16 [] := by
    intro σ hf
    unfold f4_copy_16 at hf
    refine nw_bipush (pc := 16) (v := -2) h dX4_copy_16 (by decide) ?_
    exact nw_iret (pc := 18) h he dX4_copy_18 ⟨_, rfl, hf⟩
  have hL_51 :  ∀ (σ : nw_ST), f4_copy_51 K σ → nw_G P X 8 σ [(0, .ref (P.2.1 0))] 51 [] := by
    intro σ hf
    unfold f4_copy_51 at hf
    refine nw_aload_n (pc := 51) h dX4_copy_51 rfl 0 rfl ?_
    refine nw_iconst (pc := 52) (v := 1) h dX4_copy_52 (by decide) ?_
    refine klX4_252 (pc := 53) h (by rw [hR]; decide) hf (Nat.le_of_ble_eq_true rfl) dX4_copy_53 (fun r_53 s_53 hf => ?_)
    exact nw_iret (pc := 56) h he dX4_copy_56 ⟨_, rfl, hf⟩
  have hL_99 :  ∀ (σ : nw_ST), f4_copy_99 K σ → nw_G P X 8 σ [(0, .ref (P.2.1 0))] 99 [] := by
    intro σ hf
    unfold f4_copy_99 at hf
    refine nw_aload_n (pc := 99) h dX4_copy_99 rfl 0 rfl ?_
    refine nw_iconst (pc := 100) (v := 2) h dX4_copy_100 (by decide) ?_
    refine klX4_252 (pc := 101) h (by rw [hR]; decide) hf (Nat.le_of_ble_eq_true rfl) dX4_copy_101 (fun r_101 s_101 hf => ?_)
    exact nw_iret (pc := 104) h he dX4_copy_104 ⟨_, rfl, hf⟩
  unfold f4_copy at hf
  refine nw_iload_n (pc := 0) h dX4_copy_0 rfl 1 rfl ?_
  refine nw_iconst (pc := 1) (v := 4) h dX4_copy_1 (by decide) ?_
  refine klX4_84 (pc := 2) h (by rw [hR]; decide) (Nat.le_of_ble_eq_true rfl) dX4_copy_2 ?_
  refine nw_if_eq (pc := 5) (tgt := 16) h dX4_copy_5 (by decide) (fun c_5 => ?_) (fun c_5 => ?_)
  · have hf := hf.1 c_5
    refine nw_sub (lv' := []) [] rfl ?_
    exact hL_16 _ (hf)
  · have hf := hf.2 c_5
    refine nw_iload_n (pc := 8) h dX4_copy_8 rfl 3 rfl ?_
    refine nw_iconst (pc := 9) (v := 4) h dX4_copy_9 (by decide) ?_
    refine klX4_84 (pc := 10) h (by rw [hR]; decide) (Nat.le_of_ble_eq_true rfl) dX4_copy_10 ?_
    refine nw_if_ne (pc := 13) (tgt := 19) h dX4_copy_13 (by decide) (fun c_13 => ?_) (fun c_13 => ?_)
    · have hf := hf.2 c_13
      refine nw_aload_n (pc := 19) h dX4_copy_19 rfl 0 rfl ?_
      refine gf4_61 (pc := 20) (r := 26) h rfl rfl dX4_copy_20 ?_
      refine nw_iload_n (pc := 23) h dX4_copy_23 rfl 1 rfl ?_
      obtain ⟨h_24, hf⟩ := hf
      refine nw_aald (pc := 24) h h_24 dX4_copy_24 ?_
      refine nw_astore (pc := 25) (lv' := [(6, .ref (P.2.1 (27 + 2 * a1.toNatClampNeg))), (0, .ref (P.2.1 0)), (1, .int a1), (2, .int a2), (3, .int a3), (4, .int a4), (5, .int a5)]) h dX4_copy_25 (by decide) rfl ?_
      refine nw_aload_n (pc := 27) h dX4_copy_27 rfl 1 rfl ?_
      refine gf4_61 (pc := 28) (r := 26) h rfl rfl dX4_copy_28 ?_
      refine nw_iload_n (pc := 31) h dX4_copy_31 rfl 4 rfl ?_
      obtain ⟨h_32, hf⟩ := hf
      refine nw_aald (pc := 32) h h_32 dX4_copy_32 ?_
      refine nw_astore (pc := 33) (lv' := [(7, .ref (P.2.1 (27 + 2 * a3.toNatClampNeg))), (6, .ref (P.2.1 (27 + 2 * a1.toNatClampNeg))), (0, .ref (P.2.1 0)), (1, .int a1), (2, .int a2), (3, .int a3), (4, .int a4), (5, .int a5)]) h dX4_copy_33 (by decide) rfl ?_
      refine nw_aload (pc := 35) h dX4_copy_35 1 rfl ?_
      refine gf4_259 (pc := 37) h (nw_wtS (nw_lt4 h_24)) dX4_copy_37 ?_
      refine nw_if_ne (pc := 40) (tgt := 51) h dX4_copy_40 (by decide) (fun c_40 => ?_) (fun c_40 => ?_)
      · have hf := hf.2 c_40
        refine nw_sub (lv' := [(0, .ref (P.2.1 0))]) [2] rfl ?_
        exact hL_51 _ (hf)
      · have hf := hf.1 c_40
        refine nw_aload (pc := 43) h dX4_copy_43 0 rfl ?_
        refine gf4_259 (pc := 45) h (nw_wtS (nw_lt4 h_32)) dX4_copy_45 ?_
        refine nw_if_eq (pc := 48) (tgt := 57) h dX4_copy_48 (by decide) (fun c_48 => ?_) (fun c_48 => ?_)
        · have hf := hf.1 c_48
          refine nw_aload (pc := 57) h dX4_copy_57 1 rfl ?_
          refine gf4_270 (pc := 59) h (nw_wtS (nw_lt4 h_24)) dX4_copy_59 ?_
          refine nw_aload (pc := 62) h dX4_copy_62 0 rfl ?_
          refine gf4_270 (pc := 64) h (nw_wtS (nw_lt4 h_32)) dX4_copy_64 ?_
          refine nw_icmp_eq (pc := 67) (tgt := 76) h dX4_copy_67 (by decide) (fun c_67 => ?_) (fun c_67 => ?_)
          · have hf := hf.1 c_67
            refine nw_aload (pc := 76) h dX4_copy_76 1 rfl ?_
            refine nw_iload_n (pc := 78) h dX4_copy_78 rfl 4 rfl ?_
            refine nw_iload (pc := 79) h dX4_copy_79 7 rfl ?_
            refine klX4_273 (pc := 81) h (by rw [hR]; decide) (nw_wtS (nw_lt4 h_24)) (Nat.le_of_ble_eq_true rfl) dX4_copy_81 ?_
            refine nw_if_eq (pc := 84) (tgt := 99) h dX4_copy_84 (by decide) (fun c_84 => ?_) (fun c_84 => ?_)
            · have hf := hf.1 c_84
              refine nw_sub (lv' := [(0, .ref (P.2.1 0))]) [2] rfl ?_
              exact hL_99 _ (hf)
            · have hf := hf.2 c_84
              refine nw_aload (pc := 87) h dX4_copy_87 0 rfl ?_
              refine nw_iload (pc := 89) h dX4_copy_89 6 rfl ?_
              refine nw_iload (pc := 91) h dX4_copy_91 7 rfl ?_
              refine klX4_273 (pc := 93) h (by rw [hR]; decide) (nw_wtS (nw_lt4 h_32)) (Nat.le_of_ble_eq_true rfl) dX4_copy_93 ?_
              refine nw_if_ne (pc := 96) (tgt := 105) h dX4_copy_96 (by decide) (fun c_96 => ?_) (fun c_96 => ?_)
              · have hf := hf.2 c_96
                refine nw_aload (pc := 105) h dX4_copy_105 1 rfl ?_
                refine gf4_135 (pc := 107) h (nw_wtS (nw_lt4 h_24)) rfl dX4_copy_107 ?_
                refine nw_iload_n (pc := 110) h dX4_copy_110 rfl 4 rfl ?_
                refine nw_aload (pc := 111) h dX4_copy_111 0 rfl ?_
                refine gf4_135 (pc := 113) h (nw_wtS (nw_lt4 h_32)) rfl dX4_copy_113 ?_
                refine nw_iload (pc := 116) h dX4_copy_116 6 rfl ?_
                refine nw_iload (pc := 118) h dX4_copy_118 7 rfl ?_
                obtain ⟨ha_120, hf⟩ := hf
                obtain ⟨hb_120, hf⟩ := hf
                obtain ⟨hc_120, hf⟩ := hf
                obtain ⟨hd_120, hf⟩ := hf
                obtain ⟨he_120, hf⟩ := hf
                refine nw_copy (pc := 120) (n0 := (nw_len (nw_rf (27 + 2 * a1.toNatClampNeg) 0))) (n1 := (nw_len (nw_rf (27 + 2 * a3.toNatClampNeg) 0))) h nw_w227 nw_w228 nw_w229 nw_w230 (nw_wt1_0 (nw_wtS (nw_lt4 h_24))) (nw_wt1_0 (nw_wtS (nw_lt4 h_32))) rfl rfl ha_120 hb_120 hc_120 hd_120 he_120 (by rw [hR]; decide) (by rw [hR]; exact Nat.le_of_ble_eq_true rfl) dX4_copy_120 ?_
                refine nw_iconst (pc := 123) (v := 1) h dX4_copy_123 (by decide) ?_
                exact nw_iret (pc := 124) h he dX4_copy_124 ⟨_, rfl, hf⟩
              · have hf := hf.1 c_96
                refine nw_sub (lv' := [(0, .ref (P.2.1 0))]) [2] rfl ?_
                exact hL_99 _ (hf)
          · have hf := hf.2 c_67
            refine nw_aload_n (pc := 70) h dX4_copy_70 rfl 2 rfl ?_
            refine nw_iconst (pc := 71) (v := 4) h dX4_copy_71 (by decide) ?_
            refine klX4_252 (pc := 72) h (by rw [hR]; decide) hf (Nat.le_of_ble_eq_true rfl) dX4_copy_72 (fun r_72 s_72 hf => ?_)
            exact nw_iret (pc := 75) h he dX4_copy_75 ⟨_, rfl, hf⟩
        · have hf := hf.2 c_48
          refine nw_sub (lv' := [(0, .ref (P.2.1 0))]) [2] rfl ?_
          exact hL_51 _ (hf)
    · have hf := hf.1 c_13
      refine nw_sub (lv' := []) [] rfl ?_
      exact hL_16 _ (hf)
def b4_write_50 (K : Int32 → nw_ST → Prop) (H_50 : nw_ST → Int32 → Int32 → Int32 → Int32 → Prop) (σ : nw_ST) (x1 : Int32) (x2 : Int32) (x5 : Int32) (x6 : Int32) : Prop := (((x5 ≤ x6) → (K x5 σ)) ∧ (¬ (x5 ≤ x6) → ((vp_in x2 4) ∧ ((o3_numberAt σ (x1 + x6)) ∧ (f1_store (fun (s_74 : nw_ST) => (H_50 s_74 x1 x2 x5 (x6 + (1 : Int32)))) σ (27 + 2 * x2.toNatClampNeg) x6 (v3_numberAt σ (x1 + x6)))))))
def f4_write_50 (K : Int32 → nw_ST → Prop) : Nat → nw_ST → Int32 → Int32 → Int32 → Int32 → Prop
  | 0 => fun _ _ _ _ _ => False
  | n + 1 => b4_write_50 K (f4_write_50 K n)
def f4_write (K : Int32 → nw_ST → Prop) (σ : nw_ST) (a1 : Int32) (a2 : Int32) : Prop := ((((v4_isTime a1) = 0) → (K (-2 : Int32) σ)) ∧ (¬ ((v4_isTime a1) = 0) → (f4_sheetRefusal (fun (r_12 : Int32) (s_12 : nw_ST) => (((r_12 = 0) → (f4_waves (fun (r_23 : Nat) (s_23 : nw_ST) => ((vp_in a2 4) ∧ (∃ n, f4_write_50 K n s_23 a1 a2 (if ((240 : Int32) - a1) < (nw_gS s_23 (27 + 2 * a2.toNatClampNeg) 2) then ((240 : Int32) - a1) else (nw_gS s_23 (27 + 2 * a2.toNatClampNeg) 2)) (0 : Int32)))) s_12)) ∧ (¬ (r_12 = 0) → (K r_12 s_12)))) σ a2)))
def rm4_write : Room := { frames := 4, cells := 0, slots := 0, locals := 91 }
theorem yd4_write : yX4_write.cls = RX4 ∧ yX4_write.cls ≠ "java/lang/invoke/MethodHandle" ∧ yX4_write.cls ≠ "java/lang/invoke/VarHandle" ∧ (parseMethodDescriptor yX4_write.desc).map (fun d => d.parameters.length) = some 2 := by decide +kernel
set_option maxHeartbeats 4000000 in
set_option maxRecDepth 100000 in
theorem ct4_write (l : Launch) (P : nw_PT) (hD : nw_D P) (σ : nw_ST) (a1 : Int32) (a2 : Int32)  (K : Int32 → nw_ST → Prop) (hf : f4_write K σ a1 a2) : nw_MT l yX4_write cX4_write 7 (some .int) rm4_write P [.ref (P.2.1 0), .int a1, .int a2] σ (nw_Ki K) := by
  refine nw_enter (by decide) (by first | decide | exact Nat.le_of_ble_eq_true rfl) hD ?_
  intro X hl h he hR
  subst hl
  have h : nw_ok P X cX4_write RX4 7 := h
  show nw_G P X 7 σ [(0, .ref (P.2.1 0)), (1, .int a1), (2, .int a2)] 0 []
  have hB_50 : ∀ (H_50 : nw_ST → Int32 → Int32 → Int32 → Int32 → Prop) (hH_50 : (∀ (σ : nw_ST) (x1 : Int32) (x2 : Int32) (x5 : Int32) (x6 : Int32), H_50 σ x1 x2 x5 x6 → nw_G P X 7 σ [(0, .ref (P.2.1 0)), (1, .int x1), (2, .int x2), (4, .ref (P.2.1 19)), (5, .int x5), (6, .int x6)] 50 [])), ∀ (σ : nw_ST) (x1 : Int32) (x2 : Int32) (x5 : Int32) (x6 : Int32), b4_write_50 K H_50 σ x1 x2 x5 x6 → nw_G P X 7 σ [(0, .ref (P.2.1 0)), (1, .int x1), (2, .int x2), (4, .ref (P.2.1 19)), (5, .int x5), (6, .int x6)] 50 [] := by
    intro H_50 hH_50 σ x1 x2 x5 x6 hf
    unfold b4_write_50 at hf
    refine nw_iload (pc := 50) h dX4_write_50 5 rfl ?_
    refine nw_iload (pc := 52) h dX4_write_52 4 rfl ?_
    refine nw_icmp_ge (pc := 54) (tgt := 83) h dX4_write_54 (by decide) (fun c_54 => ?_) (fun c_54 => ?_)
    · have hf := hf.1 c_54
      refine nw_iload (pc := 83) h dX4_write_83 4 rfl ?_
      exact nw_iret (pc := 85) h he dX4_write_85 ⟨_, rfl, hf⟩
    · have hf := hf.2 c_54
      refine nw_aload_n (pc := 57) h dX4_write_57 rfl 0 rfl ?_
      refine gf4_61 (pc := 58) (r := 26) h rfl rfl dX4_write_58 ?_
      refine nw_iload_n (pc := 61) h dX4_write_61 rfl 2 rfl ?_
      obtain ⟨h_62, hf⟩ := hf
      refine nw_aald (pc := 62) h h_62 dX4_write_62 ?_
      refine nw_iload (pc := 63) h dX4_write_63 5 rfl ?_
      refine nw_aload (pc := 65) h dX4_write_65 3 rfl ?_
      refine nw_iload_n (pc := 67) h dX4_write_67 rfl 1 rfl ?_
      refine nw_iload (pc := 68) h dX4_write_68 5 rfl ?_
      refine nw_iadd (pc := 70) h dX4_write_70 ?_
      obtain ⟨h_71, hf⟩ := hf
      refine klX4_150 (pc := 71) h (by rw [hR]; decide) h_71 (Nat.le_of_ble_eq_true rfl) dX4_write_71 ?_
      refine klX4_266 (pc := 74) h (by rw [hR]; decide) (nw_wtS (nw_lt4 h_62)) hf (Nat.le_of_ble_eq_true rfl) dX4_write_74 (fun s_74 hf => ?_)
      refine nw_iinc (pc := 77) (v := (x6 + (1 : Int32))) (lv' := [(6, .int (x6 + (1 : Int32))), (0, .ref (P.2.1 0)), (1, .int x1), (2, .int x2), (4, .ref (P.2.1 19)), (5, .int x5)]) h dX4_write_77 (j := 5) rfl rfl (by decide) rfl ?_
      refine nw_goto (pc := 80) (tgt := 50) h dX4_write_80 (by decide) ?_
      refine nw_sub (lv' := [(0, .ref (P.2.1 0)), (1, .int x1), (2, .int x2), (4, .ref (P.2.1 19)), (5, .int x5), (6, .int (x6 + (1 : Int32)))]) [1, 2, 3, 4, 5, 0] rfl ?_
      exact hH_50 _ _ _ _ _ (hf)
  have hL_50 :  ∀ (n : Nat) (σ : nw_ST) (x1 : Int32) (x2 : Int32) (x5 : Int32) (x6 : Int32), f4_write_50 K n σ x1 x2 x5 x6 → nw_G P X 7 σ [(0, .ref (P.2.1 0)), (1, .int x1), (2, .int x2), (4, .ref (P.2.1 19)), (5, .int x5), (6, .int x6)] 50 [] := by
    intro n
    induction n with
    | zero => intro σ x1 x2 x5 x6 hf; exact False.elim hf
    | succ n ih => exact hB_50 _ ih
  unfold f4_write at hf
  refine nw_iload_n (pc := 0) h dX4_write_0 rfl 1 rfl ?_
  refine klX4_117 (pc := 1) h (by rw [hR]; decide) (Nat.le_of_ble_eq_true rfl) dX4_write_1 ?_
  refine nw_if_ne (pc := 4) (tgt := 10) h dX4_write_4 (by decide) (fun c_4 => ?_) (fun c_4 => ?_)
  · have hf := hf.2 c_4
    refine nw_aload_n (pc := 10) h dX4_write_10 rfl 0 rfl ?_
    refine nw_iload_n (pc := 11) h dX4_write_11 rfl 2 rfl ?_
    refine klX4_130 (pc := 12) h (by rw [hR]; decide) hf (Nat.le_of_ble_eq_true rfl) dX4_write_12 (fun r_12 s_12 hf => ?_)
    refine nw_istore_n (pc := 15) (lv' := [(3, .int r_12), (0, .ref (P.2.1 0)), (1, .int a1), (2, .int a2)]) h dX4_write_15 rfl (by decide) rfl ?_
    refine nw_iload_n (pc := 16) h dX4_write_16 rfl 0 rfl ?_
    refine nw_if_eq (pc := 17) (tgt := 22) h dX4_write_17 (by decide) (fun c_17 => ?_) (fun c_17 => ?_)
    · have hf := hf.1 c_17
      refine nw_aload_n (pc := 22) h dX4_write_22 rfl 1 rfl ?_
      refine klX4_140 (pc := 23) h (by rw [hR]; decide) hf (Nat.le_of_ble_eq_true rfl) dX4_write_23 (fun r_23 s_23 hcr hf => ?_)
      obtain rfl := nw_q3 hcr
      refine nw_astore (pc := 26) (lv' := [(4, .ref (P.2.1 19)), (3, .int r_12), (0, .ref (P.2.1 0)), (1, .int a1), (2, .int a2)]) h dX4_write_26 (by decide) rfl ?_
      refine nw_aload_n (pc := 28) h dX4_write_28 rfl 2 rfl ?_
      refine gf4_61 (pc := 29) (r := 26) h rfl rfl dX4_write_29 ?_
      refine nw_iload_n (pc := 32) h dX4_write_32 rfl 4 rfl ?_
      obtain ⟨h_33, hf⟩ := hf
      refine nw_aald (pc := 33) h h_33 dX4_write_33 ?_
      refine gf4_134 (pc := 34) h (nw_wtS (nw_lt4 h_33)) dX4_write_34 ?_
      refine nw_sipush (pc := 37) (v := 240) h dX4_write_37 (by decide) ?_
      refine nw_iload_n (pc := 40) h dX4_write_40 rfl 3 rfl ?_
      refine nw_isub (pc := 41) h dX4_write_41 ?_
      refine nw_mmin (pc := 42) h nw_w192 nw_w193 nw_w146 nw_w194 (by rw [hR]; decide) (by rw [hR]; exact Nat.le_of_ble_eq_true rfl) dX4_write_42 ?_
      refine nw_istore (pc := 45) (lv' := [(5, .int (if ((240 : Int32) - a1) < (nw_gS s_23 (27 + 2 * a2.toNatClampNeg) 2) then ((240 : Int32) - a1) else (nw_gS s_23 (27 + 2 * a2.toNatClampNeg) 2))), (4, .ref (P.2.1 19)), (3, .int r_12), (0, .ref (P.2.1 0)), (1, .int a1), (2, .int a2)]) h dX4_write_45 (by decide) rfl ?_
      refine nw_iconst (pc := 47) (v := 0) h dX4_write_47 (by decide) ?_
      refine nw_istore (pc := 48) (lv' := [(6, .int (0 : Int32)), (5, .int (if ((240 : Int32) - a1) < (nw_gS s_23 (27 + 2 * a2.toNatClampNeg) 2) then ((240 : Int32) - a1) else (nw_gS s_23 (27 + 2 * a2.toNatClampNeg) 2))), (4, .ref (P.2.1 19)), (3, .int r_12), (0, .ref (P.2.1 0)), (1, .int a1), (2, .int a2)]) h dX4_write_48 (by decide) rfl ?_
      obtain ⟨n_50, hf⟩ := hf
      refine nw_sub (lv' := [(0, .ref (P.2.1 0)), (1, .int a1), (2, .int a2), (4, .ref (P.2.1 19)), (5, .int (if ((240 : Int32) - a1) < (nw_gS s_23 (27 + 2 * a2.toNatClampNeg) 2) then ((240 : Int32) - a1) else (nw_gS s_23 (27 + 2 * a2.toNatClampNeg) 2))), (6, .int (0 : Int32))]) [4, 5, 6, 2, 1, 0] rfl ?_
      exact hL_50 n_50 _ _ _ _ _ hf
    · have hf := hf.2 c_17
      refine nw_iload_n (pc := 20) h dX4_write_20 rfl 0 rfl ?_
      exact nw_iret (pc := 21) h he dX4_write_21 ⟨_, rfl, hf⟩
  · have hf := hf.1 c_4
    refine nw_bipush (pc := 7) (v := -2) h dX4_write_7 (by decide) ?_
    exact nw_iret (pc := 9) h he dX4_write_9 ⟨_, rfl, hf⟩
theorem gf4_77 {P : nw_PT} {X : nw_EX} {cc : ByteArray} {nL : Nat} {σ : nw_ST} {lv : List (Nat × Value)} {pc : Nat} {st : List Value} {q : Nat} (h : nw_ok P X cc RX4 nL) (hq : nw_cl q = 4) (hd : decode cc pc = .ok (.getfield 77, 3)) (k : nw_G P X nL σ lv (pc + 3) (.int (nw_gS σ q 11) :: st)) : nw_G P X nL σ lv pc (.ref (P.2.1 q) :: st) := by
  intro H locs ls h1 h2 h3
  exact va_get (D := P.1) (ci := 4) (C := RX4) (T := TX4) (N := 13) h.1.1 h.1.2.1 h.1.2.2.2.2 in_T4 h.1.2.2.2.1 h.2.1.1 h1 q (nw_at4 hq) rfl 11 (by decide) (h.1.2.2.2.2 _ nw_w78) (fun _ z => z) rfl hd (k H locs ls h1 h2 h3)
def f4_count (K : Int32 → nw_ST → Prop) (σ : nw_ST) (a1 : Int32) : Prop := (((a1 = (0 : Int32)) → (K (nw_gS σ 1 6) σ)) ∧ (¬ (a1 = (0 : Int32)) → (((a1 = (1 : Int32)) → (K (nw_gS σ 4 6) σ)) ∧ (¬ (a1 = (1 : Int32)) → (((a1 = (2 : Int32)) → (K (nw_gS σ 1 4) σ)) ∧ (¬ (a1 = (2 : Int32)) → (((a1 = (3 : Int32)) → (K (nw_gS σ 4 4) σ)) ∧ (¬ (a1 = (3 : Int32)) → (((a1 = (4 : Int32)) → (f4_waves (fun (r_85 : Nat) (s_85 : nw_ST) => (f3_breakingBy (fun (r_92 : Int32) (s_92 : nw_ST) => (K r_92 s_92)) s_85 (nw_gS s_85 0 10))) σ)) ∧ (¬ (a1 = (4 : Int32)) → (((a1 = (5 : Int32)) → (K (nw_gS σ 13 2) σ)) ∧ (¬ (a1 = (5 : Int32)) → (((a1 = (6 : Int32)) → (f4_waves (fun (r_105 : Nat) (s_105 : nw_ST) => ((o3_last s_105) ∧ (K (v3_last s_105) s_105))) σ)) ∧ (¬ (a1 = (6 : Int32)) → (((a1 = (7 : Int32)) → (K (nw_gS σ 16 2) σ)) ∧ (¬ (a1 = (7 : Int32)) → (((a1 = (8 : Int32)) → (K (nw_gS σ 0 11) σ)) ∧ (¬ (a1 = (8 : Int32)) → (K (-2 : Int32) σ)))))))))))))))))))
def rm4_count : Room := { frames := 4, cells := 0, slots := 0, locals := 91 }
theorem yd4_count : yX4_count.cls = RX4 ∧ yX4_count.cls ≠ "java/lang/invoke/MethodHandle" ∧ yX4_count.cls ≠ "java/lang/invoke/VarHandle" ∧ (parseMethodDescriptor yX4_count.desc).map (fun d => d.parameters.length) = some 1 := by decide +kernel
set_option maxHeartbeats 4000000 in
set_option maxRecDepth 100000 in
theorem ct4_count (l : Launch) (P : nw_PT) (hD : nw_D P) (σ : nw_ST) (a1 : Int32)  (K : Int32 → nw_ST → Prop) (hf : f4_count K σ a1) : nw_MT l yX4_count cX4_count 2 (some .int) rm4_count P [.ref (P.2.1 0), .int a1] σ (nw_Ki K) := by
  refine nw_enter (by decide) (by first | decide | exact Nat.le_of_ble_eq_true rfl) hD ?_
  intro X hl h he hR
  subst hl
  have h : nw_ok P X cX4_count RX4 2 := h
  show nw_G P X 2 σ [(0, .ref (P.2.1 0)), (1, .int a1)] 0 []
  unfold f4_count at hf
  refine nw_iload_n (pc := 0) h dX4_count_0 rfl 1 rfl ?_
  by_cases e_0 : a1 = (0 : Int32)
  · have hf := hf.1 e_0
    refine nw_tabIn (pc := 1) (off := 51) (tgt := 52) h dX4_count_1 (by rw [e_0]; decide) (by rw [e_0]; decide) (by rw [e_0]; decide) (by decide) ?_
    refine nw_aload_n (pc := 52) h dX4_count_52 rfl 0 rfl ?_
    refine gf4_21 (pc := 53) (r := 1) h rfl rfl dX4_count_53 ?_
    refine gf4_178 (pc := 56) h rfl dX4_count_56 ?_
    exact nw_iret (pc := 59) h he dX4_count_59 ⟨_, rfl, hf⟩
  have hf := hf.2 e_0
  by_cases e_1 : a1 = (1 : Int32)
  · have hf := hf.1 e_1
    refine nw_tabIn (pc := 1) (off := 59) (tgt := 60) h dX4_count_1 (by rw [e_1]; decide) (by rw [e_1]; decide) (by rw [e_1]; decide) (by decide) ?_
    refine nw_aload_n (pc := 60) h dX4_count_60 rfl 0 rfl ?_
    refine gf4_31 (pc := 61) (r := 4) h rfl rfl dX4_count_61 ?_
    refine gf4_178 (pc := 64) h rfl dX4_count_64 ?_
    exact nw_iret (pc := 67) h he dX4_count_67 ⟨_, rfl, hf⟩
  have hf := hf.2 e_1
  by_cases e_2 : a1 = (2 : Int32)
  · have hf := hf.1 e_2
    refine nw_tabIn (pc := 1) (off := 67) (tgt := 68) h dX4_count_1 (by rw [e_2]; decide) (by rw [e_2]; decide) (by rw [e_2]; decide) (by decide) ?_
    refine nw_aload_n (pc := 68) h dX4_count_68 rfl 0 rfl ?_
    refine gf4_21 (pc := 69) (r := 1) h rfl rfl dX4_count_69 ?_
    refine gf4_96 (pc := 72) h rfl dX4_count_72 ?_
    exact nw_iret (pc := 75) h he dX4_count_75 ⟨_, rfl, hf⟩
  have hf := hf.2 e_2
  by_cases e_3 : a1 = (3 : Int32)
  · have hf := hf.1 e_3
    refine nw_tabIn (pc := 1) (off := 75) (tgt := 76) h dX4_count_1 (by rw [e_3]; decide) (by rw [e_3]; decide) (by rw [e_3]; decide) (by decide) ?_
    refine nw_aload_n (pc := 76) h dX4_count_76 rfl 0 rfl ?_
    refine gf4_31 (pc := 77) (r := 4) h rfl rfl dX4_count_77 ?_
    refine gf4_96 (pc := 80) h rfl dX4_count_80 ?_
    exact nw_iret (pc := 83) h he dX4_count_83 ⟨_, rfl, hf⟩
  have hf := hf.2 e_3
  by_cases e_4 : a1 = (4 : Int32)
  · have hf := hf.1 e_4
    refine nw_tabIn (pc := 1) (off := 83) (tgt := 84) h dX4_count_1 (by rw [e_4]; decide) (by rw [e_4]; decide) (by rw [e_4]; decide) (by decide) ?_
    refine nw_aload_n (pc := 84) h dX4_count_84 rfl 0 rfl ?_
    refine klX4_140 (pc := 85) h (by rw [hR]; decide) hf (Nat.le_of_ble_eq_true rfl) dX4_count_85 (fun r_85 s_85 hcr hf => ?_)
    obtain rfl := nw_q3 hcr
    refine nw_aload_n (pc := 88) h dX4_count_88 rfl 0 rfl ?_
    refine gf4_73 (pc := 89) h rfl dX4_count_89 ?_
    refine klX4_207 (pc := 92) h (by rw [hR]; decide) hf (Nat.le_of_ble_eq_true rfl) dX4_count_92 (fun r_92 s_92 hf => ?_)
    exact nw_iret (pc := 95) h he dX4_count_95 ⟨_, rfl, hf⟩
  have hf := hf.2 e_4
  by_cases e_5 : a1 = (5 : Int32)
  · have hf := hf.1 e_5
    refine nw_tabIn (pc := 1) (off := 95) (tgt := 96) h dX4_count_1 (by rw [e_5]; decide) (by rw [e_5]; decide) (by rw [e_5]; decide) (by decide) ?_
    refine nw_aload_n (pc := 96) h dX4_count_96 rfl 0 rfl ?_
    refine gf4_46 (pc := 97) (r := 13) h rfl rfl dX4_count_97 ?_
    refine gf4_127 (pc := 100) h rfl dX4_count_100 ?_
    exact nw_iret (pc := 103) h he dX4_count_103 ⟨_, rfl, hf⟩
  have hf := hf.2 e_5
  by_cases e_6 : a1 = (6 : Int32)
  · have hf := hf.1 e_6
    refine nw_tabIn (pc := 1) (off := 103) (tgt := 104) h dX4_count_1 (by rw [e_6]; decide) (by rw [e_6]; decide) (by rw [e_6]; decide) (by decide) ?_
    refine nw_aload_n (pc := 104) h dX4_count_104 rfl 0 rfl ?_
    refine klX4_140 (pc := 105) h (by rw [hR]; decide) hf (Nat.le_of_ble_eq_true rfl) dX4_count_105 (fun r_105 s_105 hcr hf => ?_)
    obtain rfl := nw_q3 hcr
    obtain ⟨h_108, hf⟩ := hf
    refine klX4_199 (pc := 108) h (by rw [hR]; decide) h_108 (Nat.le_of_ble_eq_true rfl) dX4_count_108 ?_
    exact nw_iret (pc := 111) h he dX4_count_111 ⟨_, rfl, hf⟩
  have hf := hf.2 e_6
  by_cases e_7 : a1 = (7 : Int32)
  · have hf := hf.1 e_7
    refine nw_tabIn (pc := 1) (off := 111) (tgt := 112) h dX4_count_1 (by rw [e_7]; decide) (by rw [e_7]; decide) (by rw [e_7]; decide) (by decide) ?_
    refine nw_aload_n (pc := 112) h dX4_count_112 rfl 0 rfl ?_
    refine gf4_49 (pc := 113) (r := 16) h rfl rfl dX4_count_113 ?_
    refine gf4_127 (pc := 116) h rfl dX4_count_116 ?_
    exact nw_iret (pc := 119) h he dX4_count_119 ⟨_, rfl, hf⟩
  have hf := hf.2 e_7
  by_cases e_8 : a1 = (8 : Int32)
  · have hf := hf.1 e_8
    refine nw_tabIn (pc := 1) (off := 119) (tgt := 120) h dX4_count_1 (by rw [e_8]; decide) (by rw [e_8]; decide) (by rw [e_8]; decide) (by decide) ?_
    refine nw_aload_n (pc := 120) h dX4_count_120 rfl 0 rfl ?_
    refine gf4_77 (pc := 121) h rfl dX4_count_121 ?_
    exact nw_iret (pc := 124) h he dX4_count_124 ⟨_, rfl, hf⟩
  have hf := hf.2 e_8
  refine nw_tabOut (pc := 1) (tgt := 125) h dX4_count_1 (by have z_0 := lv_neT e_0 (by decide : (0 : Int32).toInt = 0); have z_1 := lv_neT e_1 (by decide : (1 : Int32).toInt = 1); have z_2 := lv_neT e_2 (by decide : (2 : Int32).toInt = 2); have z_3 := lv_neT e_3 (by decide : (3 : Int32).toInt = 3); have z_4 := lv_neT e_4 (by decide : (4 : Int32).toInt = 4); have z_5 := lv_neT e_5 (by decide : (5 : Int32).toInt = 5); have z_6 := lv_neT e_6 (by decide : (6 : Int32).toInt = 6); have z_7 := lv_neT e_7 (by decide : (7 : Int32).toInt = 7); have z_8 := lv_neT e_8 (by decide : (8 : Int32).toInt = 8); omega) (by decide) ?_
  refine nw_bipush (pc := 125) (v := -2) h dX4_count_125 (by decide) ?_
  exact nw_iret (pc := 127) h he dX4_count_127 ⟨_, rfl, hf⟩
theorem klX4_314 {P : nw_PT} {X : nw_EX} {cc : ByteArray} {nL : Nat} {σ : nw_ST} {lv : List (Nat × Value)} {pc : Nat} {rest : List Value} {a1 : Int32} {a2 : Int32} {a3 : Int32} {a4 : Int32} (h : nw_ok P X cc RX4 nL) (hR : rm4_agree.frames + 1 ≤ X.2.2.2.1.frames ∧ 8 + (9 + 11) + rm4_agree.locals ≤ X.2.2.2.1.locals)  {K : Int32 → nw_ST → Prop} (hf : f4_agree K σ a1 a2 a3 a4) (hst : (rest.map fun v => v.category).sum ≤ 8) (hd : decode cc pc = .ok (.invokevirtual 314, 3)) (k : ∀ (r : Int32) (s2 : nw_ST), K r s2 → nw_G P X nL s2 lv (pc + 3) (.int r :: rest)) : nw_G P X nL σ lv pc (.int a4 :: .int a3 :: .int a2 :: .int a1 :: .ref (P.2.1 0) :: rest) :=
  nw_callV (As := [.int a1, .int a2, .int a3, .int a4]) (rest := rest) (C := RX4) (ci := 4) h (ct4_agree _ P h.2.2 σ a1 a2 a3 a4 K hf) (nw_goodV nw_w232 nw_w233 nw_w234 nw_w24 nw_w235) yd4_agree rfl hR ⟨rfl, rfl⟩ rfl (by decide) rfl rfl hst rfl hd (fun v s2 z => by obtain ⟨r, rfl, z⟩ := z; exact k r s2 z)
theorem klX4_318 {P : nw_PT} {X : nw_EX} {cc : ByteArray} {nL : Nat} {σ : nw_ST} {lv : List (Nat × Value)} {pc : Nat} {rest : List Value} {a1 : Int32} {a2 : Int32} (h : nw_ok P X cc RX4 nL) (hR : rm4_often.frames + 1 ≤ X.2.2.2.1.frames ∧ 8 + (7 + 11) + rm4_often.locals ≤ X.2.2.2.1.locals)  {K : Int32 → nw_ST → Prop} (hf : f4_often K σ a1 a2) (hst : (rest.map fun v => v.category).sum ≤ 8) (hd : decode cc pc = .ok (.invokevirtual 318, 3)) (k : ∀ (r : Int32) (s2 : nw_ST), K r s2 → nw_G P X nL s2 lv (pc + 3) (.int r :: rest)) : nw_G P X nL σ lv pc (.int a2 :: .int a1 :: .ref (P.2.1 0) :: rest) :=
  nw_callV (As := [.int a1, .int a2]) (rest := rest) (C := RX4) (ci := 4) h (ct4_often _ P h.2.2 σ a1 a2 K hf) (nw_goodV nw_w236 nw_w237 nw_w238 nw_w24 nw_w239) yd4_often rfl hR ⟨rfl, rfl⟩ rfl (by decide) rfl rfl hst rfl hd (fun v s2 z => by obtain ⟨r, rfl, z⟩ := z; exact k r s2 z)
theorem klX4_311 {P : nw_PT} {X : nw_EX} {cc : ByteArray} {nL : Nat} {σ : nw_ST} {lv : List (Nat × Value)} {pc : Nat} {rest : List Value} {a1 : Int32} {a2 : Int32} (h : nw_ok P X cc RX4 nL) (hR : rm4_swell.frames + 1 ≤ X.2.2.2.1.frames ∧ 8 + (3 + 11) + rm4_swell.locals ≤ X.2.2.2.1.locals)  (ho : o4_swell σ a1 a2) (hst : (rest.map fun v => v.category).sum ≤ 8) (hd : decode cc pc = .ok (.invokevirtual 311, 3)) (k : nw_G P X nL σ lv (pc + 3) (.int (v4_swell σ a1 a2) :: rest)) : nw_G P X nL σ lv pc (.int a2 :: .int a1 :: .ref (P.2.1 0) :: rest) :=
  nw_callV (As := [.int a1, .int a2]) (rest := rest) (C := RX4) (ci := 4) h (ct4_swell _ P h.2.2 σ a1 a2 ho) (nw_goodV nw_w240 nw_w241 nw_w242 nw_w24 nw_w243) yd4_swell rfl hR ⟨rfl, rfl⟩ rfl (by decide) rfl rfl hst rfl hd (fun v s2 z => by obtain ⟨r, rfl, rfl, rfl⟩ := z; exact k)
def b4_digestSwells_20 (K : Int64 → nw_ST → Prop) (H_5 : nw_ST → Int64 → Int32 → Prop) (H_20 : nw_ST → Int64 → Int32 → Int32 → Prop) (σ : nw_ST) (x3 : Int64) (x5 : Int32) (x6 : Int32) : Prop := ((((3 : Int32) ≤ x6) → (f4_agree (fun (r_59 : Int32) (s_59 : nw_ST) => (f4_agree (fun (r_76 : Int32) (s_76 : nw_ST) => (f4_often (fun (r_91 : Int32) (s_91 : nw_ST) => (f4_often (fun (r_106 : Int32) (s_106 : nw_ST) => (H_5 s_106 (((31 : Int64) * (((31 : Int64) * (((31 : Int64) * (((31 : Int64) * x3) + (Int32.toInt64 r_59))) + (Int32.toInt64 r_76))) + (Int32.toInt64 r_91))) + (Int32.toInt64 r_106)) (x5 + (1 : Int32)))) s_91 x5 (0 : Int32))) s_76 x5 (-1 : Int32))) s_59 (0 : Int32) x5 (5 : Int32) (1 : Int32))) σ (0 : Int32) x5 (5 : Int32) (0 : Int32))) ∧ (¬ ((3 : Int32) ≤ x6) → ((o4_swell σ x5 x6) ∧ (H_20 σ (((31 : Int64) * x3) + (Int32.toInt64 (v4_swell σ x5 x6))) x5 (x6 + (1 : Int32))))))
def f4_digestSwells_20 (K : Int64 → nw_ST → Prop) (H_5 : nw_ST → Int64 → Int32 → Prop) : Nat → nw_ST → Int64 → Int32 → Int32 → Prop
  | 0 => fun _ _ _ _ => False
  | n + 1 => b4_digestSwells_20 K H_5 (f4_digestSwells_20 K H_5 n)
def b4_digestSwells_5 (K : Int64 → nw_ST → Prop) (H_5 : nw_ST → Int64 → Int32 → Prop) (σ : nw_ST) (x3 : Int64) (x5 : Int32) : Prop := ((((nw_gS σ 1 6) ≤ x5) → (K x3 σ)) ∧ (¬ ((nw_gS σ 1 6) ≤ x5) → (∃ n, f4_digestSwells_20 K H_5 n σ x3 x5 (0 : Int32))))
def f4_digestSwells_5 (K : Int64 → nw_ST → Prop) : Nat → nw_ST → Int64 → Int32 → Prop
  | 0 => fun _ _ _ => False
  | n + 1 => b4_digestSwells_5 K (f4_digestSwells_5 K n)
def f4_digestSwells (K : Int64 → nw_ST → Prop) (σ : nw_ST) (a1 : Int64) : Prop := (∃ n, f4_digestSwells_5 K n σ a1 (0 : Int32))
def rm4_digestSwells : Room := { frames := 5, cells := 0, slots := 0, locals := 117 }
theorem yd4_digestSwells : yX4_digestSwells.cls = RX4 ∧ yX4_digestSwells.cls ≠ "java/lang/invoke/MethodHandle" ∧ yX4_digestSwells.cls ≠ "java/lang/invoke/VarHandle" ∧ (parseMethodDescriptor yX4_digestSwells.desc).map (fun d => d.parameters.length) = some 1 := by decide +kernel
set_option maxHeartbeats 4000000 in
set_option maxRecDepth 100000 in
theorem ct4_digestSwells (l : Launch) (P : nw_PT) (hD : nw_D P) (σ : nw_ST) (a1 : Int64)  (K : Int64 → nw_ST → Prop) (hf : f4_digestSwells K σ a1) : nw_MT l yX4_digestSwells cX4_digestSwells 7 (some .long) rm4_digestSwells P [.ref (P.2.1 0), .long a1] σ (nw_Kl K) := by
  refine nw_enter (by decide) (by first | decide | exact Nat.le_of_ble_eq_true rfl) hD ?_
  intro X hl h he hR
  subst hl
  have h : nw_ok P X cX4_digestSwells RX4 7 := h
  show nw_G P X 7 σ [(0, .ref (P.2.1 0)), (1, .long a1)] 0 []
  have hB_20 : ∀ (H_5 : nw_ST → Int64 → Int32 → Prop) (hH_5 : (∀ (σ : nw_ST) (x3 : Int64) (x5 : Int32), H_5 σ x3 x5 → nw_G P X 7 σ [(0, .ref (P.2.1 0)), (3, .long x3), (5, .int x5)] 5 [])) (H_20 : nw_ST → Int64 → Int32 → Int32 → Prop) (hH_20 : (∀ (σ : nw_ST) (x3 : Int64) (x5 : Int32) (x6 : Int32), H_20 σ x3 x5 x6 → nw_G P X 7 σ [(0, .ref (P.2.1 0)), (3, .long x3), (5, .int x5), (6, .int x6)] 20 [])), ∀ (σ : nw_ST) (x3 : Int64) (x5 : Int32) (x6 : Int32), b4_digestSwells_20 K H_5 H_20 σ x3 x5 x6 → nw_G P X 7 σ [(0, .ref (P.2.1 0)), (3, .long x3), (5, .int x5), (6, .int x6)] 20 [] := by
    intro H_5 hH_5 H_20 hH_20 σ x3 x5 x6 hf
    unfold b4_digestSwells_20 at hf
    refine nw_iload (pc := 20) h dX4_digestSwells_20 3 rfl ?_
    refine nw_iconst (pc := 22) (v := 3) h dX4_digestSwells_22 (by decide) ?_
    refine nw_icmp_ge (pc := 23) (tgt := 48) h dX4_digestSwells_23 (by decide) (fun c_23 => ?_) (fun c_23 => ?_)
    · have hf := hf.1 c_23
      refine nw_ldc2 (pc := 48) h nw_w231 dX4_digestSwells_48 ?_
      refine nw_lload_n (pc := 51) h dX4_digestSwells_51 rfl 1 rfl ?_
      refine nw_lmul (pc := 52) h dX4_digestSwells_52 ?_
      refine nw_aload_n (pc := 53) h dX4_digestSwells_53 rfl 0 rfl ?_
      refine nw_iconst (pc := 54) (v := 0) h dX4_digestSwells_54 (by decide) ?_
      refine nw_iload (pc := 55) h dX4_digestSwells_55 2 rfl ?_
      refine nw_iconst (pc := 57) (v := 5) h dX4_digestSwells_57 (by decide) ?_
      refine nw_iconst (pc := 58) (v := 0) h dX4_digestSwells_58 (by decide) ?_
      refine klX4_314 (pc := 59) h (by rw [hR]; decide) hf (Nat.le_of_ble_eq_true rfl) dX4_digestSwells_59 (fun r_59 s_59 hf => ?_)
      refine nw_i2l (pc := 62) h dX4_digestSwells_62 ?_
      refine nw_ladd (pc := 63) h dX4_digestSwells_63 ?_
      refine nw_lstore_n (pc := 64) (lv' := [(3, .long (((31 : Int64) * x3) + (Int32.toInt64 r_59))), (0, .ref (P.2.1 0)), (5, .int x5), (6, .int x6)]) h dX4_digestSwells_64 rfl (by decide) rfl ?_
      refine nw_ldc2 (pc := 65) h nw_w231 dX4_digestSwells_65 ?_
      refine nw_lload_n (pc := 68) h dX4_digestSwells_68 rfl 0 rfl ?_
      refine nw_lmul (pc := 69) h dX4_digestSwells_69 ?_
      refine nw_aload_n (pc := 70) h dX4_digestSwells_70 rfl 1 rfl ?_
      refine nw_iconst (pc := 71) (v := 0) h dX4_digestSwells_71 (by decide) ?_
      refine nw_iload (pc := 72) h dX4_digestSwells_72 2 rfl ?_
      refine nw_iconst (pc := 74) (v := 5) h dX4_digestSwells_74 (by decide) ?_
      refine nw_iconst (pc := 75) (v := 1) h dX4_digestSwells_75 (by decide) ?_
      refine klX4_314 (pc := 76) h (by rw [hR]; decide) hf (Nat.le_of_ble_eq_true rfl) dX4_digestSwells_76 (fun r_76 s_76 hf => ?_)
      refine nw_i2l (pc := 79) h dX4_digestSwells_79 ?_
      refine nw_ladd (pc := 80) h dX4_digestSwells_80 ?_
      refine nw_lstore_n (pc := 81) (lv' := [(3, .long (((31 : Int64) * (((31 : Int64) * x3) + (Int32.toInt64 r_59))) + (Int32.toInt64 r_76))), (0, .ref (P.2.1 0)), (5, .int x5), (6, .int x6)]) h dX4_digestSwells_81 rfl (by decide) rfl ?_
      refine nw_ldc2 (pc := 82) h nw_w231 dX4_digestSwells_82 ?_
      refine nw_lload_n (pc := 85) h dX4_digestSwells_85 rfl 0 rfl ?_
      refine nw_lmul (pc := 86) h dX4_digestSwells_86 ?_
      refine nw_aload_n (pc := 87) h dX4_digestSwells_87 rfl 1 rfl ?_
      refine nw_iload (pc := 88) h dX4_digestSwells_88 2 rfl ?_
      refine nw_iconst (pc := 90) (v := -1) h dX4_digestSwells_90 (by decide) ?_
      refine klX4_318 (pc := 91) h (by rw [hR]; decide) hf (Nat.le_of_ble_eq_true rfl) dX4_digestSwells_91 (fun r_91 s_91 hf => ?_)
      refine nw_i2l (pc := 94) h dX4_digestSwells_94 ?_
      refine nw_ladd (pc := 95) h dX4_digestSwells_95 ?_
      refine nw_lstore_n (pc := 96) (lv' := [(3, .long (((31 : Int64) * (((31 : Int64) * (((31 : Int64) * x3) + (Int32.toInt64 r_59))) + (Int32.toInt64 r_76))) + (Int32.toInt64 r_91))), (0, .ref (P.2.1 0)), (5, .int x5), (6, .int x6)]) h dX4_digestSwells_96 rfl (by decide) rfl ?_
      refine nw_ldc2 (pc := 97) h nw_w231 dX4_digestSwells_97 ?_
      refine nw_lload_n (pc := 100) h dX4_digestSwells_100 rfl 0 rfl ?_
      refine nw_lmul (pc := 101) h dX4_digestSwells_101 ?_
      refine nw_aload_n (pc := 102) h dX4_digestSwells_102 rfl 1 rfl ?_
      refine nw_iload (pc := 103) h dX4_digestSwells_103 2 rfl ?_
      refine nw_iconst (pc := 105) (v := 0) h dX4_digestSwells_105 (by decide) ?_
      refine klX4_318 (pc := 106) h (by rw [hR]; decide) hf (Nat.le_of_ble_eq_true rfl) dX4_digestSwells_106 (fun r_106 s_106 hf => ?_)
      refine nw_i2l (pc := 109) h dX4_digestSwells_109 ?_
      refine nw_ladd (pc := 110) h dX4_digestSwells_110 ?_
      refine nw_lstore_n (pc := 111) (lv' := [(3, .long (((31 : Int64) * (((31 : Int64) * (((31 : Int64) * (((31 : Int64) * x3) + (Int32.toInt64 r_59))) + (Int32.toInt64 r_76))) + (Int32.toInt64 r_91))) + (Int32.toInt64 r_106))), (0, .ref (P.2.1 0)), (5, .int x5), (6, .int x6)]) h dX4_digestSwells_111 rfl (by decide) rfl ?_
      refine nw_iinc (pc := 112) (v := (x5 + (1 : Int32))) (lv' := [(5, .int (x5 + (1 : Int32))), (3, .long (((31 : Int64) * (((31 : Int64) * (((31 : Int64) * (((31 : Int64) * x3) + (Int32.toInt64 r_59))) + (Int32.toInt64 r_76))) + (Int32.toInt64 r_91))) + (Int32.toInt64 r_106))), (0, .ref (P.2.1 0)), (6, .int x6)]) h dX4_digestSwells_112 (j := 2) rfl rfl (by decide) rfl ?_
      refine nw_goto (pc := 115) (tgt := 5) h dX4_digestSwells_115 (by decide) ?_
      refine nw_sub (lv' := [(0, .ref (P.2.1 0)), (3, .long (((31 : Int64) * (((31 : Int64) * (((31 : Int64) * (((31 : Int64) * x3) + (Int32.toInt64 r_59))) + (Int32.toInt64 r_76))) + (Int32.toInt64 r_91))) + (Int32.toInt64 r_106))), (5, .int (x5 + (1 : Int32)))]) [2, 1, 0] rfl ?_
      exact hH_5 _ _ _ (hf)
    · have hf := hf.2 c_23
      refine nw_ldc2 (pc := 26) h nw_w231 dX4_digestSwells_26 ?_
      refine nw_lload_n (pc := 29) h dX4_digestSwells_29 rfl 1 rfl ?_
      refine nw_lmul (pc := 30) h dX4_digestSwells_30 ?_
      refine nw_aload_n (pc := 31) h dX4_digestSwells_31 rfl 0 rfl ?_
      refine nw_iload (pc := 32) h dX4_digestSwells_32 2 rfl ?_
      refine nw_iload (pc := 34) h dX4_digestSwells_34 3 rfl ?_
      obtain ⟨h_36, hf⟩ := hf
      refine klX4_311 (pc := 36) h (by rw [hR]; decide) h_36 (Nat.le_of_ble_eq_true rfl) dX4_digestSwells_36 ?_
      refine nw_i2l (pc := 39) h dX4_digestSwells_39 ?_
      refine nw_ladd (pc := 40) h dX4_digestSwells_40 ?_
      refine nw_lstore_n (pc := 41) (lv' := [(3, .long (((31 : Int64) * x3) + (Int32.toInt64 (v4_swell σ x5 x6)))), (0, .ref (P.2.1 0)), (5, .int x5), (6, .int x6)]) h dX4_digestSwells_41 rfl (by decide) rfl ?_
      refine nw_iinc (pc := 42) (v := (x6 + (1 : Int32))) (lv' := [(6, .int (x6 + (1 : Int32))), (3, .long (((31 : Int64) * x3) + (Int32.toInt64 (v4_swell σ x5 x6)))), (0, .ref (P.2.1 0)), (5, .int x5)]) h dX4_digestSwells_42 (j := 3) rfl rfl (by decide) rfl ?_
      refine nw_goto (pc := 45) (tgt := 20) h dX4_digestSwells_45 (by decide) ?_
      refine nw_sub (lv' := [(0, .ref (P.2.1 0)), (3, .long (((31 : Int64) * x3) + (Int32.toInt64 (v4_swell σ x5 x6)))), (5, .int x5), (6, .int (x6 + (1 : Int32)))]) [2, 1, 3, 0] rfl ?_
      exact hH_20 _ _ _ _ (hf)
  have hL_20 : ∀ (H_5 : nw_ST → Int64 → Int32 → Prop) (hH_5 : (∀ (σ : nw_ST) (x3 : Int64) (x5 : Int32), H_5 σ x3 x5 → nw_G P X 7 σ [(0, .ref (P.2.1 0)), (3, .long x3), (5, .int x5)] 5 [])), ∀ (n : Nat) (σ : nw_ST) (x3 : Int64) (x5 : Int32) (x6 : Int32), f4_digestSwells_20 K H_5 n σ x3 x5 x6 → nw_G P X 7 σ [(0, .ref (P.2.1 0)), (3, .long x3), (5, .int x5), (6, .int x6)] 20 [] := by
    intro H_5 hH_5 n
    induction n with
    | zero => intro σ x3 x5 x6 hf; exact False.elim hf
    | succ n ih => exact hB_20 H_5 hH_5 _ ih
  have hB_5 : ∀ (H_5 : nw_ST → Int64 → Int32 → Prop) (hH_5 : (∀ (σ : nw_ST) (x3 : Int64) (x5 : Int32), H_5 σ x3 x5 → nw_G P X 7 σ [(0, .ref (P.2.1 0)), (3, .long x3), (5, .int x5)] 5 [])), ∀ (σ : nw_ST) (x3 : Int64) (x5 : Int32), b4_digestSwells_5 K H_5 σ x3 x5 → nw_G P X 7 σ [(0, .ref (P.2.1 0)), (3, .long x3), (5, .int x5)] 5 [] := by
    intro H_5 hH_5 σ x3 x5 hf
    unfold b4_digestSwells_5 at hf
    refine nw_iload (pc := 5) h dX4_digestSwells_5 2 rfl ?_
    refine nw_aload_n (pc := 7) h dX4_digestSwells_7 rfl 0 rfl ?_
    refine gf4_21 (pc := 8) (r := 1) h rfl rfl dX4_digestSwells_8 ?_
    refine gf4_178 (pc := 11) h rfl dX4_digestSwells_11 ?_
    refine nw_icmp_ge (pc := 14) (tgt := 118) h dX4_digestSwells_14 (by decide) (fun c_14 => ?_) (fun c_14 => ?_)
    · have hf := hf.1 c_14
      refine nw_lload_n (pc := 118) h dX4_digestSwells_118 rfl 1 rfl ?_
      exact nw_lret (pc := 119) h he dX4_digestSwells_119 ⟨_, rfl, hf⟩
    · have hf := hf.2 c_14
      refine nw_iconst (pc := 17) (v := 0) h dX4_digestSwells_17 (by decide) ?_
      refine nw_istore (pc := 18) (lv' := [(6, .int (0 : Int32)), (0, .ref (P.2.1 0)), (3, .long x3), (5, .int x5)]) h dX4_digestSwells_18 (by decide) rfl ?_
      obtain ⟨n_20, hf⟩ := hf
      refine nw_sub (lv' := [(0, .ref (P.2.1 0)), (3, .long x3), (5, .int x5), (6, .int (0 : Int32))]) [1, 2, 3, 0] rfl ?_
      exact hL_20 H_5 hH_5 n_20 _ _ _ _ hf
  have hL_5 :  ∀ (n : Nat) (σ : nw_ST) (x3 : Int64) (x5 : Int32), f4_digestSwells_5 K n σ x3 x5 → nw_G P X 7 σ [(0, .ref (P.2.1 0)), (3, .long x3), (5, .int x5)] 5 [] := by
    intro n
    induction n with
    | zero => intro σ x3 x5 hf; exact False.elim hf
    | succ n ih => exact hB_5 _ ih
  unfold f4_digestSwells at hf
  refine nw_lload_n (pc := 0) h dX4_digestSwells_0 rfl 1 rfl ?_
  refine nw_lstore_n (pc := 1) (lv' := [(3, .long a1), (0, .ref (P.2.1 0)), (1, .long a1)]) h dX4_digestSwells_1 rfl (by decide) rfl ?_
  refine nw_iconst (pc := 2) (v := 0) h dX4_digestSwells_2 (by decide) ?_
  refine nw_istore (pc := 3) (lv' := [(5, .int (0 : Int32)), (3, .long a1), (0, .ref (P.2.1 0)), (1, .long a1)]) h dX4_digestSwells_3 (by decide) rfl ?_
  obtain ⟨n_5, hf⟩ := hf
  refine nw_sub (lv' := [(0, .ref (P.2.1 0)), (3, .long a1), (5, .int (0 : Int32))]) [2, 1, 0] rfl ?_
  exact hL_5 n_5 _ _ _ hf
theorem klX4_321 {P : nw_PT} {X : nw_EX} {cc : ByteArray} {nL : Nat} {σ : nw_ST} {lv : List (Nat × Value)} {pc : Nat} {rest : List Value} {a1 : Int32} {a2 : Int32} (h : nw_ok P X cc RX4 nL) (hR : rm4_find.frames + 1 ≤ X.2.2.2.1.frames ∧ 8 + (3 + 11) + rm4_find.locals ≤ X.2.2.2.1.locals)  (ho : o4_find σ a1 a2) (hst : (rest.map fun v => v.category).sum ≤ 8) (hd : decode cc pc = .ok (.invokevirtual 321, 3)) (k : nw_G P X nL σ lv (pc + 3) (.int (v4_find σ a1 a2) :: rest)) : nw_G P X nL σ lv pc (.int a2 :: .int a1 :: .ref (P.2.1 0) :: rest) :=
  nw_callV (As := [.int a1, .int a2]) (rest := rest) (C := RX4) (ci := 4) h (ct4_find _ P h.2.2 σ a1 a2 ho) (nw_goodV nw_w244 nw_w245 nw_w246 nw_w24 nw_w247) yd4_find rfl hR ⟨rfl, rfl⟩ rfl (by decide) rfl rfl hst rfl hd (fun v s2 z => by obtain ⟨r, rfl, rfl, rfl⟩ := z; exact k)
def b4_digestFinds_20 (K : Int64 → nw_ST → Prop) (H_5 : nw_ST → Int64 → Int32 → Prop) (H_20 : nw_ST → Int64 → Int32 → Int32 → Prop) (σ : nw_ST) (x3 : Int64) (x5 : Int32) (x6 : Int32) : Prop := ((((3 : Int32) ≤ x6) → (H_5 σ x3 (x5 + (1 : Int32)))) ∧ (¬ ((3 : Int32) ≤ x6) → ((o4_find σ x5 x6) ∧ (H_20 σ (((31 : Int64) * x3) + (Int32.toInt64 (v4_find σ x5 x6))) x5 (x6 + (1 : Int32))))))
def f4_digestFinds_20 (K : Int64 → nw_ST → Prop) (H_5 : nw_ST → Int64 → Int32 → Prop) : Nat → nw_ST → Int64 → Int32 → Int32 → Prop
  | 0 => fun _ _ _ _ => False
  | n + 1 => b4_digestFinds_20 K H_5 (f4_digestFinds_20 K H_5 n)
def b4_digestFinds_5 (K : Int64 → nw_ST → Prop) (H_5 : nw_ST → Int64 → Int32 → Prop) (σ : nw_ST) (x3 : Int64) (x5 : Int32) : Prop := ((((nw_gS σ 4 6) ≤ x5) → (K x3 σ)) ∧ (¬ ((nw_gS σ 4 6) ≤ x5) → (∃ n, f4_digestFinds_20 K H_5 n σ x3 x5 (0 : Int32))))
def f4_digestFinds_5 (K : Int64 → nw_ST → Prop) : Nat → nw_ST → Int64 → Int32 → Prop
  | 0 => fun _ _ _ => False
  | n + 1 => b4_digestFinds_5 K (f4_digestFinds_5 K n)
def f4_digestFinds (K : Int64 → nw_ST → Prop) (σ : nw_ST) (a1 : Int64) : Prop := (∃ n, f4_digestFinds_5 K n σ a1 (0 : Int32))
def rm4_digestFinds : Room := { frames := 3, cells := 0, slots := 0, locals := 66 }
theorem yd4_digestFinds : yX4_digestFinds.cls = RX4 ∧ yX4_digestFinds.cls ≠ "java/lang/invoke/MethodHandle" ∧ yX4_digestFinds.cls ≠ "java/lang/invoke/VarHandle" ∧ (parseMethodDescriptor yX4_digestFinds.desc).map (fun d => d.parameters.length) = some 1 := by decide +kernel
set_option maxHeartbeats 4000000 in
set_option maxRecDepth 100000 in
theorem ct4_digestFinds (l : Launch) (P : nw_PT) (hD : nw_D P) (σ : nw_ST) (a1 : Int64)  (K : Int64 → nw_ST → Prop) (hf : f4_digestFinds K σ a1) : nw_MT l yX4_digestFinds cX4_digestFinds 7 (some .long) rm4_digestFinds P [.ref (P.2.1 0), .long a1] σ (nw_Kl K) := by
  refine nw_enter (by decide) (by first | decide | exact Nat.le_of_ble_eq_true rfl) hD ?_
  intro X hl h he hR
  subst hl
  have h : nw_ok P X cX4_digestFinds RX4 7 := h
  show nw_G P X 7 σ [(0, .ref (P.2.1 0)), (1, .long a1)] 0 []
  have hB_20 : ∀ (H_5 : nw_ST → Int64 → Int32 → Prop) (hH_5 : (∀ (σ : nw_ST) (x3 : Int64) (x5 : Int32), H_5 σ x3 x5 → nw_G P X 7 σ [(0, .ref (P.2.1 0)), (3, .long x3), (5, .int x5)] 5 [])) (H_20 : nw_ST → Int64 → Int32 → Int32 → Prop) (hH_20 : (∀ (σ : nw_ST) (x3 : Int64) (x5 : Int32) (x6 : Int32), H_20 σ x3 x5 x6 → nw_G P X 7 σ [(0, .ref (P.2.1 0)), (3, .long x3), (5, .int x5), (6, .int x6)] 20 [])), ∀ (σ : nw_ST) (x3 : Int64) (x5 : Int32) (x6 : Int32), b4_digestFinds_20 K H_5 H_20 σ x3 x5 x6 → nw_G P X 7 σ [(0, .ref (P.2.1 0)), (3, .long x3), (5, .int x5), (6, .int x6)] 20 [] := by
    intro H_5 hH_5 H_20 hH_20 σ x3 x5 x6 hf
    unfold b4_digestFinds_20 at hf
    refine nw_iload (pc := 20) h dX4_digestFinds_20 3 rfl ?_
    refine nw_iconst (pc := 22) (v := 3) h dX4_digestFinds_22 (by decide) ?_
    refine nw_icmp_ge (pc := 23) (tgt := 48) h dX4_digestFinds_23 (by decide) (fun c_23 => ?_) (fun c_23 => ?_)
    · have hf := hf.1 c_23
      refine nw_iinc (pc := 48) (v := (x5 + (1 : Int32))) (lv' := [(5, .int (x5 + (1 : Int32))), (0, .ref (P.2.1 0)), (3, .long x3), (6, .int x6)]) h dX4_digestFinds_48 (j := 2) rfl rfl (by decide) rfl ?_
      refine nw_goto (pc := 51) (tgt := 5) h dX4_digestFinds_51 (by decide) ?_
      refine nw_sub (lv' := [(0, .ref (P.2.1 0)), (3, .long x3), (5, .int (x5 + (1 : Int32)))]) [1, 2, 0] rfl ?_
      exact hH_5 _ _ _ (hf)
    · have hf := hf.2 c_23
      refine nw_ldc2 (pc := 26) h nw_w231 dX4_digestFinds_26 ?_
      refine nw_lload_n (pc := 29) h dX4_digestFinds_29 rfl 1 rfl ?_
      refine nw_lmul (pc := 30) h dX4_digestFinds_30 ?_
      refine nw_aload_n (pc := 31) h dX4_digestFinds_31 rfl 0 rfl ?_
      refine nw_iload (pc := 32) h dX4_digestFinds_32 2 rfl ?_
      refine nw_iload (pc := 34) h dX4_digestFinds_34 3 rfl ?_
      obtain ⟨h_36, hf⟩ := hf
      refine klX4_321 (pc := 36) h (by rw [hR]; decide) h_36 (Nat.le_of_ble_eq_true rfl) dX4_digestFinds_36 ?_
      refine nw_i2l (pc := 39) h dX4_digestFinds_39 ?_
      refine nw_ladd (pc := 40) h dX4_digestFinds_40 ?_
      refine nw_lstore_n (pc := 41) (lv' := [(3, .long (((31 : Int64) * x3) + (Int32.toInt64 (v4_find σ x5 x6)))), (0, .ref (P.2.1 0)), (5, .int x5), (6, .int x6)]) h dX4_digestFinds_41 rfl (by decide) rfl ?_
      refine nw_iinc (pc := 42) (v := (x6 + (1 : Int32))) (lv' := [(6, .int (x6 + (1 : Int32))), (3, .long (((31 : Int64) * x3) + (Int32.toInt64 (v4_find σ x5 x6)))), (0, .ref (P.2.1 0)), (5, .int x5)]) h dX4_digestFinds_42 (j := 3) rfl rfl (by decide) rfl ?_
      refine nw_goto (pc := 45) (tgt := 20) h dX4_digestFinds_45 (by decide) ?_
      refine nw_sub (lv' := [(0, .ref (P.2.1 0)), (3, .long (((31 : Int64) * x3) + (Int32.toInt64 (v4_find σ x5 x6)))), (5, .int x5), (6, .int (x6 + (1 : Int32)))]) [2, 1, 3, 0] rfl ?_
      exact hH_20 _ _ _ _ (hf)
  have hL_20 : ∀ (H_5 : nw_ST → Int64 → Int32 → Prop) (hH_5 : (∀ (σ : nw_ST) (x3 : Int64) (x5 : Int32), H_5 σ x3 x5 → nw_G P X 7 σ [(0, .ref (P.2.1 0)), (3, .long x3), (5, .int x5)] 5 [])), ∀ (n : Nat) (σ : nw_ST) (x3 : Int64) (x5 : Int32) (x6 : Int32), f4_digestFinds_20 K H_5 n σ x3 x5 x6 → nw_G P X 7 σ [(0, .ref (P.2.1 0)), (3, .long x3), (5, .int x5), (6, .int x6)] 20 [] := by
    intro H_5 hH_5 n
    induction n with
    | zero => intro σ x3 x5 x6 hf; exact False.elim hf
    | succ n ih => exact hB_20 H_5 hH_5 _ ih
  have hB_5 : ∀ (H_5 : nw_ST → Int64 → Int32 → Prop) (hH_5 : (∀ (σ : nw_ST) (x3 : Int64) (x5 : Int32), H_5 σ x3 x5 → nw_G P X 7 σ [(0, .ref (P.2.1 0)), (3, .long x3), (5, .int x5)] 5 [])), ∀ (σ : nw_ST) (x3 : Int64) (x5 : Int32), b4_digestFinds_5 K H_5 σ x3 x5 → nw_G P X 7 σ [(0, .ref (P.2.1 0)), (3, .long x3), (5, .int x5)] 5 [] := by
    intro H_5 hH_5 σ x3 x5 hf
    unfold b4_digestFinds_5 at hf
    refine nw_iload (pc := 5) h dX4_digestFinds_5 2 rfl ?_
    refine nw_aload_n (pc := 7) h dX4_digestFinds_7 rfl 0 rfl ?_
    refine gf4_31 (pc := 8) (r := 4) h rfl rfl dX4_digestFinds_8 ?_
    refine gf4_178 (pc := 11) h rfl dX4_digestFinds_11 ?_
    refine nw_icmp_ge (pc := 14) (tgt := 54) h dX4_digestFinds_14 (by decide) (fun c_14 => ?_) (fun c_14 => ?_)
    · have hf := hf.1 c_14
      refine nw_lload_n (pc := 54) h dX4_digestFinds_54 rfl 1 rfl ?_
      exact nw_lret (pc := 55) h he dX4_digestFinds_55 ⟨_, rfl, hf⟩
    · have hf := hf.2 c_14
      refine nw_iconst (pc := 17) (v := 0) h dX4_digestFinds_17 (by decide) ?_
      refine nw_istore (pc := 18) (lv' := [(6, .int (0 : Int32)), (0, .ref (P.2.1 0)), (3, .long x3), (5, .int x5)]) h dX4_digestFinds_18 (by decide) rfl ?_
      obtain ⟨n_20, hf⟩ := hf
      refine nw_sub (lv' := [(0, .ref (P.2.1 0)), (3, .long x3), (5, .int x5), (6, .int (0 : Int32))]) [1, 2, 3, 0] rfl ?_
      exact hL_20 H_5 hH_5 n_20 _ _ _ _ hf
  have hL_5 :  ∀ (n : Nat) (σ : nw_ST) (x3 : Int64) (x5 : Int32), f4_digestFinds_5 K n σ x3 x5 → nw_G P X 7 σ [(0, .ref (P.2.1 0)), (3, .long x3), (5, .int x5)] 5 [] := by
    intro n
    induction n with
    | zero => intro σ x3 x5 hf; exact False.elim hf
    | succ n ih => exact hB_5 _ ih
  unfold f4_digestFinds at hf
  refine nw_lload_n (pc := 0) h dX4_digestFinds_0 rfl 1 rfl ?_
  refine nw_lstore_n (pc := 1) (lv' := [(3, .long a1), (0, .ref (P.2.1 0)), (1, .long a1)]) h dX4_digestFinds_1 rfl (by decide) rfl ?_
  refine nw_iconst (pc := 2) (v := 0) h dX4_digestFinds_2 (by decide) ?_
  refine nw_istore (pc := 3) (lv' := [(5, .int (0 : Int32)), (3, .long a1), (0, .ref (P.2.1 0)), (1, .long a1)]) h dX4_digestFinds_3 (by decide) rfl ?_
  obtain ⟨n_5, hf⟩ := hf
  refine nw_sub (lv' := [(0, .ref (P.2.1 0)), (3, .long a1), (5, .int (0 : Int32))]) [2, 1, 0] rfl ?_
  exact hL_5 n_5 _ _ _ hf
theorem klX4_327 {P : nw_PT} {X : nw_EX} {cc : ByteArray} {nL : Nat} {σ : nw_ST} {lv : List (Nat × Value)} {pc : Nat} {rest : List Value} {a1 : Int32} (h : nw_ok P X cc RX4 nL) (hR : rm4_high.frames + 1 ≤ X.2.2.2.1.frames ∧ 8 + (2 + 11) + rm4_high.locals ≤ X.2.2.2.1.locals)  {K : Int32 → nw_ST → Prop} (hf : f4_high K σ a1) (hst : (rest.map fun v => v.category).sum ≤ 8) (hd : decode cc pc = .ok (.invokevirtual 327, 3)) (k : ∀ (r : Int32) (s2 : nw_ST), K r s2 → nw_G P X nL s2 lv (pc + 3) (.int r :: rest)) : nw_G P X nL σ lv pc (.int a1 :: .ref (P.2.1 0) :: rest) :=
  nw_callV (As := [.int a1]) (rest := rest) (C := RX4) (ci := 4) h (ct4_high _ P h.2.2 σ a1 K hf) (nw_goodV nw_w249 nw_w250 nw_w251 nw_w24 nw_w252) yd4_high rfl hR ⟨rfl, rfl⟩ rfl (by decide) rfl rfl hst rfl hd (fun v s2 z => by obtain ⟨r, rfl, z⟩ := z; exact k r s2 z)
theorem klX4_333 {P : nw_PT} {X : nw_EX} {cc : ByteArray} {nL : Nat} {σ : nw_ST} {lv : List (Nat × Value)} {pc : Nat} {rest : List Value} {a1 : Int32} {a2 : Int32} (h : nw_ok P X cc RX4 nL) (hR : rm4_called.frames + 1 ≤ X.2.2.2.1.frames ∧ 8 + (6 + 11) + rm4_called.locals ≤ X.2.2.2.1.locals)  {K : Int32 → nw_ST → Prop} (hf : f4_called K σ a1 a2) (hst : (rest.map fun v => v.category).sum ≤ 8) (hd : decode cc pc = .ok (.invokevirtual 333, 3)) (k : ∀ (r : Int32) (s2 : nw_ST), K r s2 → nw_G P X nL s2 lv (pc + 3) (.int r :: rest)) : nw_G P X nL σ lv pc (.int a2 :: .int a1 :: .ref (P.2.1 0) :: rest) :=
  nw_callV (As := [.int a1, .int a2]) (rest := rest) (C := RX4) (ci := 4) h (ct4_called _ P h.2.2 σ a1 a2 K hf) (nw_goodV nw_w253 nw_w254 nw_w255 nw_w24 nw_w256) yd4_called rfl hR ⟨rfl, rfl⟩ rfl (by decide) rfl rfl hst rfl hd (fun v s2 z => by obtain ⟨r, rfl, z⟩ := z; exact k r s2 z)
theorem klX4_330 {P : nw_PT} {X : nw_EX} {cc : ByteArray} {nL : Nat} {σ : nw_ST} {lv : List (Nat × Value)} {pc : Nat} {rest : List Value} {a1 : Int32} {a2 : Int32} (h : nw_ok P X cc RX4 nL) (hR : rm4_wave.frames + 1 ≤ X.2.2.2.1.frames ∧ 8 + (3 + 11) + rm4_wave.locals ≤ X.2.2.2.1.locals)  {K : Int32 → nw_ST → Prop} (hf : f4_wave K σ a1 a2) (hst : (rest.map fun v => v.category).sum ≤ 8) (hd : decode cc pc = .ok (.invokevirtual 330, 3)) (k : ∀ (r : Int32) (s2 : nw_ST), K r s2 → nw_G P X nL s2 lv (pc + 3) (.int r :: rest)) : nw_G P X nL σ lv pc (.int a2 :: .int a1 :: .ref (P.2.1 0) :: rest) :=
  nw_callV (As := [.int a1, .int a2]) (rest := rest) (C := RX4) (ci := 4) h (ct4_wave _ P h.2.2 σ a1 a2 K hf) (nw_goodV nw_w257 nw_w258 nw_w259 nw_w24 nw_w260) yd4_wave rfl hR ⟨rfl, rfl⟩ rfl (by decide) rfl rfl hst rfl hd (fun v s2 z => by obtain ⟨r, rfl, z⟩ := z; exact k r s2 z)
def b4_digestTimes_46 (K : Int64 → nw_ST → Prop) (H_15 : nw_ST → Int64 → Int32 → Int32 → Prop) (H_46 : nw_ST → Int64 → Int32 → Int32 → Int32 → Int32 → Prop) (σ : nw_ST) (x3 : Int64) (x6 : Int32) (x7 : Int32) (x8 : Int32) (x9 : Int32) : Prop := ((((3 : Int32) ≤ x9) → (f4_called (fun (r_83 : Int32) (s_83 : nw_ST) => (H_15 s_83 (((31 : Int64) * x3) + (Int32.toInt64 r_83)) x6 (x7 + (1 : Int32)))) σ (0 : Int32) x8)) ∧ (¬ ((3 : Int32) ≤ x9) → (f4_wave (fun (r_62 : Int32) (s_62 : nw_ST) => (H_46 s_62 (((31 : Int64) * x3) + (Int32.toInt64 r_62)) x6 x7 x8 (x9 + (1 : Int32)))) σ x8 x9)))
def f4_digestTimes_46 (K : Int64 → nw_ST → Prop) (H_15 : nw_ST → Int64 → Int32 → Int32 → Prop) : Nat → nw_ST → Int64 → Int32 → Int32 → Int32 → Int32 → Prop
  | 0 => fun _ _ _ _ _ _ => False
  | n + 1 => b4_digestTimes_46 K H_15 (f4_digestTimes_46 K H_15 n)
def b4_digestTimes_15 (K : Int64 → nw_ST → Prop) (H_15 : nw_ST → Int64 → Int32 → Int32 → Prop) (σ : nw_ST) (x3 : Int64) (x6 : Int32) (x7 : Int32) : Prop := (((x6 ≤ x7) → (K x3 σ)) ∧ (¬ (x6 ≤ x7) → ((vp_in x7 4) ∧ (f4_high (fun (r_37 : Int32) (s_37 : nw_ST) => (∃ n, f4_digestTimes_46 K H_15 n s_37 (((31 : Int64) * x3) + (Int32.toInt64 r_37)) x6 x7 (nw_cst 67 x7.toNatClampNeg) (0 : Int32))) σ (nw_cst 67 x7.toNatClampNeg)))))
def f4_digestTimes_15 (K : Int64 → nw_ST → Prop) : Nat → nw_ST → Int64 → Int32 → Int32 → Prop
  | 0 => fun _ _ _ _ => False
  | n + 1 => b4_digestTimes_15 K (f4_digestTimes_15 K n)
def f4_digestTimes (K : Int64 → nw_ST → Prop) (σ : nw_ST) (a1 : Int64) : Prop := (∃ n, f4_digestTimes_15 K n σ a1 (4 : Int32) (0 : Int32))
def rm4_digestTimes : Room := { frames := 5, cells := 0, slots := 0, locals := 116 }
theorem yd4_digestTimes : yX4_digestTimes.cls = RX4 ∧ yX4_digestTimes.cls ≠ "java/lang/invoke/MethodHandle" ∧ yX4_digestTimes.cls ≠ "java/lang/invoke/VarHandle" ∧ (parseMethodDescriptor yX4_digestTimes.desc).map (fun d => d.parameters.length) = some 1 := by decide +kernel
set_option maxHeartbeats 4000000 in
set_option maxRecDepth 100000 in
theorem ct4_digestTimes (l : Launch) (P : nw_PT) (hD : nw_D P) (σ : nw_ST) (a1 : Int64)  (K : Int64 → nw_ST → Prop) (hf : f4_digestTimes K σ a1) : nw_MT l yX4_digestTimes cX4_digestTimes 10 (some .long) rm4_digestTimes P [.ref (P.2.1 0), .long a1] σ (nw_Kl K) := by
  refine nw_enter (by decide) (by first | decide | exact Nat.le_of_ble_eq_true rfl) hD ?_
  intro X hl h he hR
  subst hl
  have h : nw_ok P X cX4_digestTimes RX4 10 := h
  show nw_G P X 10 σ [(0, .ref (P.2.1 0)), (1, .long a1)] 0 []
  have hB_46 : ∀ (H_15 : nw_ST → Int64 → Int32 → Int32 → Prop) (hH_15 : (∀ (σ : nw_ST) (x3 : Int64) (x6 : Int32) (x7 : Int32), H_15 σ x3 x6 x7 → nw_G P X 10 σ [(0, .ref (P.2.1 0)), (3, .long x3), (5, .ref (P.2.1 67)), (6, .int x6), (7, .int x7)] 15 [])) (H_46 : nw_ST → Int64 → Int32 → Int32 → Int32 → Int32 → Prop) (hH_46 : (∀ (σ : nw_ST) (x3 : Int64) (x6 : Int32) (x7 : Int32) (x8 : Int32) (x9 : Int32), H_46 σ x3 x6 x7 x8 x9 → nw_G P X 10 σ [(0, .ref (P.2.1 0)), (3, .long x3), (5, .ref (P.2.1 67)), (6, .int x6), (7, .int x7), (8, .int x8), (9, .int x9)] 46 [])), ∀ (σ : nw_ST) (x3 : Int64) (x6 : Int32) (x7 : Int32) (x8 : Int32) (x9 : Int32), b4_digestTimes_46 K H_15 H_46 σ x3 x6 x7 x8 x9 → nw_G P X 10 σ [(0, .ref (P.2.1 0)), (3, .long x3), (5, .ref (P.2.1 67)), (6, .int x6), (7, .int x7), (8, .int x8), (9, .int x9)] 46 [] := by
    intro H_15 hH_15 H_46 hH_46 σ x3 x6 x7 x8 x9 hf
    unfold b4_digestTimes_46 at hf
    refine nw_iload (pc := 46) h dX4_digestTimes_46 6 rfl ?_
    refine nw_iconst (pc := 48) (v := 3) h dX4_digestTimes_48 (by decide) ?_
    refine nw_icmp_ge (pc := 49) (tgt := 74) h dX4_digestTimes_49 (by decide) (fun c_49 => ?_) (fun c_49 => ?_)
    · have hf := hf.1 c_49
      refine nw_ldc2 (pc := 74) h nw_w231 dX4_digestTimes_74 ?_
      refine nw_lload_n (pc := 77) h dX4_digestTimes_77 rfl 1 rfl ?_
      refine nw_lmul (pc := 78) h dX4_digestTimes_78 ?_
      refine nw_aload_n (pc := 79) h dX4_digestTimes_79 rfl 0 rfl ?_
      refine nw_iconst (pc := 80) (v := 0) h dX4_digestTimes_80 (by decide) ?_
      refine nw_iload (pc := 81) h dX4_digestTimes_81 5 rfl ?_
      refine klX4_333 (pc := 83) h (by rw [hR]; decide) hf (Nat.le_of_ble_eq_true rfl) dX4_digestTimes_83 (fun r_83 s_83 hf => ?_)
      refine nw_i2l (pc := 86) h dX4_digestTimes_86 ?_
      refine nw_ladd (pc := 87) h dX4_digestTimes_87 ?_
      refine nw_lstore_n (pc := 88) (lv' := [(3, .long (((31 : Int64) * x3) + (Int32.toInt64 r_83))), (0, .ref (P.2.1 0)), (5, .ref (P.2.1 67)), (6, .int x6), (7, .int x7), (8, .int x8), (9, .int x9)]) h dX4_digestTimes_88 rfl (by decide) rfl ?_
      refine nw_iinc (pc := 89) (v := (x7 + (1 : Int32))) (lv' := [(7, .int (x7 + (1 : Int32))), (3, .long (((31 : Int64) * x3) + (Int32.toInt64 r_83))), (0, .ref (P.2.1 0)), (5, .ref (P.2.1 67)), (6, .int x6), (8, .int x8), (9, .int x9)]) h dX4_digestTimes_89 (j := 4) rfl rfl (by decide) rfl ?_
      refine nw_goto (pc := 92) (tgt := 15) h dX4_digestTimes_92 (by decide) ?_
      refine nw_sub (lv' := [(0, .ref (P.2.1 0)), (3, .long (((31 : Int64) * x3) + (Int32.toInt64 r_83))), (5, .ref (P.2.1 67)), (6, .int x6), (7, .int (x7 + (1 : Int32)))]) [2, 1, 3, 4, 0] rfl ?_
      exact hH_15 _ _ _ _ (hf)
    · have hf := hf.2 c_49
      refine nw_ldc2 (pc := 52) h nw_w231 dX4_digestTimes_52 ?_
      refine nw_lload_n (pc := 55) h dX4_digestTimes_55 rfl 1 rfl ?_
      refine nw_lmul (pc := 56) h dX4_digestTimes_56 ?_
      refine nw_aload_n (pc := 57) h dX4_digestTimes_57 rfl 0 rfl ?_
      refine nw_iload (pc := 58) h dX4_digestTimes_58 5 rfl ?_
      refine nw_iload (pc := 60) h dX4_digestTimes_60 6 rfl ?_
      refine klX4_330 (pc := 62) h (by rw [hR]; decide) hf (Nat.le_of_ble_eq_true rfl) dX4_digestTimes_62 (fun r_62 s_62 hf => ?_)
      refine nw_i2l (pc := 65) h dX4_digestTimes_65 ?_
      refine nw_ladd (pc := 66) h dX4_digestTimes_66 ?_
      refine nw_lstore_n (pc := 67) (lv' := [(3, .long (((31 : Int64) * x3) + (Int32.toInt64 r_62))), (0, .ref (P.2.1 0)), (5, .ref (P.2.1 67)), (6, .int x6), (7, .int x7), (8, .int x8), (9, .int x9)]) h dX4_digestTimes_67 rfl (by decide) rfl ?_
      refine nw_iinc (pc := 68) (v := (x9 + (1 : Int32))) (lv' := [(9, .int (x9 + (1 : Int32))), (3, .long (((31 : Int64) * x3) + (Int32.toInt64 r_62))), (0, .ref (P.2.1 0)), (5, .ref (P.2.1 67)), (6, .int x6), (7, .int x7), (8, .int x8)]) h dX4_digestTimes_68 (j := 6) rfl rfl (by decide) rfl ?_
      refine nw_goto (pc := 71) (tgt := 46) h dX4_digestTimes_71 (by decide) ?_
      refine nw_sub (lv' := [(0, .ref (P.2.1 0)), (3, .long (((31 : Int64) * x3) + (Int32.toInt64 r_62))), (5, .ref (P.2.1 67)), (6, .int x6), (7, .int x7), (8, .int x8), (9, .int (x9 + (1 : Int32)))]) [2, 1, 3, 4, 5, 6, 0] rfl ?_
      exact hH_46 _ _ _ _ _ _ (hf)
  have hL_46 : ∀ (H_15 : nw_ST → Int64 → Int32 → Int32 → Prop) (hH_15 : (∀ (σ : nw_ST) (x3 : Int64) (x6 : Int32) (x7 : Int32), H_15 σ x3 x6 x7 → nw_G P X 10 σ [(0, .ref (P.2.1 0)), (3, .long x3), (5, .ref (P.2.1 67)), (6, .int x6), (7, .int x7)] 15 [])), ∀ (n : Nat) (σ : nw_ST) (x3 : Int64) (x6 : Int32) (x7 : Int32) (x8 : Int32) (x9 : Int32), f4_digestTimes_46 K H_15 n σ x3 x6 x7 x8 x9 → nw_G P X 10 σ [(0, .ref (P.2.1 0)), (3, .long x3), (5, .ref (P.2.1 67)), (6, .int x6), (7, .int x7), (8, .int x8), (9, .int x9)] 46 [] := by
    intro H_15 hH_15 n
    induction n with
    | zero => intro σ x3 x6 x7 x8 x9 hf; exact False.elim hf
    | succ n ih => exact hB_46 H_15 hH_15 _ ih
  have hB_15 : ∀ (H_15 : nw_ST → Int64 → Int32 → Int32 → Prop) (hH_15 : (∀ (σ : nw_ST) (x3 : Int64) (x6 : Int32) (x7 : Int32), H_15 σ x3 x6 x7 → nw_G P X 10 σ [(0, .ref (P.2.1 0)), (3, .long x3), (5, .ref (P.2.1 67)), (6, .int x6), (7, .int x7)] 15 [])), ∀ (σ : nw_ST) (x3 : Int64) (x6 : Int32) (x7 : Int32), b4_digestTimes_15 K H_15 σ x3 x6 x7 → nw_G P X 10 σ [(0, .ref (P.2.1 0)), (3, .long x3), (5, .ref (P.2.1 67)), (6, .int x6), (7, .int x7)] 15 [] := by
    intro H_15 hH_15 σ x3 x6 x7 hf
    unfold b4_digestTimes_15 at hf
    refine nw_iload (pc := 15) h dX4_digestTimes_15 4 rfl ?_
    refine nw_iload (pc := 17) h dX4_digestTimes_17 3 rfl ?_
    refine nw_icmp_ge (pc := 19) (tgt := 95) h dX4_digestTimes_19 (by decide) (fun c_19 => ?_) (fun c_19 => ?_)
    · have hf := hf.1 c_19
      refine nw_lload_n (pc := 95) h dX4_digestTimes_95 rfl 1 rfl ?_
      exact nw_lret (pc := 96) h he dX4_digestTimes_96 ⟨_, rfl, hf⟩
    · have hf := hf.2 c_19
      refine nw_aload (pc := 22) h dX4_digestTimes_22 2 rfl ?_
      refine nw_iload (pc := 24) h dX4_digestTimes_24 4 rfl ?_
      obtain ⟨h_26, hf⟩ := hf
      refine nw_tald (pc := 26) (n := 4) h rfl rfl h_26 dX4_digestTimes_26 ?_
      refine nw_istore (pc := 27) (lv' := [(8, .int (nw_cst 67 x7.toNatClampNeg)), (0, .ref (P.2.1 0)), (3, .long x3), (5, .ref (P.2.1 67)), (6, .int x6), (7, .int x7)]) h dX4_digestTimes_27 (by decide) rfl ?_
      refine nw_ldc2 (pc := 29) h nw_w231 dX4_digestTimes_29 ?_
      refine nw_lload_n (pc := 32) h dX4_digestTimes_32 rfl 2 rfl ?_
      refine nw_lmul (pc := 33) h dX4_digestTimes_33 ?_
      refine nw_aload_n (pc := 34) h dX4_digestTimes_34 rfl 1 rfl ?_
      refine nw_iload (pc := 35) h dX4_digestTimes_35 0 rfl ?_
      refine klX4_327 (pc := 37) h (by rw [hR]; decide) hf (Nat.le_of_ble_eq_true rfl) dX4_digestTimes_37 (fun r_37 s_37 hf => ?_)
      refine nw_i2l (pc := 40) h dX4_digestTimes_40 ?_
      refine nw_ladd (pc := 41) h dX4_digestTimes_41 ?_
      refine nw_lstore_n (pc := 42) (lv' := [(3, .long (((31 : Int64) * x3) + (Int32.toInt64 r_37))), (8, .int (nw_cst 67 x7.toNatClampNeg)), (0, .ref (P.2.1 0)), (5, .ref (P.2.1 67)), (6, .int x6), (7, .int x7)]) h dX4_digestTimes_42 rfl (by decide) rfl ?_
      refine nw_iconst (pc := 43) (v := 0) h dX4_digestTimes_43 (by decide) ?_
      refine nw_istore (pc := 44) (lv' := [(9, .int (0 : Int32)), (3, .long (((31 : Int64) * x3) + (Int32.toInt64 r_37))), (8, .int (nw_cst 67 x7.toNatClampNeg)), (0, .ref (P.2.1 0)), (5, .ref (P.2.1 67)), (6, .int x6), (7, .int x7)]) h dX4_digestTimes_44 (by decide) rfl ?_
      obtain ⟨n_46, hf⟩ := hf
      refine nw_sub (lv' := [(0, .ref (P.2.1 0)), (3, .long (((31 : Int64) * x3) + (Int32.toInt64 r_37))), (5, .ref (P.2.1 67)), (6, .int x6), (7, .int x7), (8, .int (nw_cst 67 x7.toNatClampNeg)), (9, .int (0 : Int32))]) [3, 1, 4, 5, 6, 2, 0] rfl ?_
      exact hL_46 H_15 hH_15 n_46 _ _ _ _ _ _ hf
  have hL_15 :  ∀ (n : Nat) (σ : nw_ST) (x3 : Int64) (x6 : Int32) (x7 : Int32), f4_digestTimes_15 K n σ x3 x6 x7 → nw_G P X 10 σ [(0, .ref (P.2.1 0)), (3, .long x3), (5, .ref (P.2.1 67)), (6, .int x6), (7, .int x7)] 15 [] := by
    intro n
    induction n with
    | zero => intro σ x3 x6 x7 hf; exact False.elim hf
    | succ n ih => exact hB_15 _ ih
  unfold f4_digestTimes at hf
  refine nw_lload_n (pc := 0) h dX4_digestTimes_0 rfl 1 rfl ?_
  refine nw_lstore_n (pc := 1) (lv' := [(3, .long a1), (0, .ref (P.2.1 0)), (1, .long a1)]) h dX4_digestTimes_1 rfl (by decide) rfl ?_
  refine nw_gets (pc := 2) (j := 4) h (by decide) nw_w248 dX4_digestTimes_2 ?_
  refine nw_astore (pc := 5) (lv' := [(5, .ref (P.2.1 67)), (3, .long a1), (0, .ref (P.2.1 0)), (1, .long a1)]) h dX4_digestTimes_5 (by decide) rfl ?_
  refine nw_aload (pc := 7) h dX4_digestTimes_7 0 rfl ?_
  refine nw_tlen (pc := 9) (n := 4) (v := 4) h rfl rfl (by decide) dX4_digestTimes_9 ?_
  refine nw_istore (pc := 10) (lv' := [(6, .int (4 : Int32)), (5, .ref (P.2.1 67)), (3, .long a1), (0, .ref (P.2.1 0)), (1, .long a1)]) h dX4_digestTimes_10 (by decide) rfl ?_
  refine nw_iconst (pc := 12) (v := 0) h dX4_digestTimes_12 (by decide) ?_
  refine nw_istore (pc := 13) (lv' := [(7, .int (0 : Int32)), (6, .int (4 : Int32)), (5, .ref (P.2.1 67)), (3, .long a1), (0, .ref (P.2.1 0)), (1, .long a1)]) h dX4_digestTimes_13 (by decide) rfl ?_
  obtain ⟨n_15, hf⟩ := hf
  refine nw_sub (lv' := [(0, .ref (P.2.1 0)), (3, .long a1), (5, .ref (P.2.1 67)), (6, .int (4 : Int32)), (7, .int (0 : Int32))]) [4, 3, 2, 1, 0] rfl ?_
  exact hL_15 n_15 _ _ _ _ hf
theorem klX4_339 {P : nw_PT} {X : nw_EX} {cc : ByteArray} {nL : Nat} {σ : nw_ST} {lv : List (Nat × Value)} {pc : Nat} {rest : List Value} {a1 : Int32} (h : nw_ok P X cc RX4 nL) (hR : rm4_when.frames + 1 ≤ X.2.2.2.1.frames ∧ 8 + (2 + 11) + rm4_when.locals ≤ X.2.2.2.1.locals)  {K : Int32 → nw_ST → Prop} (hf : f4_when K σ a1) (hst : (rest.map fun v => v.category).sum ≤ 8) (hd : decode cc pc = .ok (.invokevirtual 339, 3)) (k : ∀ (r : Int32) (s2 : nw_ST), K r s2 → nw_G P X nL s2 lv (pc + 3) (.int r :: rest)) : nw_G P X nL σ lv pc (.int a1 :: .ref (P.2.1 0) :: rest) :=
  nw_callV (As := [.int a1]) (rest := rest) (C := RX4) (ci := 4) h (ct4_when _ P h.2.2 σ a1 K hf) (nw_goodV nw_w262 nw_w263 nw_w264 nw_w24 nw_w265) yd4_when rfl hR ⟨rfl, rfl⟩ rfl (by decide) rfl rfl hst rfl hd (fun v s2 z => by obtain ⟨r, rfl, z⟩ := z; exact k r s2 z)
theorem klX4_342 {P : nw_PT} {X : nw_EX} {cc : ByteArray} {nL : Nat} {σ : nw_ST} {lv : List (Nat × Value)} {pc : Nat} {rest : List Value} {a1 : Int32} (h : nw_ok P X cc RX4 nL) (hR : rm4_brings.frames + 1 ≤ X.2.2.2.1.frames ∧ 8 + (2 + 11) + rm4_brings.locals ≤ X.2.2.2.1.locals)  {K : Int32 → nw_ST → Prop} (hf : f4_brings K σ a1) (hst : (rest.map fun v => v.category).sum ≤ 8) (hd : decode cc pc = .ok (.invokevirtual 342, 3)) (k : ∀ (r : Int32) (s2 : nw_ST), K r s2 → nw_G P X nL s2 lv (pc + 3) (.int r :: rest)) : nw_G P X nL σ lv pc (.int a1 :: .ref (P.2.1 0) :: rest) :=
  nw_callV (As := [.int a1]) (rest := rest) (C := RX4) (ci := 4) h (ct4_brings _ P h.2.2 σ a1 K hf) (nw_goodV nw_w266 nw_w267 nw_w268 nw_w24 nw_w269) yd4_brings rfl hR ⟨rfl, rfl⟩ rfl (by decide) rfl rfl hst rfl hd (fun v s2 z => by obtain ⟨r, rfl, z⟩ := z; exact k r s2 z)
def b4_digestNumbers_15 (K : Int64 → nw_ST → Prop) (H_15 : nw_ST → Int64 → Int32 → Int32 → Prop) (σ : nw_ST) (x3 : Int64) (x6 : Int32) (x7 : Int32) : Prop := (((x6 ≤ x7) → (K x3 σ)) ∧ (¬ (x6 ≤ x7) → ((vp_in x7 3) ∧ (f4_when (fun (r_37 : Int32) (s_37 : nw_ST) => (f4_brings (fun (r_51 : Int32) (s_51 : nw_ST) => (H_15 s_51 (((31 : Int64) * (((31 : Int64) * x3) + (Int32.toInt64 r_37))) + (Int32.toInt64 r_51)) x6 (x7 + (1 : Int32)))) s_37 (nw_cst 68 x7.toNatClampNeg))) σ (nw_cst 68 x7.toNatClampNeg)))))
def f4_digestNumbers_15 (K : Int64 → nw_ST → Prop) : Nat → nw_ST → Int64 → Int32 → Int32 → Prop
  | 0 => fun _ _ _ _ => False
  | n + 1 => b4_digestNumbers_15 K (f4_digestNumbers_15 K n)
def f4_digestNumbers (K : Int64 → nw_ST → Prop) (σ : nw_ST) (a1 : Int64) : Prop := (∃ n, f4_digestNumbers_15 K n σ a1 (3 : Int32) (0 : Int32))
def rm4_digestNumbers : Room := { frames := 5, cells := 0, slots := 0, locals := 112 }
theorem yd4_digestNumbers : yX4_digestNumbers.cls = RX4 ∧ yX4_digestNumbers.cls ≠ "java/lang/invoke/MethodHandle" ∧ yX4_digestNumbers.cls ≠ "java/lang/invoke/VarHandle" ∧ (parseMethodDescriptor yX4_digestNumbers.desc).map (fun d => d.parameters.length) = some 1 := by decide +kernel
set_option maxHeartbeats 4000000 in
set_option maxRecDepth 100000 in
theorem ct4_digestNumbers (l : Launch) (P : nw_PT) (hD : nw_D P) (σ : nw_ST) (a1 : Int64)  (K : Int64 → nw_ST → Prop) (hf : f4_digestNumbers K σ a1) : nw_MT l yX4_digestNumbers cX4_digestNumbers 9 (some .long) rm4_digestNumbers P [.ref (P.2.1 0), .long a1] σ (nw_Kl K) := by
  refine nw_enter (by decide) (by first | decide | exact Nat.le_of_ble_eq_true rfl) hD ?_
  intro X hl h he hR
  subst hl
  have h : nw_ok P X cX4_digestNumbers RX4 9 := h
  show nw_G P X 9 σ [(0, .ref (P.2.1 0)), (1, .long a1)] 0 []
  have hB_15 : ∀ (H_15 : nw_ST → Int64 → Int32 → Int32 → Prop) (hH_15 : (∀ (σ : nw_ST) (x3 : Int64) (x6 : Int32) (x7 : Int32), H_15 σ x3 x6 x7 → nw_G P X 9 σ [(0, .ref (P.2.1 0)), (3, .long x3), (5, .ref (P.2.1 68)), (6, .int x6), (7, .int x7)] 15 [])), ∀ (σ : nw_ST) (x3 : Int64) (x6 : Int32) (x7 : Int32), b4_digestNumbers_15 K H_15 σ x3 x6 x7 → nw_G P X 9 σ [(0, .ref (P.2.1 0)), (3, .long x3), (5, .ref (P.2.1 68)), (6, .int x6), (7, .int x7)] 15 [] := by
    intro H_15 hH_15 σ x3 x6 x7 hf
    unfold b4_digestNumbers_15 at hf
    refine nw_iload (pc := 15) h dX4_digestNumbers_15 4 rfl ?_
    refine nw_iload (pc := 17) h dX4_digestNumbers_17 3 rfl ?_
    refine nw_icmp_ge (pc := 19) (tgt := 63) h dX4_digestNumbers_19 (by decide) (fun c_19 => ?_) (fun c_19 => ?_)
    · have hf := hf.1 c_19
      refine nw_lload_n (pc := 63) h dX4_digestNumbers_63 rfl 1 rfl ?_
      exact nw_lret (pc := 64) h he dX4_digestNumbers_64 ⟨_, rfl, hf⟩
    · have hf := hf.2 c_19
      refine nw_aload (pc := 22) h dX4_digestNumbers_22 2 rfl ?_
      refine nw_iload (pc := 24) h dX4_digestNumbers_24 4 rfl ?_
      obtain ⟨h_26, hf⟩ := hf
      refine nw_tald (pc := 26) (n := 3) h rfl rfl h_26 dX4_digestNumbers_26 ?_
      refine nw_istore (pc := 27) (lv' := [(8, .int (nw_cst 68 x7.toNatClampNeg)), (0, .ref (P.2.1 0)), (3, .long x3), (5, .ref (P.2.1 68)), (6, .int x6), (7, .int x7)]) h dX4_digestNumbers_27 (by decide) rfl ?_
      refine nw_ldc2 (pc := 29) h nw_w231 dX4_digestNumbers_29 ?_
      refine nw_lload_n (pc := 32) h dX4_digestNumbers_32 rfl 2 rfl ?_
      refine nw_lmul (pc := 33) h dX4_digestNumbers_33 ?_
      refine nw_aload_n (pc := 34) h dX4_digestNumbers_34 rfl 1 rfl ?_
      refine nw_iload (pc := 35) h dX4_digestNumbers_35 0 rfl ?_
      refine klX4_339 (pc := 37) h (by rw [hR]; decide) hf (Nat.le_of_ble_eq_true rfl) dX4_digestNumbers_37 (fun r_37 s_37 hf => ?_)
      refine nw_i2l (pc := 40) h dX4_digestNumbers_40 ?_
      refine nw_ladd (pc := 41) h dX4_digestNumbers_41 ?_
      refine nw_lstore_n (pc := 42) (lv' := [(3, .long (((31 : Int64) * x3) + (Int32.toInt64 r_37))), (8, .int (nw_cst 68 x7.toNatClampNeg)), (0, .ref (P.2.1 0)), (5, .ref (P.2.1 68)), (6, .int x6), (7, .int x7)]) h dX4_digestNumbers_42 rfl (by decide) rfl ?_
      refine nw_ldc2 (pc := 43) h nw_w231 dX4_digestNumbers_43 ?_
      refine nw_lload_n (pc := 46) h dX4_digestNumbers_46 rfl 0 rfl ?_
      refine nw_lmul (pc := 47) h dX4_digestNumbers_47 ?_
      refine nw_aload_n (pc := 48) h dX4_digestNumbers_48 rfl 2 rfl ?_
      refine nw_iload (pc := 49) h dX4_digestNumbers_49 1 rfl ?_
      refine klX4_342 (pc := 51) h (by rw [hR]; decide) hf (Nat.le_of_ble_eq_true rfl) dX4_digestNumbers_51 (fun r_51 s_51 hf => ?_)
      refine nw_i2l (pc := 54) h dX4_digestNumbers_54 ?_
      refine nw_ladd (pc := 55) h dX4_digestNumbers_55 ?_
      refine nw_lstore_n (pc := 56) (lv' := [(3, .long (((31 : Int64) * (((31 : Int64) * x3) + (Int32.toInt64 r_37))) + (Int32.toInt64 r_51))), (8, .int (nw_cst 68 x7.toNatClampNeg)), (0, .ref (P.2.1 0)), (5, .ref (P.2.1 68)), (6, .int x6), (7, .int x7)]) h dX4_digestNumbers_56 rfl (by decide) rfl ?_
      refine nw_iinc (pc := 57) (v := (x7 + (1 : Int32))) (lv' := [(7, .int (x7 + (1 : Int32))), (3, .long (((31 : Int64) * (((31 : Int64) * x3) + (Int32.toInt64 r_37))) + (Int32.toInt64 r_51))), (8, .int (nw_cst 68 x7.toNatClampNeg)), (0, .ref (P.2.1 0)), (5, .ref (P.2.1 68)), (6, .int x6)]) h dX4_digestNumbers_57 (j := 5) rfl rfl (by decide) rfl ?_
      refine nw_goto (pc := 60) (tgt := 15) h dX4_digestNumbers_60 (by decide) ?_
      refine nw_sub (lv' := [(0, .ref (P.2.1 0)), (3, .long (((31 : Int64) * (((31 : Int64) * x3) + (Int32.toInt64 r_37))) + (Int32.toInt64 r_51))), (5, .ref (P.2.1 68)), (6, .int x6), (7, .int (x7 + (1 : Int32)))]) [3, 1, 4, 5, 0] rfl ?_
      exact hH_15 _ _ _ _ (hf)
  have hL_15 :  ∀ (n : Nat) (σ : nw_ST) (x3 : Int64) (x6 : Int32) (x7 : Int32), f4_digestNumbers_15 K n σ x3 x6 x7 → nw_G P X 9 σ [(0, .ref (P.2.1 0)), (3, .long x3), (5, .ref (P.2.1 68)), (6, .int x6), (7, .int x7)] 15 [] := by
    intro n
    induction n with
    | zero => intro σ x3 x6 x7 hf; exact False.elim hf
    | succ n ih => exact hB_15 _ ih
  unfold f4_digestNumbers at hf
  refine nw_lload_n (pc := 0) h dX4_digestNumbers_0 rfl 1 rfl ?_
  refine nw_lstore_n (pc := 1) (lv' := [(3, .long a1), (0, .ref (P.2.1 0)), (1, .long a1)]) h dX4_digestNumbers_1 rfl (by decide) rfl ?_
  refine nw_gets (pc := 2) (j := 5) h (by decide) nw_w261 dX4_digestNumbers_2 ?_
  refine nw_astore (pc := 5) (lv' := [(5, .ref (P.2.1 68)), (3, .long a1), (0, .ref (P.2.1 0)), (1, .long a1)]) h dX4_digestNumbers_5 (by decide) rfl ?_
  refine nw_aload (pc := 7) h dX4_digestNumbers_7 0 rfl ?_
  refine nw_tlen (pc := 9) (n := 3) (v := 3) h rfl rfl (by decide) dX4_digestNumbers_9 ?_
  refine nw_istore (pc := 10) (lv' := [(6, .int (3 : Int32)), (5, .ref (P.2.1 68)), (3, .long a1), (0, .ref (P.2.1 0)), (1, .long a1)]) h dX4_digestNumbers_10 (by decide) rfl ?_
  refine nw_iconst (pc := 12) (v := 0) h dX4_digestNumbers_12 (by decide) ?_
  refine nw_istore (pc := 13) (lv' := [(7, .int (0 : Int32)), (6, .int (3 : Int32)), (5, .ref (P.2.1 68)), (3, .long a1), (0, .ref (P.2.1 0)), (1, .long a1)]) h dX4_digestNumbers_13 (by decide) rfl ?_
  obtain ⟨n_15, hf⟩ := hf
  refine nw_sub (lv' := [(0, .ref (P.2.1 0)), (3, .long a1), (5, .ref (P.2.1 68)), (6, .int (3 : Int32)), (7, .int (0 : Int32))]) [4, 3, 2, 1, 0] rfl ?_
  exact hL_15 n_15 _ _ _ _ hf
