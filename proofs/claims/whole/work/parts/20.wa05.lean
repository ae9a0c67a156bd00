theorem klX4_351 {P : nw_PT} {X : nw_EX} {cc : ByteArray} {nL : Nat} {σ : nw_ST} {lv : List (Nat × Value)} {pc : Nat} {rest : List Value} {a1 : Int32} (h : nw_ok P X cc RX4 nL) (hR : rm4_good.frames + 1 ≤ X.2.2.2.1.frames ∧ 8 + (4 + 11) + rm4_good.locals ≤ X.2.2.2.1.locals)  {K : Int32 → nw_ST → Prop} (hf : f4_good K σ a1) (hst : (rest.map fun v => v.category).sum ≤ 8) (hd : decode cc pc = .ok (.invokevirtual 351, 3)) (k : ∀ (r : Int32) (s2 : nw_ST), K r s2 → nw_G P X nL s2 lv (pc + 3) (.int r :: rest)) : nw_G P X nL σ lv pc (.int a1 :: .ref (P.2.1 0) :: rest) :=
  nw_callV (As := [.int a1]) (rest := rest) (C := RX4) (ci := 4) h (ct4_good _ P h.2.2 σ a1 K hf) (nw_goodV nw_w270 nw_w271 nw_w272 nw_w24 nw_w273) yd4_good rfl hR ⟨rfl, rfl⟩ rfl (by decide) rfl rfl hst rfl hd (fun v s2 z => by obtain ⟨r, rfl, z⟩ := z; exact k r s2 z)
theorem klX4_345 {P : nw_PT} {X : nw_EX} {cc : ByteArray} {nL : Nat} {σ : nw_ST} {lv : List (Nat × Value)} {pc : Nat} {rest : List Value} {a1 : Int32} (h : nw_ok P X cc RX4 nL) (hR : rm4_claims.frames + 1 ≤ X.2.2.2.1.frames ∧ 8 + (2 + 11) + rm4_claims.locals ≤ X.2.2.2.1.locals)  {K : Int32 → nw_ST → Prop} (hf : f4_claims K σ a1) (hst : (rest.map fun v => v.category).sum ≤ 8) (hd : decode cc pc = .ok (.invokevirtual 345, 3)) (k : ∀ (r : Int32) (s2 : nw_ST), K r s2 → nw_G P X nL s2 lv (pc + 3) (.int r :: rest)) : nw_G P X nL σ lv pc (.int a1 :: .ref (P.2.1 0) :: rest) :=
  nw_callV (As := [.int a1]) (rest := rest) (C := RX4) (ci := 4) h (ct4_claims _ P h.2.2 σ a1 K hf) (nw_goodV nw_w274 nw_w275 nw_w276 nw_w24 nw_w277) yd4_claims rfl hR ⟨rfl, rfl⟩ rfl (by decide) rfl rfl hst rfl hd (fun v s2 z => by obtain ⟨r, rfl, z⟩ := z; exact k r s2 z)
theorem klX4_348 {P : nw_PT} {X : nw_EX} {cc : ByteArray} {nL : Nat} {σ : nw_ST} {lv : List (Nat × Value)} {pc : Nat} {rest : List Value} {a1 : Int32} {a2 : Int32} (h : nw_ok P X cc RX4 nL) (hR : rm4_earn.frames + 1 ≤ X.2.2.2.1.frames ∧ 8 + (8 + 11) + rm4_earn.locals ≤ X.2.2.2.1.locals)  {K : Int32 → nw_ST → Prop} (hf : f4_earn K σ a1 a2) (hst : (rest.map fun v => v.category).sum ≤ 8) (hd : decode cc pc = .ok (.invokevirtual 348, 3)) (k : ∀ (r : Int32) (s2 : nw_ST), K r s2 → nw_G P X nL s2 lv (pc + 3) (.int r :: rest)) : nw_G P X nL σ lv pc (.int a2 :: .int a1 :: .ref (P.2.1 0) :: rest) :=
  nw_callV (As := [.int a1, .int a2]) (rest := rest) (C := RX4) (ci := 4) h (ct4_earn _ P h.2.2 σ a1 a2 K hf) (nw_goodV nw_w278 nw_w279 nw_w280 nw_w24 nw_w281) yd4_earn rfl hR ⟨rfl, rfl⟩ rfl (by decide) rfl rfl hst rfl hd (fun v s2 z => by obtain ⟨r, rfl, z⟩ := z; exact k r s2 z)
def b4_digestTickets_65 (K : Int64 → nw_ST → Prop) (H_65 : nw_ST → Int64 → Int32 → Prop) (σ : nw_ST) (x3 : Int64) (x5 : Int32) : Prop := ((((nw_gS σ 13 2) ≤ x5) → (K x3 σ)) ∧ (¬ ((nw_gS σ 13 2) ≤ x5) → (f4_good (fun (r_85 : Int32) (s_85 : nw_ST) => (H_65 s_85 (((31 : Int64) * x3) + (Int32.toInt64 r_85)) (x5 + (1 : Int32)))) σ x5)))
def f4_digestTickets_65 (K : Int64 → nw_ST → Prop) : Nat → nw_ST → Int64 → Int32 → Prop
  | 0 => fun _ _ _ => False
  | n + 1 => b4_digestTickets_65 K (f4_digestTickets_65 K n)
def b4_digestTickets_5 (K : Int64 → nw_ST → Prop) (H_5 : nw_ST → Int64 → Int32 → Prop) (σ : nw_ST) (x3 : Int64) (x5 : Int32) : Prop := ((((8 : Int32) ≤ x5) → (∃ n, f4_digestTickets_65 K n σ x3 (0 : Int32))) ∧ (¬ ((8 : Int32) ≤ x5) → (f4_claims (fun (r_20 : Int32) (s_20 : nw_ST) => (f4_earn (fun (r_35 : Int32) (s_35 : nw_ST) => (f4_earn (fun (r_50 : Int32) (s_50 : nw_ST) => (H_5 s_50 (((31 : Int64) * (((31 : Int64) * (((31 : Int64) * x3) + (Int32.toInt64 r_20))) + (Int32.toInt64 r_35))) + (Int32.toInt64 r_50)) (x5 + (1 : Int32)))) s_35 x5 (1 : Int32))) s_20 x5 (0 : Int32))) σ x5)))
def f4_digestTickets_5 (K : Int64 → nw_ST → Prop) : Nat → nw_ST → Int64 → Int32 → Prop
  | 0 => fun _ _ _ => False
  | n + 1 => b4_digestTickets_5 K (f4_digestTickets_5 K n)
def f4_digestTickets (K : Int64 → nw_ST → Prop) (σ : nw_ST) (a1 : Int64) : Prop := (∃ n, f4_digestTickets_5 K n σ a1 (0 : Int32))
def rm4_digestTickets : Room := { frames := 5, cells := 0, slots := 0, locals := 123 }
theorem yd4_digestTickets : yX4_digestTickets.cls = RX4 ∧ yX4_digestTickets.cls ≠ "java/lang/invoke/MethodHandle" ∧ yX4_digestTickets.cls ≠ "java/lang/invoke/VarHandle" ∧ (parseMethodDescriptor yX4_digestTickets.desc).map (fun d => d.parameters.length) = some 1 := by decide +kernel
set_option maxHeartbeats 4000000 in
set_option maxRecDepth 100000 in
theorem ct4_digestTickets (l : Launch) (P : nw_PT) (hD : nw_D P) (σ : nw_ST) (a1 : Int64)  (K : Int64 → nw_ST → Prop) (hf : f4_digestTickets K σ a1) : nw_MT l yX4_digestTickets cX4_digestTickets 6 (some .long) rm4_digestTickets P [.ref (P.2.1 0), .long a1] σ (nw_Kl K) := by
  refine nw_enter (by decide) (by first | decide | exact Nat.le_of_ble_eq_true rfl) hD ?_
  intro X hl h he hR
  subst hl
  have h : nw_ok P X cX4_digestTickets RX4 6 := h
  show nw_G P X 6 σ [(0, .ref (P.2.1 0)), (1, .long a1)] 0 []
  have hB_65 : ∀ (H_65 : nw_ST → Int64 → Int32 → Prop) (hH_65 : (∀ (σ : nw_ST) (x3 : Int64) (x5 : Int32), H_65 σ x3 x5 → nw_G P X 6 σ [(0, .ref (P.2.1 0)), (3, .long x3), (5, .int x5)] 65 [])), ∀ (σ : nw_ST) (x3 : Int64) (x5 : Int32), b4_digestTickets_65 K H_65 σ x3 x5 → nw_G P X 6 σ [(0, .ref (P.2.1 0)), (3, .long x3), (5, .int x5)] 65 [] := by
    intro H_65 hH_65 σ x3 x5 hf
    unfold b4_digestTickets_65 at hf
    refine nw_iload (pc := 65) h dX4_digestTickets_65 2 rfl ?_
    refine nw_aload_n (pc := 67) h dX4_digestTickets_67 rfl 0 rfl ?_
    refine gf4_46 (pc := 68) (r := 13) h rfl rfl dX4_digestTickets_68 ?_
    refine gf4_127 (pc := 71) h rfl dX4_digestTickets_71 ?_
    refine nw_icmp_ge (pc := 74) (tgt := 97) h dX4_digestTickets_74 (by decide) (fun c_74 => ?_) (fun c_74 => ?_)
    · have hf := hf.1 c_74
      refine nw_lload_n (pc := 97) h dX4_digestTickets_97 rfl 1 rfl ?_
      exact nw_lret (pc := 98) h he dX4_digestTickets_98 ⟨_, rfl, hf⟩
    · have hf := hf.2 c_74
      refine nw_ldc2 (pc := 77) h nw_w231 dX4_digestTickets_77 ?_
      refine nw_lload_n (pc := 80) h dX4_digestTickets_80 rfl 1 rfl ?_
      refine nw_lmul (pc := 81) h dX4_digestTickets_81 ?_
      refine nw_aload_n (pc := 82) h dX4_digestTickets_82 rfl 0 rfl ?_
      refine nw_iload (pc := 83) h dX4_digestTickets_83 2 rfl ?_
      refine klX4_351 (pc := 85) h (by rw [hR]; decide) hf (Nat.le_of_ble_eq_true rfl) dX4_digestTickets_85 (fun r_85 s_85 hf => ?_)
      refine nw_i2l (pc := 88) h dX4_digestTickets_88 ?_
      refine nw_ladd (pc := 89) h dX4_digestTickets_89 ?_
      refine nw_lstore_n (pc := 90) (lv' := [(3, .long (((31 : Int64) * x3) + (Int32.toInt64 r_85))), (0, .ref (P.2.1 0)), (5, .int x5)]) h dX4_digestTickets_90 rfl (by decide) rfl ?_
      refine nw_iinc (pc := 91) (v := (x5 + (1 : Int32))) (lv' := [(5, .int (x5 + (1 : Int32))), (3, .long (((31 : Int64) * x3) + (Int32.toInt64 r_85))), (0, .ref (P.2.1 0))]) h dX4_digestTickets_91 (j := 2) rfl rfl (by decide) rfl ?_
      refine nw_goto (pc := 94) (tgt := 65) h dX4_digestTickets_94 (by decide) ?_
      refine nw_sub (lv' := [(0, .ref (P.2.1 0)), (3, .long (((31 : Int64) * x3) + (Int32.toInt64 r_85))), (5, .int (x5 + (1 : Int32)))]) [2, 1, 0] rfl ?_
      exact hH_65 _ _ _ (hf)
  have hL_65 :  ∀ (n : Nat) (σ : nw_ST) (x3 : Int64) (x5 : Int32), f4_digestTickets_65 K n σ x3 x5 → nw_G P X 6 σ [(0, .ref (P.2.1 0)), (3, .long x3), (5, .int x5)] 65 [] := by
    intro n
    induction n with
    | zero => intro σ x3 x5 hf; exact False.elim hf
    | succ n ih => exact hB_65 _ ih
  have hB_5 : ∀ (H_5 : nw_ST → Int64 → Int32 → Prop) (hH_5 : (∀ (σ : nw_ST) (x3 : Int64) (x5 : Int32), H_5 σ x3 x5 → nw_G P X 6 σ [(0, .ref (P.2.1 0)), (3, .long x3), (5, .int x5)] 5 [])), ∀ (σ : nw_ST) (x3 : Int64) (x5 : Int32), b4_digestTickets_5 K H_5 σ x3 x5 → nw_G P X 6 σ [(0, .ref (P.2.1 0)), (3, .long x3), (5, .int x5)] 5 [] := by
    intro H_5 hH_5 σ x3 x5 hf
    unfold b4_digestTickets_5 at hf
    refine nw_iload (pc := 5) h dX4_digestTickets_5 2 rfl ?_
    refine nw_bipush (pc := 7) (v := 8) h dX4_digestTickets_7 (by decide) ?_
    refine nw_icmp_ge (pc := 9) (tgt := 62) h dX4_digestTickets_9 (by decide) (fun c_9 => ?_) (fun c_9 => ?_)
    · have hf := hf.1 c_9
      refine nw_iconst (pc := 62) (v := 0) h dX4_digestTickets_62 (by decide) ?_
      refine nw_istore (pc := 63) (lv' := [(5, .int (0 : Int32)), (0, .ref (P.2.1 0)), (3, .long x3)]) h dX4_digestTickets_63 (by decide) rfl ?_
      obtain ⟨n_65, hf⟩ := hf
      refine nw_sub (lv' := [(0, .ref (P.2.1 0)), (3, .long x3), (5, .int (0 : Int32))]) [1, 2, 0] rfl ?_
      exact hL_65 n_65 _ _ _ hf
    · have hf := hf.2 c_9
      refine nw_ldc2 (pc := 12) h nw_w231 dX4_digestTickets_12 ?_
      refine nw_lload_n (pc := 15) h dX4_digestTickets_15 rfl 1 rfl ?_
      refine nw_lmul (pc := 16) h dX4_digestTickets_16 ?_
      refine nw_aload_n (pc := 17) h dX4_digestTickets_17 rfl 0 rfl ?_
      refine nw_iload (pc := 18) h dX4_digestTickets_18 2 rfl ?_
      refine klX4_345 (pc := 20) h (by rw [hR]; decide) hf (Nat.le_of_ble_eq_true rfl) dX4_digestTickets_20 (fun r_20 s_20 hf => ?_)
      refine nw_i2l (pc := 23) h dX4_digestTickets_23 ?_
      refine nw_ladd (pc := 24) h dX4_digestTickets_24 ?_
      refine nw_lstore_n (pc := 25) (lv' := [(3, .long (((31 : Int64) * x3) + (Int32.toInt64 r_20))), (0, .ref (P.2.1 0)), (5, .int x5)]) h dX4_digestTickets_25 rfl (by decide) rfl ?_
      refine nw_ldc2 (pc := 26) h nw_w231 dX4_digestTickets_26 ?_
      refine nw_lload_n (pc := 29) h dX4_digestTickets_29 rfl 0 rfl ?_
      refine nw_lmul (pc := 30) h dX4_digestTickets_30 ?_
      refine nw_aload_n (pc := 31) h dX4_digestTickets_31 rfl 1 rfl ?_
      refine nw_iload (pc := 32) h dX4_digestTickets_32 2 rfl ?_
      refine nw_iconst (pc := 34) (v := 0) h dX4_digestTickets_34 (by decide) ?_
      refine klX4_348 (pc := 35) h (by rw [hR]; decide) hf (Nat.le_of_ble_eq_true rfl) dX4_digestTickets_35 (fun r_35 s_35 hf => ?_)
      refine nw_i2l (pc := 38) h dX4_digestTickets_38 ?_
      refine nw_ladd (pc := 39) h dX4_digestTickets_39 ?_
      refine nw_lstore_n (pc := 40) (lv' := [(3, .long (((31 : Int64) * (((31 : Int64) * x3) + (Int32.toInt64 r_20))) + (Int32.toInt64 r_35))), (0, .ref (P.2.1 0)), (5, .int x5)]) h dX4_digestTickets_40 rfl (by decide) rfl ?_
      refine nw_ldc2 (pc := 41) h nw_w231 dX4_digestTickets_41 ?_
      refine nw_lload_n (pc := 44) h dX4_digestTickets_44 rfl 0 rfl ?_
      refine nw_lmul (pc := 45) h dX4_digestTickets_45 ?_
      refine nw_aload_n (pc := 46) h dX4_digestTickets_46 rfl 1 rfl ?_
      refine nw_iload (pc := 47) h dX4_digestTickets_47 2 rfl ?_
      refine nw_iconst (pc := 49) (v := 1) h dX4_digestTickets_49 (by decide) ?_
      refine klX4_348 (pc := 50) h (by rw [hR]; decide) hf (Nat.le_of_ble_eq_true rfl) dX4_digestTickets_50 (fun r_50 s_50 hf => ?_)
      refine nw_i2l (pc := 53) h dX4_digestTickets_53 ?_
      refine nw_ladd (pc := 54) h dX4_digestTickets_54 ?_
      refine nw_lstore_n (pc := 55) (lv' := [(3, .long (((31 : Int64) * (((31 : Int64) * (((31 : Int64) * x3) + (Int32.toInt64 r_20))) + (Int32.toInt64 r_35))) + (Int32.toInt64 r_50))), (0, .ref (P.2.1 0)), (5, .int x5)]) h dX4_digestTickets_55 rfl (by decide) rfl ?_
      refine nw_iinc (pc := 56) (v := (x5 + (1 : Int32))) (lv' := [(5, .int (x5 + (1 : Int32))), (3, .long (((31 : Int64) * (((31 : Int64) * (((31 : Int64) * x3) + (Int32.toInt64 r_20))) + (Int32.toInt64 r_35))) + (Int32.toInt64 r_50))), (0, .ref (P.2.1 0))]) h dX4_digestTickets_56 (j := 2) rfl rfl (by decide) rfl ?_
      refine nw_goto (pc := 59) (tgt := 5) h dX4_digestTickets_59 (by decide) ?_
      refine nw_sub (lv' := [(0, .ref (P.2.1 0)), (3, .long (((31 : Int64) * (((31 : Int64) * (((31 : Int64) * x3) + (Int32.toInt64 r_20))) + (Int32.toInt64 r_35))) + (Int32.toInt64 r_50))), (5, .int (x5 + (1 : Int32)))]) [2, 1, 0] rfl ?_
      exact hH_5 _ _ _ (hf)
  have hL_5 :  ∀ (n : Nat) (σ : nw_ST) (x3 : Int64) (x5 : Int32), f4_digestTickets_5 K n σ x3 x5 → nw_G P X 6 σ [(0, .ref (P.2.1 0)), (3, .long x3), (5, .int x5)] 5 [] := by
    intro n
    induction n with
    | zero => intro σ x3 x5 hf; exact False.elim hf
    | succ n ih => exact hB_5 _ ih
  unfold f4_digestTickets at hf
  refine nw_lload_n (pc := 0) h dX4_digestTickets_0 rfl 1 rfl ?_
  refine nw_lstore_n (pc := 1) (lv' := [(3, .long a1), (0, .ref (P.2.1 0)), (1, .long a1)]) h dX4_digestTickets_1 rfl (by decide) rfl ?_
  refine nw_iconst (pc := 2) (v := 0) h dX4_digestTickets_2 (by decide) ?_
  refine nw_istore (pc := 3) (lv' := [(5, .int (0 : Int32)), (3, .long a1), (0, .ref (P.2.1 0)), (1, .long a1)]) h dX4_digestTickets_3 (by decide) rfl ?_
  obtain ⟨n_5, hf⟩ := hf
  refine nw_sub (lv' := [(0, .ref (P.2.1 0)), (3, .long a1), (5, .int (0 : Int32))]) [2, 1, 0] rfl ?_
  exact hL_5 n_5 _ _ _ hf
theorem klX4_354 {P : nw_PT} {X : nw_EX} {cc : ByteArray} {nL : Nat} {σ : nw_ST} {lv : List (Nat × Value)} {pc : Nat} {rest : List Value} {a1 : Int32} {a2 : Int32} (h : nw_ok P X cc RX4 nL) (hR : rm4_run.frames + 1 ≤ X.2.2.2.1.frames ∧ 8 + (8 + 11) + rm4_run.locals ≤ X.2.2.2.1.locals)  {K : Int32 → nw_ST → Prop} (hf : f4_run K σ a1 a2) (hst : (rest.map fun v => v.category).sum ≤ 8) (hd : decode cc pc = .ok (.invokevirtual 354, 3)) (k : ∀ (r : Int32) (s2 : nw_ST), K r s2 → nw_G P X nL s2 lv (pc + 3) (.int r :: rest)) : nw_G P X nL σ lv pc (.int a2 :: .int a1 :: .ref (P.2.1 0) :: rest) :=
  nw_callV (As := [.int a1, .int a2]) (rest := rest) (C := RX4) (ci := 4) h (ct4_run _ P h.2.2 σ a1 a2 K hf) (nw_goodV nw_w282 nw_w283 nw_w284 nw_w24 nw_w285) yd4_run rfl hR ⟨rfl, rfl⟩ rfl (by decide) rfl rfl hst rfl hd (fun v s2 z => by obtain ⟨r, rfl, z⟩ := z; exact k r s2 z)
theorem klX4_357 {P : nw_PT} {X : nw_EX} {cc : ByteArray} {nL : Nat} {σ : nw_ST} {lv : List (Nat × Value)} {pc : Nat} {rest : List Value} {a1 : Int32} (h : nw_ok P X cc RX4 nL) (hR : rm4_bar.frames + 1 ≤ X.2.2.2.1.frames ∧ 8 + (4 + 11) + rm4_bar.locals ≤ X.2.2.2.1.locals)  {K : Int32 → nw_ST → Prop} (hf : f4_bar K σ a1) (hst : (rest.map fun v => v.category).sum ≤ 8) (hd : decode cc pc = .ok (.invokevirtual 357, 3)) (k : ∀ (r : Int32) (s2 : nw_ST), K r s2 → nw_G P X nL s2 lv (pc + 3) (.int r :: rest)) : nw_G P X nL σ lv pc (.int a1 :: .ref (P.2.1 0) :: rest) :=
  nw_callV (As := [.int a1]) (rest := rest) (C := RX4) (ci := 4) h (ct4_bar _ P h.2.2 σ a1 K hf) (nw_goodV nw_w286 nw_w287 nw_w288 nw_w24 nw_w289) yd4_bar rfl hR ⟨rfl, rfl⟩ rfl (by decide) rfl rfl hst rfl hd (fun v s2 z => by obtain ⟨r, rfl, z⟩ := z; exact k r s2 z)
theorem klX4_360 {P : nw_PT} {X : nw_EX} {cc : ByteArray} {nL : Nat} {σ : nw_ST} {lv : List (Nat × Value)} {pc : Nat} {rest : List Value} {a1 : Int32} (h : nw_ok P X cc RX4 nL) (hR : rm4_skipped.frames + 1 ≤ X.2.2.2.1.frames ∧ 8 + (5 + 11) + rm4_skipped.locals ≤ X.2.2.2.1.locals)  {K : Int32 → nw_ST → Prop} (hf : f4_skipped K σ a1) (hst : (rest.map fun v => v.category).sum ≤ 8) (hd : decode cc pc = .ok (.invokevirtual 360, 3)) (k : ∀ (r : Int32) (s2 : nw_ST), K r s2 → nw_G P X nL s2 lv (pc + 3) (.int r :: rest)) : nw_G P X nL σ lv pc (.int a1 :: .ref (P.2.1 0) :: rest) :=
  nw_callV (As := [.int a1]) (rest := rest) (C := RX4) (ci := 4) h (ct4_skipped _ P h.2.2 σ a1 K hf) (nw_goodV nw_w290 nw_w291 nw_w292 nw_w24 nw_w293) yd4_skipped rfl hR ⟨rfl, rfl⟩ rfl (by decide) rfl rfl hst rfl hd (fun v s2 z => by obtain ⟨r, rfl, z⟩ := z; exact k r s2 z)
theorem klX4_363 {P : nw_PT} {X : nw_EX} {cc : ByteArray} {nL : Nat} {σ : nw_ST} {lv : List (Nat × Value)} {pc : Nat} {rest : List Value} {a1 : Int32} (h : nw_ok P X cc RX4 nL) (hR : rm4_voids.frames + 1 ≤ X.2.2.2.1.frames ∧ 8 + (5 + 11) + rm4_voids.locals ≤ X.2.2.2.1.locals)  {K : Int32 → nw_ST → Prop} (hf : f4_voids K σ a1) (hst : (rest.map fun v => v.category).sum ≤ 8) (hd : decode cc pc = .ok (.invokevirtual 363, 3)) (k : ∀ (r : Int32) (s2 : nw_ST), K r s2 → nw_G P X nL s2 lv (pc + 3) (.int r :: rest)) : nw_G P X nL σ lv pc (.int a1 :: .ref (P.2.1 0) :: rest) :=
  nw_callV (As := [.int a1]) (rest := rest) (C := RX4) (ci := 4) h (ct4_voids _ P h.2.2 σ a1 K hf) (nw_goodV nw_w294 nw_w295 nw_w296 nw_w24 nw_w297) yd4_voids rfl hR ⟨rfl, rfl⟩ rfl (by decide) rfl rfl hst rfl hd (fun v s2 z => by obtain ⟨r, rfl, z⟩ := z; exact k r s2 z)
theorem klX4_366 {P : nw_PT} {X : nw_EX} {cc : ByteArray} {nL : Nat} {σ : nw_ST} {lv : List (Nat × Value)} {pc : Nat} {rest : List Value} {a1 : Int32} {a2 : Int32} {a3 : Int32} (h : nw_ok P X cc RX4 nL) (hR : rm4_hoarse.frames + 1 ≤ X.2.2.2.1.frames ∧ 8 + (10 + 11) + rm4_hoarse.locals ≤ X.2.2.2.1.locals)  {K : Int64 → nw_ST → Prop} (hf : f4_hoarse K σ a1 a2 a3) (hst : (rest.map fun v => v.category).sum ≤ 8) (hd : decode cc pc = .ok (.invokevirtual 366, 3)) (k : ∀ (r : Int64) (s2 : nw_ST), K r s2 → nw_G P X nL s2 lv (pc + 3) (.long r :: rest)) : nw_G P X nL σ lv pc (.int a3 :: .int a2 :: .int a1 :: .ref (P.2.1 0) :: rest) :=
  nw_callV (As := [.int a1, .int a2, .int a3]) (rest := rest) (C := RX4) (ci := 4) h (ct4_hoarse _ P h.2.2 σ a1 a2 a3 K hf) (nw_goodV nw_w298 nw_w299 nw_w300 nw_w24 nw_w301) yd4_hoarse rfl hR ⟨rfl, rfl⟩ rfl (by decide) rfl rfl hst rfl hd (fun v s2 z => by obtain ⟨r, rfl, z⟩ := z; exact k r s2 z)
theorem klX4_370 {P : nw_PT} {X : nw_EX} {cc : ByteArray} {nL : Nat} {σ : nw_ST} {lv : List (Nat × Value)} {pc : Nat} {rest : List Value} {a1 : Int32} {a2 : Int32} {a3 : Int32} (h : nw_ok P X cc RX4 nL) (hR : rm4_storm.frames + 1 ≤ X.2.2.2.1.frames ∧ 8 + (10 + 11) + rm4_storm.locals ≤ X.2.2.2.1.locals)  {K : Int32 → nw_ST → Prop} (hf : f4_storm K σ a1 a2 a3) (hst : (rest.map fun v => v.category).sum ≤ 8) (hd : decode cc pc = .ok (.invokevirtual 370, 3)) (k : ∀ (r : Int32) (s2 : nw_ST), K r s2 → nw_G P X nL s2 lv (pc + 3) (.int r :: rest)) : nw_G P X nL σ lv pc (.int a3 :: .int a2 :: .int a1 :: .ref (P.2.1 0) :: rest) :=
  nw_callV (As := [.int a1, .int a2, .int a3]) (rest := rest) (C := RX4) (ci := 4) h (ct4_storm _ P h.2.2 σ a1 a2 a3 K hf) (nw_goodV nw_w302 nw_w303 nw_w304 nw_w24 nw_w305) yd4_storm rfl hR ⟨rfl, rfl⟩ rfl (by decide) rfl rfl hst rfl hd (fun v s2 z => by obtain ⟨r, rfl, z⟩ := z; exact k r s2 z)
def f4_digestPlans (K : Int64 → nw_ST → Prop) (σ : nw_ST) (a1 : Int64) : Prop := (f4_run (fun (r_10 : Int32) (s_10 : nw_ST) => (f4_run (fun (r_24 : Int32) (s_24 : nw_ST) => (f4_bar (fun (r_38 : Int32) (s_38 : nw_ST) => (f4_skipped (fun (r_51 : Int32) (s_51 : nw_ST) => (f4_voids (fun (r_64 : Int32) (s_64 : nw_ST) => (f4_voids (fun (r_77 : Int32) (s_77 : nw_ST) => (f4_hoarse (fun (r_92 : Int64) (s_92 : nw_ST) => (f4_hoarse (fun (r_106 : Int64) (s_106 : nw_ST) => (f4_storm (fun (r_122 : Int32) (s_122 : nw_ST) => (f4_storm (fun (r_139 : Int32) (s_139 : nw_ST) => (K (((31 : Int64) * (((31 : Int64) * (((31 : Int64) * (((31 : Int64) * (((31 : Int64) * (((31 : Int64) * (((31 : Int64) * (((31 : Int64) * (((31 : Int64) * (((31 : Int64) * a1) + (Int32.toInt64 r_10))) + (Int32.toInt64 r_24))) + (Int32.toInt64 r_38))) + (Int32.toInt64 r_51))) + (Int32.toInt64 r_64))) + (Int32.toInt64 r_77))) + r_92)) + r_106)) + (Int32.toInt64 r_122))) + (Int32.toInt64 r_139)) s_139)) s_122 (7 : Int32) (30 : Int32) (1 : Int32))) s_106 (7 : Int32) (30 : Int32) (0 : Int32))) s_92 (5 : Int32) (4 : Int32) (1 : Int32))) s_77 (5 : Int32) (4 : Int32) (0 : Int32))) s_64 (0 : Int32))) s_51 (-1 : Int32))) s_38 (1 : Int32))) s_24 (9 : Int32))) s_10 (3 : Int32) (1 : Int32))) σ (3 : Int32) (0 : Int32))
def rm4_digestPlans : Room := { frames := 5, cells := 0, slots := 0, locals := 120 }
theorem yd4_digestPlans : yX4_digestPlans.cls = RX4 ∧ yX4_digestPlans.cls ≠ "java/lang/invoke/MethodHandle" ∧ yX4_digestPlans.cls ≠ "java/lang/invoke/VarHandle" ∧ (parseMethodDescriptor yX4_digestPlans.desc).map (fun d => d.parameters.length) = some 1 := by decide +kernel
set_option maxHeartbeats 4000000 in
set_option maxRecDepth 100000 in
theorem ct4_digestPlans (l : Launch) (P : nw_PT) (hD : nw_D P) (σ : nw_ST) (a1 : Int64)  (K : Int64 → nw_ST → Prop) (hf : f4_digestPlans K σ a1) : nw_MT l yX4_digestPlans cX4_digestPlans 5 (some .long) rm4_digestPlans P [.ref (P.2.1 0), .long a1] σ (nw_Kl K) := by
  refine nw_enter (by decide) (by first | decide | exact Nat.le_of_ble_eq_true rfl) hD ?_
  intro X hl h he hR
  subst hl
  have h : nw_ok P X cX4_digestPlans RX4 5 := h
  show nw_G P X 5 σ [(0, .ref (P.2.1 0)), (1, .long a1)] 0 []
  unfold f4_digestPlans at hf
  refine nw_lload_n (pc := 0) h dX4_digestPlans_0 rfl 1 rfl ?_
  refine nw_lstore_n (pc := 1) (lv' := [(3, .long a1), (0, .ref (P.2.1 0)), (1, .long a1)]) h dX4_digestPlans_1 rfl (by decide) rfl ?_
  refine nw_ldc2 (pc := 2) h nw_w231 dX4_digestPlans_2 ?_
  refine nw_lload_n (pc := 5) h dX4_digestPlans_5 rfl 0 rfl ?_
  refine nw_lmul (pc := 6) h dX4_digestPlans_6 ?_
  refine nw_aload_n (pc := 7) h dX4_digestPlans_7 rfl 1 rfl ?_
  refine nw_iconst (pc := 8) (v := 3) h dX4_digestPlans_8 (by decide) ?_
  refine nw_iconst (pc := 9) (v := 0) h dX4_digestPlans_9 (by decide) ?_
  refine klX4_354 (pc := 10) h (by rw [hR]; decide) hf (Nat.le_of_ble_eq_true rfl) dX4_digestPlans_10 (fun r_10 s_10 hf => ?_)
  refine nw_i2l (pc := 13) h dX4_digestPlans_13 ?_
  refine nw_ladd (pc := 14) h dX4_digestPlans_14 ?_
  refine nw_lstore_n (pc := 15) (lv' := [(3, .long (((31 : Int64) * a1) + (Int32.toInt64 r_10))), (0, .ref (P.2.1 0)), (1, .long a1)]) h dX4_digestPlans_15 rfl (by decide) rfl ?_
  refine nw_ldc2 (pc := 16) h nw_w231 dX4_digestPlans_16 ?_
  refine nw_lload_n (pc := 19) h dX4_digestPlans_19 rfl 0 rfl ?_
  refine nw_lmul (pc := 20) h dX4_digestPlans_20 ?_
  refine nw_aload_n (pc := 21) h dX4_digestPlans_21 rfl 1 rfl ?_
  refine nw_iconst (pc := 22) (v := 3) h dX4_digestPlans_22 (by decide) ?_
  refine nw_iconst (pc := 23) (v := 1) h dX4_digestPlans_23 (by decide) ?_
  refine klX4_354 (pc := 24) h (by rw [hR]; decide) hf (Nat.le_of_ble_eq_true rfl) dX4_digestPlans_24 (fun r_24 s_24 hf => ?_)
  refine nw_i2l (pc := 27) h dX4_digestPlans_27 ?_
  refine nw_ladd (pc := 28) h dX4_digestPlans_28 ?_
  refine nw_lstore_n (pc := 29) (lv' := [(3, .long (((31 : Int64) * (((31 : Int64) * a1) + (Int32.toInt64 r_10))) + (Int32.toInt64 r_24))), (0, .ref (P.2.1 0)), (1, .long a1)]) h dX4_digestPlans_29 rfl (by decide) rfl ?_
  refine nw_ldc2 (pc := 30) h nw_w231 dX4_digestPlans_30 ?_
  refine nw_lload_n (pc := 33) h dX4_digestPlans_33 rfl 0 rfl ?_
  refine nw_lmul (pc := 34) h dX4_digestPlans_34 ?_
  refine nw_aload_n (pc := 35) h dX4_digestPlans_35 rfl 1 rfl ?_
  refine nw_bipush (pc := 36) (v := 9) h dX4_digestPlans_36 (by decide) ?_
  refine klX4_357 (pc := 38) h (by rw [hR]; decide) hf (Nat.le_of_ble_eq_true rfl) dX4_digestPlans_38 (fun r_38 s_38 hf => ?_)
  refine nw_i2l (pc := 41) h dX4_digestPlans_41 ?_
  refine nw_ladd (pc := 42) h dX4_digestPlans_42 ?_
  refine nw_lstore_n (pc := 43) (lv' := [(3, .long (((31 : Int64) * (((31 : Int64) * (((31 : Int64) * a1) + (Int32.toInt64 r_10))) + (Int32.toInt64 r_24))) + (Int32.toInt64 r_38))), (0, .ref (P.2.1 0)), (1, .long a1)]) h dX4_digestPlans_43 rfl (by decide) rfl ?_
  refine nw_ldc2 (pc := 44) h nw_w231 dX4_digestPlans_44 ?_
  refine nw_lload_n (pc := 47) h dX4_digestPlans_47 rfl 0 rfl ?_
  refine nw_lmul (pc := 48) h dX4_digestPlans_48 ?_
  refine nw_aload_n (pc := 49) h dX4_digestPlans_49 rfl 1 rfl ?_
  refine nw_iconst (pc := 50) (v := 1) h dX4_digestPlans_50 (by decide) ?_
  refine klX4_360 (pc := 51) h (by rw [hR]; decide) hf (Nat.le_of_ble_eq_true rfl) dX4_digestPlans_51 (fun r_51 s_51 hf => ?_)
  refine nw_i2l (pc := 54) h dX4_digestPlans_54 ?_
  refine nw_ladd (pc := 55) h dX4_digestPlans_55 ?_
  refine nw_lstore_n (pc := 56) (lv' := [(3, .long (((31 : Int64) * (((31 : Int64) * (((31 : Int64) * (((31 : Int64) * a1) + (Int32.toInt64 r_10))) + (Int32.toInt64 r_24))) + (Int32.toInt64 r_38))) + (Int32.toInt64 r_51))), (0, .ref (P.2.1 0)), (1, .long a1)]) h dX4_digestPlans_56 rfl (by decide) rfl ?_
  refine nw_ldc2 (pc := 57) h nw_w231 dX4_digestPlans_57 ?_
  refine nw_lload_n (pc := 60) h dX4_digestPlans_60 rfl 0 rfl ?_
  refine nw_lmul (pc := 61) h dX4_digestPlans_61 ?_
  refine nw_aload_n (pc := 62) h dX4_digestPlans_62 rfl 1 rfl ?_
  refine nw_iconst (pc := 63) (v := -1) h dX4_digestPlans_63 (by decide) ?_
  refine klX4_363 (pc := 64) h (by rw [hR]; decide) hf (Nat.le_of_ble_eq_true rfl) dX4_digestPlans_64 (fun r_64 s_64 hf => ?_)
  refine nw_i2l (pc := 67) h dX4_digestPlans_67 ?_
  refine nw_ladd (pc := 68) h dX4_digestPlans_68 ?_
  refine nw_lstore_n (pc := 69) (lv' := [(3, .long (((31 : Int64) * (((31 : Int64) * (((31 : Int64) * (((31 : Int64) * (((31 : Int64) * a1) + (Int32.toInt64 r_10))) + (Int32.toInt64 r_24))) + (Int32.toInt64 r_38))) + (Int32.toInt64 r_51))) + (Int32.toInt64 r_64))), (0, .ref (P.2.1 0)), (1, .long a1)]) h dX4_digestPlans_69 rfl (by decide) rfl ?_
  refine nw_ldc2 (pc := 70) h nw_w231 dX4_digestPlans_70 ?_
  refine nw_lload_n (pc := 73) h dX4_digestPlans_73 rfl 0 rfl ?_
  refine nw_lmul (pc := 74) h dX4_digestPlans_74 ?_
  refine nw_aload_n (pc := 75) h dX4_digestPlans_75 rfl 1 rfl ?_
  refine nw_iconst (pc := 76) (v := 0) h dX4_digestPlans_76 (by decide) ?_
  refine klX4_363 (pc := 77) h (by rw [hR]; decide) hf (Nat.le_of_ble_eq_true rfl) dX4_digestPlans_77 (fun r_77 s_77 hf => ?_)
  refine nw_i2l (pc := 80) h dX4_digestPlans_80 ?_
  refine nw_ladd (pc := 81) h dX4_digestPlans_81 ?_
  refine nw_lstore_n (pc := 82) (lv' := [(3, .long (((31 : Int64) * (((31 : Int64) * (((31 : Int64) * (((31 : Int64) * (((31 : Int64) * (((31 : Int64) * a1) + (Int32.toInt64 r_10))) + (Int32.toInt64 r_24))) + (Int32.toInt64 r_38))) + (Int32.toInt64 r_51))) + (Int32.toInt64 r_64))) + (Int32.toInt64 r_77))), (0, .ref (P.2.1 0)), (1, .long a1)]) h dX4_digestPlans_82 rfl (by decide) rfl ?_
  refine nw_ldc2 (pc := 83) h nw_w231 dX4_digestPlans_83 ?_
  refine nw_lload_n (pc := 86) h dX4_digestPlans_86 rfl 0 rfl ?_
  refine nw_lmul (pc := 87) h dX4_digestPlans_87 ?_
  refine nw_aload_n (pc := 88) h dX4_digestPlans_88 rfl 1 rfl ?_
  refine nw_iconst (pc := 89) (v := 5) h dX4_digestPlans_89 (by decide) ?_
  refine nw_iconst (pc := 90) (v := 4) h dX4_digestPlans_90 (by decide) ?_
  refine nw_iconst (pc := 91) (v := 0) h dX4_digestPlans_91 (by decide) ?_
  refine klX4_366 (pc := 92) h (by rw [hR]; decide) hf (Nat.le_of_ble_eq_true rfl) dX4_digestPlans_92 (fun r_92 s_92 hf => ?_)
  refine nw_ladd (pc := 95) h dX4_digestPlans_95 ?_
  refine nw_lstore_n (pc := 96) (lv' := [(3, .long (((31 : Int64) * (((31 : Int64) * (((31 : Int64) * (((31 : Int64) * (((31 : Int64) * (((31 : Int64) * (((31 : Int64) * a1) + (Int32.toInt64 r_10))) + (Int32.toInt64 r_24))) + (Int32.toInt64 r_38))) + (Int32.toInt64 r_51))) + (Int32.toInt64 r_64))) + (Int32.toInt64 r_77))) + r_92)), (0, .ref (P.2.1 0)), (1, .long a1)]) h dX4_digestPlans_96 rfl (by decide) rfl ?_
  refine nw_ldc2 (pc := 97) h nw_w231 dX4_digestPlans_97 ?_
  refine nw_lload_n (pc := 100) h dX4_digestPlans_100 rfl 0 rfl ?_
  refine nw_lmul (pc := 101) h dX4_digestPlans_101 ?_
  refine nw_aload_n (pc := 102) h dX4_digestPlans_102 rfl 1 rfl ?_
  refine nw_iconst (pc := 103) (v := 5) h dX4_digestPlans_103 (by decide) ?_
  refine nw_iconst (pc := 104) (v := 4) h dX4_digestPlans_104 (by decide) ?_
  refine nw_iconst (pc := 105) (v := 1) h dX4_digestPlans_105 (by decide) ?_
  refine klX4_366 (pc := 106) h (by rw [hR]; decide) hf (Nat.le_of_ble_eq_true rfl) dX4_digestPlans_106 (fun r_106 s_106 hf => ?_)
  refine nw_ladd (pc := 109) h dX4_digestPlans_109 ?_
  refine nw_lstore_n (pc := 110) (lv' := [(3, .long (((31 : Int64) * (((31 : Int64) * (((31 : Int64) * (((31 : Int64) * (((31 : Int64) * (((31 : Int64) * (((31 : Int64) * (((31 : Int64) * a1) + (Int32.toInt64 r_10))) + (Int32.toInt64 r_24))) + (Int32.toInt64 r_38))) + (Int32.toInt64 r_51))) + (Int32.toInt64 r_64))) + (Int32.toInt64 r_77))) + r_92)) + r_106)), (0, .ref (P.2.1 0)), (1, .long a1)]) h dX4_digestPlans_110 rfl (by decide) rfl ?_
  refine nw_ldc2 (pc := 111) h nw_w231 dX4_digestPlans_111 ?_
  refine nw_lload_n (pc := 114) h dX4_digestPlans_114 rfl 0 rfl ?_
  refine nw_lmul (pc := 115) h dX4_digestPlans_115 ?_
  refine nw_aload_n (pc := 116) h dX4_digestPlans_116 rfl 1 rfl ?_
  refine nw_bipush (pc := 117) (v := 7) h dX4_digestPlans_117 (by decide) ?_
  refine nw_bipush (pc := 119) (v := 30) h dX4_digestPlans_119 (by decide) ?_
  refine nw_iconst (pc := 121) (v := 0) h dX4_digestPlans_121 (by decide) ?_
  refine klX4_370 (pc := 122) h (by rw [hR]; decide) hf (Nat.le_of_ble_eq_true rfl) dX4_digestPlans_122 (fun r_122 s_122 hf => ?_)
  refine nw_i2l (pc := 125) h dX4_digestPlans_125 ?_
  refine nw_ladd (pc := 126) h dX4_digestPlans_126 ?_
  refine nw_lstore_n (pc := 127) (lv' := [(3, .long (((31 : Int64) * (((31 : Int64) * (((31 : Int64) * (((31 : Int64) * (((31 : Int64) * (((31 : Int64) * (((31 : Int64) * (((31 : Int64) * (((31 : Int64) * a1) + (Int32.toInt64 r_10))) + (Int32.toInt64 r_24))) + (Int32.toInt64 r_38))) + (Int32.toInt64 r_51))) + (Int32.toInt64 r_64))) + (Int32.toInt64 r_77))) + r_92)) + r_106)) + (Int32.toInt64 r_122))), (0, .ref (P.2.1 0)), (1, .long a1)]) h dX4_digestPlans_127 rfl (by decide) rfl ?_
  refine nw_ldc2 (pc := 128) h nw_w231 dX4_digestPlans_128 ?_
  refine nw_lload_n (pc := 131) h dX4_digestPlans_131 rfl 0 rfl ?_
  refine nw_lmul (pc := 132) h dX4_digestPlans_132 ?_
  refine nw_aload_n (pc := 133) h dX4_digestPlans_133 rfl 1 rfl ?_
  refine nw_bipush (pc := 134) (v := 7) h dX4_digestPlans_134 (by decide) ?_
  refine nw_bipush (pc := 136) (v := 30) h dX4_digestPlans_136 (by decide) ?_
  refine nw_iconst (pc := 138) (v := 1) h dX4_digestPlans_138 (by decide) ?_
  refine klX4_370 (pc := 139) h (by rw [hR]; decide) hf (Nat.le_of_ble_eq_true rfl) dX4_digestPlans_139 (fun r_139 s_139 hf => ?_)
  refine nw_i2l (pc := 142) h dX4_digestPlans_142 ?_
  refine nw_ladd (pc := 143) h dX4_digestPlans_143 ?_
  refine nw_lstore_n (pc := 144) (lv' := [(3, .long (((31 : Int64) * (((31 : Int64) * (((31 : Int64) * (((31 : Int64) * (((31 : Int64) * (((31 : Int64) * (((31 : Int64) * (((31 : Int64) * (((31 : Int64) * (((31 : Int64) * a1) + (Int32.toInt64 r_10))) + (Int32.toInt64 r_24))) + (Int32.toInt64 r_38))) + (Int32.toInt64 r_51))) + (Int32.toInt64 r_64))) + (Int32.toInt64 r_77))) + r_92)) + r_106)) + (Int32.toInt64 r_122))) + (Int32.toInt64 r_139))), (0, .ref (P.2.1 0)), (1, .long a1)]) h dX4_digestPlans_144 rfl (by decide) rfl ?_
  refine nw_lload_n (pc := 145) h dX4_digestPlans_145 rfl 0 rfl ?_
  exact nw_lret (pc := 146) h he dX4_digestPlans_146 ⟨_, rfl, hf⟩
theorem klX4_289 {P : nw_PT} {X : nw_EX} {cc : ByteArray} {nL : Nat} {σ : nw_ST} {lv : List (Nat × Value)} {pc : Nat} {rest : List Value} {a1 : Int32} (h : nw_ok P X cc RX4 nL) (hR : rm4_fault.frames + 1 ≤ X.2.2.2.1.frames ∧ 8 + (2 + 11) + rm4_fault.locals ≤ X.2.2.2.1.locals)  (hst : (rest.map fun v => v.category).sum ≤ 8) (hd : decode cc pc = .ok (.invokevirtual 289, 3)) (k : nw_G P X nL σ lv (pc + 3) (.int (v4_fault σ a1) :: rest)) : nw_G P X nL σ lv pc (.int a1 :: .ref (P.2.1 0) :: rest) :=
  nw_callV (As := [.int a1]) (rest := rest) (C := RX4) (ci := 4) h (ct4_fault _ P h.2.2 σ a1) (nw_goodV nw_w307 nw_w308 nw_w309 nw_w24 nw_w310) yd4_fault rfl hR ⟨rfl, rfl⟩ rfl (by decide) rfl rfl hst rfl hd (fun v s2 z => by obtain ⟨r, rfl, rfl, rfl⟩ := z; exact k)
theorem klX4_292 {P : nw_PT} {X : nw_EX} {cc : ByteArray} {nL : Nat} {σ : nw_ST} {lv : List (Nat × Value)} {pc : Nat} {rest : List Value} {a1 : Int64} (h : nw_ok P X cc RX4 nL) (hR : rm4_digestSwells.frames + 1 ≤ X.2.2.2.1.frames ∧ 8 + (7 + 11) + rm4_digestSwells.locals ≤ X.2.2.2.1.locals)  {K : Int64 → nw_ST → Prop} (hf : f4_digestSwells K σ a1) (hst : (rest.map fun v => v.category).sum ≤ 8) (hd : decode cc pc = .ok (.invokevirtual 292, 3)) (k : ∀ (r : Int64) (s2 : nw_ST), K r s2 → nw_G P X nL s2 lv (pc + 3) (.long r :: rest)) : nw_G P X nL σ lv pc (.long a1 :: .ref (P.2.1 0) :: rest) :=
  nw_callV (As := [.long a1]) (rest := rest) (C := RX4) (ci := 4) h (ct4_digestSwells _ P h.2.2 σ a1 K hf) (nw_goodV nw_w311 nw_w312 nw_w313 nw_w24 nw_w314) yd4_digestSwells rfl hR ⟨rfl, rfl⟩ rfl (by decide) rfl rfl hst rfl hd (fun v s2 z => by obtain ⟨r, rfl, z⟩ := z; exact k r s2 z)
theorem klX4_296 {P : nw_PT} {X : nw_EX} {cc : ByteArray} {nL : Nat} {σ : nw_ST} {lv : List (Nat × Value)} {pc : Nat} {rest : List Value} {a1 : Int64} (h : nw_ok P X cc RX4 nL) (hR : rm4_digestFinds.frames + 1 ≤ X.2.2.2.1.frames ∧ 8 + (7 + 11) + rm4_digestFinds.locals ≤ X.2.2.2.1.locals)  {K : Int64 → nw_ST → Prop} (hf : f4_digestFinds K σ a1) (hst : (rest.map fun v => v.category).sum ≤ 8) (hd : decode cc pc = .ok (.invokevirtual 296, 3)) (k : ∀ (r : Int64) (s2 : nw_ST), K r s2 → nw_G P X nL s2 lv (pc + 3) (.long r :: rest)) : nw_G P X nL σ lv pc (.long a1 :: .ref (P.2.1 0) :: rest) :=
  nw_callV (As := [.long a1]) (rest := rest) (C := RX4) (ci := 4) h (ct4_digestFinds _ P h.2.2 σ a1 K hf) (nw_goodV nw_w315 nw_w316 nw_w317 nw_w24 nw_w318) yd4_digestFinds rfl hR ⟨rfl, rfl⟩ rfl (by decide) rfl rfl hst rfl hd (fun v s2 z => by obtain ⟨r, rfl, z⟩ := z; exact k r s2 z)
theorem klX4_299 {P : nw_PT} {X : nw_EX} {cc : ByteArray} {nL : Nat} {σ : nw_ST} {lv : List (Nat × Value)} {pc : Nat} {rest : List Value} {a1 : Int64} (h : nw_ok P X cc RX4 nL) (hR : rm4_digestTimes.frames + 1 ≤ X.2.2.2.1.frames ∧ 8 + (10 + 11) + rm4_digestTimes.locals ≤ X.2.2.2.1.locals)  {K : Int64 → nw_ST → Prop} (hf : f4_digestTimes K σ a1) (hst : (rest.map fun v => v.category).sum ≤ 8) (hd : decode cc pc = .ok (.invokevirtual 299, 3)) (k : ∀ (r : Int64) (s2 : nw_ST), K r s2 → nw_G P X nL s2 lv (pc + 3) (.long r :: rest)) : nw_G P X nL σ lv pc (.long a1 :: .ref (P.2.1 0) :: rest) :=
  nw_callV (As := [.long a1]) (rest := rest) (C := RX4) (ci := 4) h (ct4_digestTimes _ P h.2.2 σ a1 K hf) (nw_goodV nw_w319 nw_w320 nw_w321 nw_w24 nw_w322) yd4_digestTimes rfl hR ⟨rfl, rfl⟩ rfl (by decide) rfl rfl hst rfl hd (fun v s2 z => by obtain ⟨r, rfl, z⟩ := z; exact k r s2 z)
theorem klX4_302 {P : nw_PT} {X : nw_EX} {cc : ByteArray} {nL : Nat} {σ : nw_ST} {lv : List (Nat × Value)} {pc : Nat} {rest : List Value} {a1 : Int64} (h : nw_ok P X cc RX4 nL) (hR : rm4_digestNumbers.frames + 1 ≤ X.2.2.2.1.frames ∧ 8 + (9 + 11) + rm4_digestNumbers.locals ≤ X.2.2.2.1.locals)  {K : Int64 → nw_ST → Prop} (hf : f4_digestNumbers K σ a1) (hst : (rest.map fun v => v.category).sum ≤ 8) (hd : decode cc pc = .ok (.invokevirtual 302, 3)) (k : ∀ (r : Int64) (s2 : nw_ST), K r s2 → nw_G P X nL s2 lv (pc + 3) (.long r :: rest)) : nw_G P X nL σ lv pc (.long a1 :: .ref (P.2.1 0) :: rest) :=
  nw_callV (As := [.long a1]) (rest := rest) (C := RX4) (ci := 4) h (ct4_digestNumbers _ P h.2.2 σ a1 K hf) (nw_goodV nw_w323 nw_w324 nw_w325 nw_w24 nw_w326) yd4_digestNumbers rfl hR ⟨rfl, rfl⟩ rfl (by decide) rfl rfl hst rfl hd (fun v s2 z => by obtain ⟨r, rfl, z⟩ := z; exact k r s2 z)
theorem klX4_305 {P : nw_PT} {X : nw_EX} {cc : ByteArray} {nL : Nat} {σ : nw_ST} {lv : List (Nat × Value)} {pc : Nat} {rest : List Value} {a1 : Int64} (h : nw_ok P X cc RX4 nL) (hR : rm4_digestTickets.frames + 1 ≤ X.2.2.2.1.frames ∧ 8 + (6 + 11) + rm4_digestTickets.locals ≤ X.2.2.2.1.locals)  {K : Int64 → nw_ST → Prop} (hf : f4_digestTickets K σ a1) (hst : (rest.map fun v => v.category).sum ≤ 8) (hd : decode cc pc = .ok (.invokevirtual 305, 3)) (k : ∀ (r : Int64) (s2 : nw_ST), K r s2 → nw_G P X nL s2 lv (pc + 3) (.long r :: rest)) : nw_G P X nL σ lv pc (.long a1 :: .ref (P.2.1 0) :: rest) :=
  nw_callV (As := [.long a1]) (rest := rest) (C := RX4) (ci := 4) h (ct4_digestTickets _ P h.2.2 σ a1 K hf) (nw_goodV nw_w327 nw_w328 nw_w329 nw_w24 nw_w330) yd4_digestTickets rfl hR ⟨rfl, rfl⟩ rfl (by decide) rfl rfl hst rfl hd (fun v s2 z => by obtain ⟨r, rfl, z⟩ := z; exact k r s2 z)
theorem klX4_308 {P : nw_PT} {X : nw_EX} {cc : ByteArray} {nL : Nat} {σ : nw_ST} {lv : List (Nat × Value)} {pc : Nat} {rest : List Value} {a1 : Int64} (h : nw_ok P X cc RX4 nL) (hR : rm4_digestPlans.frames + 1 ≤ X.2.2.2.1.frames ∧ 8 + (5 + 11) + rm4_digestPlans.locals ≤ X.2.2.2.1.locals)  {K : Int64 → nw_ST → Prop} (hf : f4_digestPlans K σ a1) (hst : (rest.map fun v => v.category).sum ≤ 8) (hd : decode cc pc = .ok (.invokevirtual 308, 3)) (k : ∀ (r : Int64) (s2 : nw_ST), K r s2 → nw_G P X nL s2 lv (pc + 3) (.long r :: rest)) : nw_G P X nL σ lv pc (.long a1 :: .ref (P.2.1 0) :: rest) :=
  nw_callV (As := [.long a1]) (rest := rest) (C := RX4) (ci := 4) h (ct4_digestPlans _ P h.2.2 σ a1 K hf) (nw_goodV nw_w331 nw_w332 nw_w333 nw_w24 nw_w334) yd4_digestPlans rfl hR ⟨rfl, rfl⟩ rfl (by decide) rfl rfl hst rfl hd (fun v s2 z => by obtain ⟨r, rfl, z⟩ := z; exact k r s2 z)
theorem klX4_286 {P : nw_PT} {X : nw_EX} {cc : ByteArray} {nL : Nat} {σ : nw_ST} {lv : List (Nat × Value)} {pc : Nat} {rest : List Value} {a1 : Int32} (h : nw_ok P X cc RX4 nL) (hR : rm4_count.frames + 1 ≤ X.2.2.2.1.frames ∧ 8 + (2 + 11) + rm4_count.locals ≤ X.2.2.2.1.locals)  {K : Int32 → nw_ST → Prop} (hf : f4_count K σ a1) (hst : (rest.map fun v => v.category).sum ≤ 8) (hd : decode cc pc = .ok (.invokevirtual 286, 3)) (k : ∀ (r : Int32) (s2 : nw_ST), K r s2 → nw_G P X nL s2 lv (pc + 3) (.int r :: rest)) : nw_G P X nL σ lv pc (.int a1 :: .ref (P.2.1 0) :: rest) :=
  nw_callV (As := [.int a1]) (rest := rest) (C := RX4) (ci := 4) h (ct4_count _ P h.2.2 σ a1 K hf) (nw_goodV nw_w335 nw_w336 nw_w337 nw_w24 nw_w338) yd4_count rfl hR ⟨rfl, rfl⟩ rfl (by decide) rfl rfl hst rfl hd (fun v s2 z => by obtain ⟨r, rfl, z⟩ := z; exact k r s2 z)
def b4_digest_6 (K : Int64 → nw_ST → Prop) (H_6 : nw_ST → Int64 → Int32 → Prop) (σ : nw_ST) (x1 : Int64) (x3 : Int32) : Prop := ((((7 : Int32) < x3) → (f4_digestSwells (fun (r_59 : Int64) (s_59 : nw_ST) => (f4_digestFinds (fun (r_65 : Int64) (s_65 : nw_ST) => (f4_digestTimes (fun (r_71 : Int64) (s_71 : nw_ST) => (f4_digestNumbers (fun (r_77 : Int64) (s_77 : nw_ST) => (f4_digestTickets (fun (r_83 : Int64) (s_83 : nw_ST) => (f4_digestPlans (fun (r_89 : Int64) (s_89 : nw_ST) => (K r_89 s_89)) s_83 r_83)) s_77 r_77)) s_71 r_71)) s_65 r_65)) s_59 r_59)) σ (((31 : Int64) * (((31 : Int64) * x1) + (Int32.toInt64 (v4_fault σ (0 : Int32))))) + (Int32.toInt64 (v4_fault σ (1 : Int32)))))) ∧ (¬ ((7 : Int32) < x3) → (f4_count (fun (r_19 : Int32) (s_19 : nw_ST) => (H_6 s_19 (((31 : Int64) * x1) + (Int32.toInt64 r_19)) (x3 + (1 : Int32)))) σ x3)))
def f4_digest_6 (K : Int64 → nw_ST → Prop) : Nat → nw_ST → Int64 → Int32 → Prop
  | 0 => fun _ _ _ => False
  | n + 1 => b4_digest_6 K (f4_digest_6 K n)
def f4_digest (K : Int64 → nw_ST → Prop) (σ : nw_ST)  : Prop := (∃ n, f4_digest_6 K n σ (17 : Int64) (0 : Int32))
def rm4_digest : Room := { frames := 6, cells := 0, slots := 0, locals := 148 }
theorem yd4_digest : yX4_digest.cls = RX4 ∧ yX4_digest.cls ≠ "java/lang/invoke/MethodHandle" ∧ yX4_digest.cls ≠ "java/lang/invoke/VarHandle" ∧ (parseMethodDescriptor yX4_digest.desc).map (fun d => d.parameters.length) = some 0 := by decide +kernel
set_option maxHeartbeats 4000000 in
set_option maxRecDepth 100000 in
theorem ct4_digest (l : Launch) (P : nw_PT) (hD : nw_D P) (σ : nw_ST)   (K : Int64 → nw_ST → Prop) (hf : f4_digest K σ ) : nw_MT l yX4_digest cX4_digest 4 (some .long) rm4_digest P [.ref (P.2.1 0)] σ (nw_Kl K) := by
  refine nw_enter (by decide) (by first | decide | exact Nat.le_of_ble_eq_true rfl) hD ?_
  intro X hl h he hR
  subst hl
  have h : nw_ok P X cX4_digest RX4 4 := h
  show nw_G P X 4 σ [(0, .ref (P.2.1 0))] 0 []
  have hB_6 : ∀ (H_6 : nw_ST → Int64 → Int32 → Prop) (hH_6 : (∀ (σ : nw_ST) (x1 : Int64) (x3 : Int32), H_6 σ x1 x3 → nw_G P X 4 σ [(0, .ref (P.2.1 0)), (1, .long x1), (3, .int x3)] 6 [])), ∀ (σ : nw_ST) (x1 : Int64) (x3 : Int32), b4_digest_6 K H_6 σ x1 x3 → nw_G P X 4 σ [(0, .ref (P.2.1 0)), (1, .long x1), (3, .int x3)] 6 [] := by
    intro H_6 hH_6 σ x1 x3 hf
    unfold b4_digest_6 at hf
    refine nw_iload_n (pc := 6) h dX4_digest_6 rfl 2 rfl ?_
    refine nw_bipush (pc := 7) (v := 7) h dX4_digest_7 (by decide) ?_
    refine nw_icmp_gt (pc := 9) (tgt := 31) h dX4_digest_9 (by decide) (fun c_9 => ?_) (fun c_9 => ?_)
    · have hf := hf.1 c_9
      refine nw_ldc2 (pc := 31) h nw_w231 dX4_digest_31 ?_
      refine nw_lload_n (pc := 34) h dX4_digest_34 rfl 1 rfl ?_
      refine nw_lmul (pc := 35) h dX4_digest_35 ?_
      refine nw_aload_n (pc := 36) h dX4_digest_36 rfl 0 rfl ?_
      refine nw_iconst (pc := 37) (v := 0) h dX4_digest_37 (by decide) ?_
      refine klX4_289 (pc := 38) h (by rw [hR]; decide) (Nat.le_of_ble_eq_true rfl) dX4_digest_38 ?_
      refine nw_i2l (pc := 41) h dX4_digest_41 ?_
      refine nw_ladd (pc := 42) h dX4_digest_42 ?_
      refine nw_lstore_n (pc := 43) (lv' := [(1, .long (((31 : Int64) * x1) + (Int32.toInt64 (v4_fault σ (0 : Int32))))), (0, .ref (P.2.1 0)), (3, .int x3)]) h dX4_digest_43 rfl (by decide) rfl ?_
      refine nw_ldc2 (pc := 44) h nw_w231 dX4_digest_44 ?_
      refine nw_lload_n (pc := 47) h dX4_digest_47 rfl 0 rfl ?_
      refine nw_lmul (pc := 48) h dX4_digest_48 ?_
      refine nw_aload_n (pc := 49) h dX4_digest_49 rfl 1 rfl ?_
      refine nw_iconst (pc := 50) (v := 1) h dX4_digest_50 (by decide) ?_
      refine klX4_289 (pc := 51) h (by rw [hR]; decide) (Nat.le_of_ble_eq_true rfl) dX4_digest_51 ?_
      refine nw_i2l (pc := 54) h dX4_digest_54 ?_
      refine nw_ladd (pc := 55) h dX4_digest_55 ?_
      refine nw_lstore_n (pc := 56) (lv' := [(1, .long (((31 : Int64) * (((31 : Int64) * x1) + (Int32.toInt64 (v4_fault σ (0 : Int32))))) + (Int32.toInt64 (v4_fault σ (1 : Int32))))), (0, .ref (P.2.1 0)), (3, .int x3)]) h dX4_digest_56 rfl (by decide) rfl ?_
      refine nw_aload_n (pc := 57) h dX4_digest_57 rfl 1 rfl ?_
      refine nw_lload_n (pc := 58) h dX4_digest_58 rfl 0 rfl ?_
      refine klX4_292 (pc := 59) h (by rw [hR]; decide) hf (Nat.le_of_ble_eq_true rfl) dX4_digest_59 (fun r_59 s_59 hf => ?_)
      refine nw_lstore_n (pc := 62) (lv' := [(1, .long r_59), (0, .ref (P.2.1 0)), (3, .int x3)]) h dX4_digest_62 rfl (by decide) rfl ?_
      refine nw_aload_n (pc := 63) h dX4_digest_63 rfl 1 rfl ?_
      refine nw_lload_n (pc := 64) h dX4_digest_64 rfl 0 rfl ?_
      refine klX4_296 (pc := 65) h (by rw [hR]; decide) hf (Nat.le_of_ble_eq_true rfl) dX4_digest_65 (fun r_65 s_65 hf => ?_)
      refine nw_lstore_n (pc := 68) (lv' := [(1, .long r_65), (0, .ref (P.2.1 0)), (3, .int x3)]) h dX4_digest_68 rfl (by decide) rfl ?_
      refine nw_aload_n (pc := 69) h dX4_digest_69 rfl 1 rfl ?_
      refine nw_lload_n (pc := 70) h dX4_digest_70 rfl 0 rfl ?_
      refine klX4_299 (pc := 71) h (by rw [hR]; decide) hf (Nat.le_of_ble_eq_true rfl) dX4_digest_71 (fun r_71 s_71 hf => ?_)
      refine nw_lstore_n (pc := 74) (lv' := [(1, .long r_71), (0, .ref (P.2.1 0)), (3, .int x3)]) h dX4_digest_74 rfl (by decide) rfl ?_
      refine nw_aload_n (pc := 75) h dX4_digest_75 rfl 1 rfl ?_
      refine nw_lload_n (pc := 76) h dX4_digest_76 rfl 0 rfl ?_
      refine klX4_302 (pc := 77) h (by rw [hR]; decide) hf (Nat.le_of_ble_eq_true rfl) dX4_digest_77 (fun r_77 s_77 hf => ?_)
      refine nw_lstore_n (pc := 80) (lv' := [(1, .long r_77), (0, .ref (P.2.1 0)), (3, .int x3)]) h dX4_digest_80 rfl (by decide) rfl ?_
      refine nw_aload_n (pc := 81) h dX4_digest_81 rfl 1 rfl ?_
      refine nw_lload_n (pc := 82) h dX4_digest_82 rfl 0 rfl ?_
      refine klX4_305 (pc := 83) h (by rw [hR]; decide) hf (Nat.le_of_ble_eq_true rfl) dX4_digest_83 (fun r_83 s_83 hf => ?_)
      refine nw_lstore_n (pc := 86) (lv' := [(1, .long r_83), (0, .ref (P.2.1 0)), (3, .int x3)]) h dX4_digest_86 rfl (by decide) rfl ?_
      refine nw_aload_n (pc := 87) h dX4_digest_87 rfl 1 rfl ?_
      refine nw_lload_n (pc := 88) h dX4_digest_88 rfl 0 rfl ?_
      refine klX4_308 (pc := 89) h (by rw [hR]; decide) hf (Nat.le_of_ble_eq_true rfl) dX4_digest_89 (fun r_89 s_89 hf => ?_)
      exact nw_lret (pc := 92) h he dX4_digest_92 ⟨_, rfl, hf⟩
    · have hf := hf.2 c_9
      refine nw_ldc2 (pc := 12) h nw_w231 dX4_digest_12 ?_
      refine nw_lload_n (pc := 15) h dX4_digest_15 rfl 1 rfl ?_
      refine nw_lmul (pc := 16) h dX4_digest_16 ?_
      refine nw_aload_n (pc := 17) h dX4_digest_17 rfl 0 rfl ?_
      refine nw_iload_n (pc := 18) h dX4_digest_18 rfl 2 rfl ?_
      refine klX4_286 (pc := 19) h (by rw [hR]; decide) hf (Nat.le_of_ble_eq_true rfl) dX4_digest_19 (fun r_19 s_19 hf => ?_)
      refine nw_i2l (pc := 22) h dX4_digest_22 ?_
      refine nw_ladd (pc := 23) h dX4_digest_23 ?_
      refine nw_lstore_n (pc := 24) (lv' := [(1, .long (((31 : Int64) * x1) + (Int32.toInt64 r_19))), (0, .ref (P.2.1 0)), (3, .int x3)]) h dX4_digest_24 rfl (by decide) rfl ?_
      refine nw_iinc (pc := 25) (v := (x3 + (1 : Int32))) (lv' := [(3, .int (x3 + (1 : Int32))), (1, .long (((31 : Int64) * x1) + (Int32.toInt64 r_19))), (0, .ref (P.2.1 0))]) h dX4_digest_25 (j := 2) rfl rfl (by decide) rfl ?_
      refine nw_goto (pc := 28) (tgt := 6) h dX4_digest_28 (by decide) ?_
      refine nw_sub (lv' := [(0, .ref (P.2.1 0)), (1, .long (((31 : Int64) * x1) + (Int32.toInt64 r_19))), (3, .int (x3 + (1 : Int32)))]) [2, 1, 0] rfl ?_
      exact hH_6 _ _ _ (hf)
  have hL_6 :  ∀ (n : Nat) (σ : nw_ST) (x1 : Int64) (x3 : Int32), f4_digest_6 K n σ x1 x3 → nw_G P X 4 σ [(0, .ref (P.2.1 0)), (1, .long x1), (3, .int x3)] 6 [] := by
    intro n
    induction n with
    | zero => intro σ x1 x3 hf; exact False.elim hf
    | succ n ih => exact hB_6 _ ih
  unfold f4_digest at hf
  refine nw_ldc2 (pc := 0) h nw_w306 dX4_digest_0 ?_
  refine nw_lstore_n (pc := 3) (lv' := [(1, .long (17 : Int64)), (0, .ref (P.2.1 0))]) h dX4_digest_3 rfl (by decide) rfl ?_
  refine nw_iconst (pc := 4) (v := 0) h dX4_digest_4 (by decide) ?_
  refine nw_istore_n (pc := 5) (lv' := [(3, .int (0 : Int32)), (1, .long (17 : Int64)), (0, .ref (P.2.1 0))]) h dX4_digest_5 rfl (by decide) rfl ?_
  obtain ⟨n_6, hf⟩ := hf
  refine nw_sub (lv' := [(0, .ref (P.2.1 0)), (1, .long (17 : Int64)), (3, .int (0 : Int32))]) [2, 1, 0] rfl ?_
  exact hL_6 n_6 _ _ _ hf
