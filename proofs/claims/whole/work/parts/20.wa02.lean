def f4_worthOf_80 (K : Int32 → nw_ST → Prop) (σ : nw_ST) (x3 : Int32) : Prop := (K x3 σ)
def f4_worthOf_43 (K : Int32 → nw_ST → Prop) (σ : nw_ST) (x2 : Int32) (x3 : Int32) : Prop := ((vp_in (x2 - (1 : Int32)) 401) ∧ ((((nw_gA σ 25 (x2 - (1 : Int32)).toNatClampNeg) = (-1 : Int32)) → (f4_worthOf_80 K σ x3)) ∧ (¬ ((nw_gA σ 25 (x2 - (1 : Int32)).toNatClampNeg) = (-1 : Int32)) → ((o3_isDouble σ (nw_gA σ 25 (x2 - (1 : Int32)).toNatClampNeg)) ∧ ((((v3_isDouble σ (nw_gA σ 25 (x2 - (1 : Int32)).toNatClampNeg)) = 0) → (f4_worthOf_80 K σ x3)) ∧ (¬ ((v3_isDouble σ (nw_gA σ 25 (x2 - (1 : Int32)).toNatClampNeg)) = 0) → (f4_valueOf (fun (r_73 : Int32) (s_73 : nw_ST) => (f4_worthOf_80 K s_73 (x3 + (r_73 / (2 : Int32))))) σ (x2 - (1 : Int32)))))))))
def f4_worthOf_41 (K : Int32 → nw_ST → Prop) (σ : nw_ST) (x2 : Int32) (y0 : Int32) (y1 : Int32) : Prop := (f4_worthOf_43 K σ x2 (y1 + y0))
def f4_worthOf (K : Int32 → nw_ST → Prop) (σ : nw_ST) (a2 : Int32) : Prop := ((vp_in a2 401) ∧ ((((nw_gA σ 25 a2.toNatClampNeg) = (-1 : Int32)) → (f4_worthOf_43 K σ a2 (0 : Int32))) ∧ (¬ ((nw_gA σ 25 a2.toNatClampNeg) = (-1 : Int32)) → ((o3_isDouble σ (nw_gA σ 25 a2.toNatClampNeg)) ∧ ((((v3_isDouble σ (nw_gA σ 25 a2.toNatClampNeg)) = 0) → (f4_valueOf (fun (r_38 : Int32) (s_38 : nw_ST) => (f4_worthOf_41 K s_38 a2 r_38 (0 : Int32))) σ a2)) ∧ (¬ ((v3_isDouble σ (nw_gA σ 25 a2.toNatClampNeg)) = 0) → (f4_valueOf (fun (r_28 : Int32) (s_28 : nw_ST) => (f4_worthOf_41 K s_28 a2 (r_28 / (2 : Int32)) (0 : Int32))) σ a2)))))))
def rm4_worthOf : Room := { frames := 2, cells := 0, slots := 0, locals := 46 }
theorem yd4_worthOf : yX4_worthOf.cls = RX4 ∧ yX4_worthOf.cls ≠ "java/lang/invoke/MethodHandle" ∧ yX4_worthOf.cls ≠ "java/lang/invoke/VarHandle" ∧ (parseMethodDescriptor yX4_worthOf.desc).map (fun d => d.parameters.length) = some 2 := by decide +kernel
set_option maxHeartbeats 4000000 in
set_option maxRecDepth 100000 in
theorem ct4_worthOf (l : Launch) (P : nw_PT) (hD : nw_D P) (σ : nw_ST) (a2 : Int32)  (K : Int32 → nw_ST → Prop) (hf : f4_worthOf K σ a2) : nw_MT l yX4_worthOf cX4_worthOf 6 (some .int) rm4_worthOf P [.ref (P.2.1 0), .ref (P.2.1 19), .int a2] σ (nw_Ki K) := by
  refine nw_enter (by decide) (by first | decide | exact Nat.le_of_ble_eq_true rfl) hD ?_
  intro X hl h he hR
  subst hl
  have h : nw_ok P X cX4_worthOf RX4 6 := h
  show nw_G P X 6 σ [(0, .ref (P.2.1 0)), (1, .ref (P.2.1 19)), (2, .int a2)] 0 []
  have hL_80 :  ∀ (σ : nw_ST) (x3 : Int32), f4_worthOf_80 K σ x3 → nw_G P X 6 σ [(3, .int x3)] 80 [] := by
    intro σ x3 hf
    unfold f4_worthOf_80 at hf
    refine nw_iload_n (pc := 80) h dX4_worthOf_80 rfl 0 rfl ?_
    exact nw_iret (pc := 81) h he dX4_worthOf_81 ⟨_, rfl, hf⟩
  have hL_43 :  ∀ (σ : nw_ST) (x2 : Int32) (x3 : Int32), f4_worthOf_43 K σ x2 x3 → nw_G P X 6 σ [(0, .ref (P.2.1 0)), (1, .ref (P.2.1 19)), (2, .int x2), (3, .int x3)] 43 [] := by
    intro σ x2 x3 hf
    unfold f4_worthOf_43 at hf
    refine nw_aload_n (pc := 43) h dX4_worthOf_43 rfl 1 rfl ?_
    refine gf4_159 (pc := 44) (r := 25) h rfl rfl dX4_worthOf_44 ?_
    refine nw_iload_n (pc := 47) h dX4_worthOf_47 rfl 2 rfl ?_
    refine nw_iconst (pc := 48) (v := 1) h dX4_worthOf_48 (by decide) ?_
    refine nw_isub (pc := 49) h dX4_worthOf_49 ?_
    obtain ⟨h_50, hf⟩ := hf
    refine nw_iald (pc := 50) (n := 401) h rfl rfl h_50 dX4_worthOf_50 ?_
    refine nw_istore (pc := 51) (lv' := [(5, .int (nw_gA σ 25 (x2 - (1 : Int32)).toNatClampNeg)), (0, .ref (P.2.1 0)), (1, .ref (P.2.1 19)), (2, .int x2), (3, .int x3)]) h dX4_worthOf_51 (by decide) rfl ?_
    refine nw_iload (pc := 53) h dX4_worthOf_53 0 rfl ?_
    refine nw_iconst (pc := 55) (v := -1) h dX4_worthOf_55 (by decide) ?_
    refine nw_icmp_eq (pc := 56) (tgt := 80) h dX4_worthOf_56 (by decide) (fun c_56 => ?_) (fun c_56 => ?_)
    · have hf := hf.1 c_56
      refine nw_sub (lv' := [(3, .int x3)]) [4] rfl ?_
      exact hL_80 _ _ (hf)
    · have hf := hf.2 c_56
      refine nw_aload_n (pc := 59) h dX4_worthOf_59 rfl 2 rfl ?_
      refine nw_iload (pc := 60) h dX4_worthOf_60 0 rfl ?_
      obtain ⟨h_62, hf⟩ := hf
      refine klX4_153 (pc := 62) h (by rw [hR]; decide) h_62 (Nat.le_of_ble_eq_true rfl) dX4_worthOf_62 ?_
      refine nw_if_eq (pc := 65) (tgt := 80) h dX4_worthOf_65 (by decide) (fun c_65 => ?_) (fun c_65 => ?_)
      · have hf := hf.1 c_65
        refine nw_sub (lv' := [(3, .int x3)]) [4] rfl ?_
        exact hL_80 _ _ (hf)
      · have hf := hf.2 c_65
        refine nw_iload_n (pc := 68) h dX4_worthOf_68 rfl 4 rfl ?_
        refine nw_aload_n (pc := 69) h dX4_worthOf_69 rfl 1 rfl ?_
        refine nw_iload_n (pc := 70) h dX4_worthOf_70 rfl 3 rfl ?_
        refine nw_iconst (pc := 71) (v := 1) h dX4_worthOf_71 (by decide) ?_
        refine nw_isub (pc := 72) h dX4_worthOf_72 ?_
        refine klX4_165 (pc := 73) h (by rw [hR]; decide) hf (Nat.le_of_ble_eq_true rfl) dX4_worthOf_73 (fun r_73 s_73 hf => ?_)
        refine nw_iconst (pc := 76) (v := 2) h dX4_worthOf_76 (by decide) ?_
        refine nw_idiv (pc := 77) h dX4_worthOf_77 (by decide) ?_
        refine nw_iadd (pc := 78) h dX4_worthOf_78 ?_
        refine nw_istore_n (pc := 79) (lv' := [(3, .int (x3 + (r_73 / (2 : Int32)))), (5, .int (nw_gA σ 25 (x2 - (1 : Int32)).toNatClampNeg)), (0, .ref (P.2.1 0)), (1, .ref (P.2.1 19)), (2, .int x2)]) h dX4_worthOf_79 rfl (by decide) rfl ?_
        refine nw_sub (lv' := [(3, .int (x3 + (r_73 / (2 : Int32))))]) [0] rfl ?_
        exact hL_80 _ _ (hf)
  have hL_41 :  ∀ (σ : nw_ST) (x2 : Int32) (y0 : Int32) (y1 : Int32), f4_worthOf_41 K σ x2 y0 y1 → nw_G P X 6 σ [(0, .ref (P.2.1 0)), (1, .ref (P.2.1 19)), (2, .int x2)] 41 [.int y0, .int y1] := by
    intro σ x2 y0 y1 hf
    unfold f4_worthOf_41 at hf
    refine nw_iadd (pc := 41) h dX4_worthOf_41 ?_
    refine nw_istore_n (pc := 42) (lv' := [(3, .int (y1 + y0)), (0, .ref (P.2.1 0)), (1, .ref (P.2.1 19)), (2, .int x2)]) h dX4_worthOf_42 rfl (by decide) rfl ?_
    refine nw_sub (lv' := [(0, .ref (P.2.1 0)), (1, .ref (P.2.1 19)), (2, .int x2), (3, .int (y1 + y0))]) [1, 2, 3, 0] rfl ?_
    exact hL_43 _ _ _ (hf)
  unfold f4_worthOf at hf
  refine nw_iconst (pc := 0) (v := 0) h dX4_worthOf_0 (by decide) ?_
  refine nw_istore_n (pc := 1) (lv' := [(3, .int (0 : Int32)), (0, .ref (P.2.1 0)), (1, .ref (P.2.1 19)), (2, .int a2)]) h dX4_worthOf_1 rfl (by decide) rfl ?_
  refine nw_aload_n (pc := 2) h dX4_worthOf_2 rfl 2 rfl ?_
  refine gf4_159 (pc := 3) (r := 25) h rfl rfl dX4_worthOf_3 ?_
  refine nw_iload_n (pc := 6) h dX4_worthOf_6 rfl 3 rfl ?_
  obtain ⟨h_7, hf⟩ := hf
  refine nw_iald (pc := 7) (n := 401) h rfl rfl h_7 dX4_worthOf_7 ?_
  refine nw_istore (pc := 8) (lv' := [(4, .int (nw_gA σ 25 a2.toNatClampNeg)), (3, .int (0 : Int32)), (0, .ref (P.2.1 0)), (1, .ref (P.2.1 19)), (2, .int a2)]) h dX4_worthOf_8 (by decide) rfl ?_
  refine nw_iload (pc := 10) h dX4_worthOf_10 0 rfl ?_
  refine nw_iconst (pc := 12) (v := -1) h dX4_worthOf_12 (by decide) ?_
  refine nw_icmp_eq (pc := 13) (tgt := 43) h dX4_worthOf_13 (by decide) (fun c_13 => ?_) (fun c_13 => ?_)
  · have hf := hf.1 c_13
    refine nw_sub (lv' := [(0, .ref (P.2.1 0)), (1, .ref (P.2.1 19)), (2, .int a2), (3, .int (0 : Int32))]) [2, 3, 4, 1] rfl ?_
    exact hL_43 _ _ _ (hf)
  · have hf := hf.2 c_13
    refine nw_iload_n (pc := 16) h dX4_worthOf_16 rfl 1 rfl ?_
    refine nw_aload_n (pc := 17) h dX4_worthOf_17 rfl 3 rfl ?_
    refine nw_iload (pc := 18) h dX4_worthOf_18 0 rfl ?_
    obtain ⟨h_20, hf⟩ := hf
    refine klX4_153 (pc := 20) h (by rw [hR]; decide) h_20 (Nat.le_of_ble_eq_true rfl) dX4_worthOf_20 ?_
    refine nw_if_eq (pc := 23) (tgt := 36) h dX4_worthOf_23 (by decide) (fun c_23 => ?_) (fun c_23 => ?_)
    · have hf := hf.1 c_23
      refine nw_aload_n (pc := 36) h dX4_worthOf_36 rfl 2 rfl ?_
      refine nw_iload_n (pc := 37) h dX4_worthOf_37 rfl 4 rfl ?_
      refine klX4_165 (pc := 38) h (by rw [hR]; decide) hf (Nat.le_of_ble_eq_true rfl) dX4_worthOf_38 (fun r_38 s_38 hf => ?_)
      refine nw_sub (lv' := [(0, .ref (P.2.1 0)), (1, .ref (P.2.1 19)), (2, .int a2)]) [2, 3, 4] rfl ?_
      exact hL_41 _ _ _ _ (hf)
    · have hf := hf.2 c_23
      refine nw_aload_n (pc := 26) h dX4_worthOf_26 rfl 2 rfl ?_
      refine nw_iload_n (pc := 27) h dX4_worthOf_27 rfl 4 rfl ?_
      refine klX4_165 (pc := 28) h (by rw [hR]; decide) hf (Nat.le_of_ble_eq_true rfl) dX4_worthOf_28 (fun r_28 s_28 hf => ?_)
      refine nw_iconst (pc := 31) (v := 2) h dX4_worthOf_31 (by decide) ?_
      refine nw_idiv (pc := 32) h dX4_worthOf_32 (by decide) ?_
      refine nw_goto (pc := 33) (tgt := 41) h dX4_worthOf_33 (by decide) ?_
      refine nw_sub (lv' := [(0, .ref (P.2.1 0)), (1, .ref (P.2.1 19)), (2, .int a2)]) [2, 3, 4] rfl ?_
      exact hL_41 _ _ _ _ (hf)
theorem gf4_172 {P : nw_PT} {X : nw_EX} {cc : ByteArray} {nL : Nat} {σ : nw_ST} {lv : List (Nat × Value)} {pc : Nat} {st : List Value} {q : Nat} (h : nw_ok P X cc RX4 nL) (hq : nw_cl q = 0) {r : Nat} (hr : nw_rf q 1 = r) (hd : decode cc pc = .ok (.getfield 172, 3)) (k : nw_G P X nL σ lv (pc + 3) (.ref (P.2.1 r) :: st)) : nw_G P X nL σ lv pc (.ref (P.2.1 q) :: st) := by
  subst hr; intro H locs ls h1 h2 h3
  exact va_getN (D := P.1) (ci := 0) (C := RX0) (T := TX0) (N := 3) h.1.1 h.1.2.1 h.1.2.2.2.2 in_T0 h.1.2.2.2.1 h.2.1.1 h1 q (nw_at0 hq) rfl 1 (by decide) (va_Nw.use rfl (h.2.1.2.1 ("NumberedWaves", 172, "NumberedWaves$Pairs", "second", "[I", "NumberedWaves") (by decide +kernel))) (fun _ z => z) rfl hd (k H locs ls h1 h2 h3)
theorem gf4_377 {P : nw_PT} {X : nw_EX} {cc : ByteArray} {nL : Nat} {σ : nw_ST} {lv : List (Nat × Value)} {pc : Nat} {st : List Value} {q : Nat} (h : nw_ok P X cc RX4 nL) (hq : nw_cl q = 0) {r : Nat} (hr : nw_rf q 0 = r) (hd : decode cc pc = .ok (.getfield 377, 3)) (k : nw_G P X nL σ lv (pc + 3) (.ref (P.2.1 r) :: st)) : nw_G P X nL σ lv pc (.ref (P.2.1 q) :: st) := by
  subst hr; intro H locs ls h1 h2 h3
  exact va_getN (D := P.1) (ci := 0) (C := RX0) (T := TX0) (N := 3) h.1.1 h.1.2.1 h.1.2.2.2.2 in_T0 h.1.2.2.2.1 h.2.1.1 h1 q (nw_at0 hq) rfl 0 (by decide) (va_Nw.use rfl (h.2.1.2.1 ("NumberedWaves", 377, "NumberedWaves$Pairs", "first", "[I", "NumberedWaves") (by decide +kernel))) (fun _ z => z) rfl hd (k H locs ls h1 h2 h3)
theorem klX4_175 {P : nw_PT} {X : nw_EX} {cc : ByteArray} {nL : Nat} {σ : nw_ST} {lv : List (Nat × Value)} {pc : Nat} {rest : List Value} {q0 : Nat} {a1 : Int32} (h : nw_ok P X cc RX4 nL) (hR : rm0_firstWithSecond.frames + 1 ≤ X.2.2.2.1.frames ∧ 8 + (3 + 11) + rm0_firstWithSecond.locals ≤ X.2.2.2.1.locals) (hc_q0 : nw_cl q0 = 0) {K : Int32 → nw_ST → Prop} (hf : f0_firstWithSecond K σ q0 a1) (hst : (rest.map fun v => v.category).sum ≤ 8) (hd : decode cc pc = .ok (.invokevirtual 175, 3)) (k : ∀ (r : Int32) (s2 : nw_ST), K r s2 → nw_G P X nL s2 lv (pc + 3) (.int r :: rest)) : nw_G P X nL σ lv pc (.int a1 :: .ref (P.2.1 q0) :: rest) :=
  nw_callV (As := [.int a1]) (rest := rest) (C := RX0) (ci := 0) h (ct0_firstWithSecond _ P h.2.2 σ q0 a1 hc_q0 K hf) (nw_goodV nw_w132 nw_w133 nw_w134 nw_w56 nw_w135) yd0_firstWithSecond rfl hR ⟨rfl, rfl⟩ hc_q0 (by decide) rfl rfl hst rfl hd (fun v s2 z => by obtain ⟨r, rfl, z⟩ := z; exact k r s2 z)
theorem klX4_210 {P : nw_PT} {X : nw_EX} {cc : ByteArray} {nL : Nat} {σ : nw_ST} {lv : List (Nat × Value)} {pc : Nat} {rest : List Value} {a2 : Int32} (h : nw_ok P X cc RX4 nL) (hR : rm4_worthOf.frames + 1 ≤ X.2.2.2.1.frames ∧ 8 + (6 + 11) + rm4_worthOf.locals ≤ X.2.2.2.1.locals)  {K : Int32 → nw_ST → Prop} (hf : f4_worthOf K σ a2) (hst : (rest.map fun v => v.category).sum ≤ 8) (hd : decode cc pc = .ok (.invokevirtual 210, 3)) (k : ∀ (r : Int32) (s2 : nw_ST), K r s2 → nw_G P X nL s2 lv (pc + 3) (.int r :: rest)) : nw_G P X nL σ lv pc (.int a2 :: .ref (P.2.1 19) :: .ref (P.2.1 0) :: rest) :=
  nw_callV (As := [.ref (P.2.1 19), .int a2]) (rest := rest) (C := RX4) (ci := 4) h (ct4_worthOf _ P h.2.2 σ a2 K hf) (nw_goodV nw_w136 nw_w137 nw_w138 nw_w24 nw_w139) yd4_worthOf rfl hR ⟨rfl, rfl⟩ rfl (by decide) rfl rfl hst rfl hd (fun v s2 z => by obtain ⟨r, rfl, z⟩ := z; exact k r s2 z)
def f4_claimsBy_67 (K : Int32 → nw_ST → Prop) (H_5 : nw_ST → Int32 → Int32 → Int32 → Prop) (σ : nw_ST) (x2 : Int32) (x3 : Int32) (x4 : Int32) : Prop := (H_5 σ x2 x3 (x4 + (1 : Int32)))
def b4_claimsBy_5 (K : Int32 → nw_ST → Prop) (H_5 : nw_ST → Int32 → Int32 → Int32 → Prop) (σ : nw_ST) (x2 : Int32) (x3 : Int32) (x4 : Int32) : Prop := ((((nw_gS σ 13 2) ≤ x4) → (K x3 σ)) ∧ (¬ ((nw_gS σ 13 2) ≤ x4) → ((vp_in x4 12) ∧ ((vp_in x4 12) ∧ ((((nw_gA σ 14 x4.toNatClampNeg) = x2) → (f0_firstWithSecond (fun (r_49 : Int32) (s_49 : nw_ST) => (((r_49 = x4) → (f4_worthOf (fun (r_62 : Int32) (s_62 : nw_ST) => (f4_claimsBy_67 K H_5 s_62 x2 (x3 + r_62) x4)) s_49 (nw_gA σ 15 x4.toNatClampNeg))) ∧ (¬ (r_49 = x4) → (f4_claimsBy_67 K H_5 s_49 x2 x3 x4)))) σ 13 (nw_gA σ 15 x4.toNatClampNeg))) ∧ (¬ ((nw_gA σ 14 x4.toNatClampNeg) = x2) → (f4_claimsBy_67 K H_5 σ x2 x3 x4)))))))
def f4_claimsBy_5 (K : Int32 → nw_ST → Prop) : Nat → nw_ST → Int32 → Int32 → Int32 → Prop
  | 0 => fun _ _ _ _ => False
  | n + 1 => b4_claimsBy_5 K (f4_claimsBy_5 K n)
def f4_claimsBy (K : Int32 → nw_ST → Prop) (σ : nw_ST) (a2 : Int32) : Prop := (∃ n, f4_claimsBy_5 K n σ a2 (0 : Int32) (0 : Int32))
def rm4_claimsBy : Room := { frames := 3, cells := 0, slots := 0, locals := 71 }
theorem yd4_claimsBy : yX4_claimsBy.cls = RX4 ∧ yX4_claimsBy.cls ≠ "java/lang/invoke/MethodHandle" ∧ yX4_claimsBy.cls ≠ "java/lang/invoke/VarHandle" ∧ (parseMethodDescriptor yX4_claimsBy.desc).map (fun d => d.parameters.length) = some 2 := by decide +kernel
set_option maxHeartbeats 4000000 in
set_option maxRecDepth 100000 in
theorem ct4_claimsBy (l : Launch) (P : nw_PT) (hD : nw_D P) (σ : nw_ST) (a2 : Int32)  (K : Int32 → nw_ST → Prop) (hf : f4_claimsBy K σ a2) : nw_MT l yX4_claimsBy cX4_claimsBy 6 (some .int) rm4_claimsBy P [.ref (P.2.1 0), .ref (P.2.1 19), .int a2] σ (nw_Ki K) := by
  refine nw_enter (by decide) (by first | decide | exact Nat.le_of_ble_eq_true rfl) hD ?_
  intro X hl h he hR
  subst hl
  have h : nw_ok P X cX4_claimsBy RX4 6 := h
  show nw_G P X 6 σ [(0, .ref (P.2.1 0)), (1, .ref (P.2.1 19)), (2, .int a2)] 0 []
  have hL_67 : ∀ (H_5 : nw_ST → Int32 → Int32 → Int32 → Prop) (hH_5 : (∀ (σ : nw_ST) (x2 : Int32) (x3 : Int32) (x4 : Int32), H_5 σ x2 x3 x4 → nw_G P X 6 σ [(0, .ref (P.2.1 0)), (1, .ref (P.2.1 19)), (2, .int x2), (3, .int x3), (4, .int x4)] 5 [])), ∀ (σ : nw_ST) (x2 : Int32) (x3 : Int32) (x4 : Int32), f4_claimsBy_67 K H_5 σ x2 x3 x4 → nw_G P X 6 σ [(0, .ref (P.2.1 0)), (1, .ref (P.2.1 19)), (2, .int x2), (3, .int x3), (4, .int x4)] 67 [] := by
    intro H_5 hH_5 σ x2 x3 x4 hf
    unfold f4_claimsBy_67 at hf
    refine nw_iinc (pc := 67) (v := (x4 + (1 : Int32))) (lv' := [(4, .int (x4 + (1 : Int32))), (0, .ref (P.2.1 0)), (1, .ref (P.2.1 19)), (2, .int x2), (3, .int x3)]) h dX4_claimsBy_67 (j := 4) rfl rfl (by decide) rfl ?_
    refine nw_goto (pc := 70) (tgt := 5) h dX4_claimsBy_70 (by decide) ?_
    refine nw_sub (lv' := [(0, .ref (P.2.1 0)), (1, .ref (P.2.1 19)), (2, .int x2), (3, .int x3), (4, .int (x4 + (1 : Int32)))]) [1, 2, 3, 4, 0] rfl ?_
    exact hH_5 _ _ _ _ (hf)
  have hB_5 : ∀ (H_5 : nw_ST → Int32 → Int32 → Int32 → Prop) (hH_5 : (∀ (σ : nw_ST) (x2 : Int32) (x3 : Int32) (x4 : Int32), H_5 σ x2 x3 x4 → nw_G P X 6 σ [(0, .ref (P.2.1 0)), (1, .ref (P.2.1 19)), (2, .int x2), (3, .int x3), (4, .int x4)] 5 [])), ∀ (σ : nw_ST) (x2 : Int32) (x3 : Int32) (x4 : Int32), b4_claimsBy_5 K H_5 σ x2 x3 x4 → nw_G P X 6 σ [(0, .ref (P.2.1 0)), (1, .ref (P.2.1 19)), (2, .int x2), (3, .int x3), (4, .int x4)] 5 [] := by
    intro H_5 hH_5 σ x2 x3 x4 hf
    unfold b4_claimsBy_5 at hf
    refine nw_iload (pc := 5) h dX4_claimsBy_5 4 rfl ?_
    refine nw_aload_n (pc := 7) h dX4_claimsBy_7 rfl 0 rfl ?_
    refine gf4_46 (pc := 8) (r := 13) h rfl rfl dX4_claimsBy_8 ?_
    refine gf4_127 (pc := 11) h rfl dX4_claimsBy_11 ?_
    refine nw_icmp_ge (pc := 14) (tgt := 73) h dX4_claimsBy_14 (by decide) (fun c_14 => ?_) (fun c_14 => ?_)
    · have hf := hf.1 c_14
      refine nw_iload_n (pc := 73) h dX4_claimsBy_73 rfl 3 rfl ?_
      exact nw_iret (pc := 74) h he dX4_claimsBy_74 ⟨_, rfl, hf⟩
    · have hf := hf.2 c_14
      refine nw_aload_n (pc := 17) h dX4_claimsBy_17 rfl 0 rfl ?_
      refine gf4_46 (pc := 18) (r := 13) h rfl rfl dX4_claimsBy_18 ?_
      refine gf4_172 (pc := 21) (r := 15) h rfl rfl dX4_claimsBy_21 ?_
      refine nw_iload (pc := 24) h dX4_claimsBy_24 4 rfl ?_
      obtain ⟨h_26, hf⟩ := hf
      refine nw_iald (pc := 26) (n := 12) h rfl rfl h_26 dX4_claimsBy_26 ?_
      refine nw_istore (pc := 27) (lv' := [(5, .int (nw_gA σ 15 x4.toNatClampNeg)), (0, .ref (P.2.1 0)), (1, .ref (P.2.1 19)), (2, .int x2), (3, .int x3), (4, .int x4)]) h dX4_claimsBy_27 (by decide) rfl ?_
      refine nw_aload_n (pc := 29) h dX4_claimsBy_29 rfl 1 rfl ?_
      refine gf4_46 (pc := 30) (r := 13) h rfl rfl dX4_claimsBy_30 ?_
      refine gf4_377 (pc := 33) (r := 14) h rfl rfl dX4_claimsBy_33 ?_
      refine nw_iload (pc := 36) h dX4_claimsBy_36 5 rfl ?_
      obtain ⟨h_38, hf⟩ := hf
      refine nw_iald (pc := 38) (n := 12) h rfl rfl h_38 dX4_claimsBy_38 ?_
      refine nw_iload_n (pc := 39) h dX4_claimsBy_39 rfl 3 rfl ?_
      refine nw_icmp_ne (pc := 40) (tgt := 67) h dX4_claimsBy_40 (by decide) (fun c_40 => ?_) (fun c_40 => ?_)
      · have hf := hf.2 c_40
        refine nw_sub (lv' := [(0, .ref (P.2.1 0)), (1, .ref (P.2.1 19)), (2, .int x2), (3, .int x3), (4, .int x4)]) [1, 2, 3, 4, 5] rfl ?_
        exact hL_67 H_5 hH_5 _ _ _ _ (hf)
      · have hf := hf.1 c_40
        refine nw_aload_n (pc := 43) h dX4_claimsBy_43 rfl 1 rfl ?_
        refine gf4_46 (pc := 44) (r := 13) h rfl rfl dX4_claimsBy_44 ?_
        refine nw_iload (pc := 47) h dX4_claimsBy_47 0 rfl ?_
        refine klX4_175 (pc := 49) h (by rw [hR]; decide) rfl hf (Nat.le_of_ble_eq_true rfl) dX4_claimsBy_49 (fun r_49 s_49 hf => ?_)
        refine nw_iload (pc := 52) h dX4_claimsBy_52 5 rfl ?_
        refine nw_icmp_ne (pc := 54) (tgt := 67) h dX4_claimsBy_54 (by decide) (fun c_54 => ?_) (fun c_54 => ?_)
        · have hf := hf.2 c_54
          refine nw_sub (lv' := [(0, .ref (P.2.1 0)), (1, .ref (P.2.1 19)), (2, .int x2), (3, .int x3), (4, .int x4)]) [1, 2, 3, 4, 5] rfl ?_
          exact hL_67 H_5 hH_5 _ _ _ _ (hf)
        · have hf := hf.1 c_54
          refine nw_iload_n (pc := 57) h dX4_claimsBy_57 rfl 4 rfl ?_
          refine nw_aload_n (pc := 58) h dX4_claimsBy_58 rfl 1 rfl ?_
          refine nw_aload_n (pc := 59) h dX4_claimsBy_59 rfl 2 rfl ?_
          refine nw_iload (pc := 60) h dX4_claimsBy_60 0 rfl ?_
          refine klX4_210 (pc := 62) h (by rw [hR]; decide) hf (Nat.le_of_ble_eq_true rfl) dX4_claimsBy_62 (fun r_62 s_62 hf => ?_)
          refine nw_iadd (pc := 65) h dX4_claimsBy_65 ?_
          refine nw_istore_n (pc := 66) (lv' := [(3, .int (x3 + r_62)), (5, .int (nw_gA σ 15 x4.toNatClampNeg)), (0, .ref (P.2.1 0)), (1, .ref (P.2.1 19)), (2, .int x2), (4, .int x4)]) h dX4_claimsBy_66 rfl (by decide) rfl ?_
          refine nw_sub (lv' := [(0, .ref (P.2.1 0)), (1, .ref (P.2.1 19)), (2, .int x2), (3, .int (x3 + r_62)), (4, .int x4)]) [2, 3, 4, 0, 5] rfl ?_
          exact hL_67 H_5 hH_5 _ _ _ _ (hf)
  have hL_5 :  ∀ (n : Nat) (σ : nw_ST) (x2 : Int32) (x3 : Int32) (x4 : Int32), f4_claimsBy_5 K n σ x2 x3 x4 → nw_G P X 6 σ [(0, .ref (P.2.1 0)), (1, .ref (P.2.1 19)), (2, .int x2), (3, .int x3), (4, .int x4)] 5 [] := by
    intro n
    induction n with
    | zero => intro σ x2 x3 x4 hf; exact False.elim hf
    | succ n ih => exact hB_5 _ ih
  unfold f4_claimsBy at hf
  refine nw_iconst (pc := 0) (v := 0) h dX4_claimsBy_0 (by decide) ?_
  refine nw_istore_n (pc := 1) (lv' := [(3, .int (0 : Int32)), (0, .ref (P.2.1 0)), (1, .ref (P.2.1 19)), (2, .int a2)]) h dX4_claimsBy_1 rfl (by decide) rfl ?_
  refine nw_iconst (pc := 2) (v := 0) h dX4_claimsBy_2 (by decide) ?_
  refine nw_istore (pc := 3) (lv' := [(4, .int (0 : Int32)), (3, .int (0 : Int32)), (0, .ref (P.2.1 0)), (1, .ref (P.2.1 19)), (2, .int a2)]) h dX4_claimsBy_3 (by decide) rfl ?_
  obtain ⟨n_5, hf⟩ := hf
  refine nw_sub (lv' := [(0, .ref (P.2.1 0)), (1, .ref (P.2.1 19)), (2, .int a2), (3, .int (0 : Int32)), (4, .int (0 : Int32))]) [2, 3, 4, 1, 0] rfl ?_
  exact hL_5 n_5 _ _ _ _ hf
theorem klX4_168 {P : nw_PT} {X : nw_EX} {cc : ByteArray} {nL : Nat} {σ : nw_ST} {lv : List (Nat × Value)} {pc : Nat} {rest : List Value} {a2 : Int32} (h : nw_ok P X cc RX4 nL) (hR : rm4_claimsBy.frames + 1 ≤ X.2.2.2.1.frames ∧ 8 + (6 + 11) + rm4_claimsBy.locals ≤ X.2.2.2.1.locals)  {K : Int32 → nw_ST → Prop} (hf : f4_claimsBy K σ a2) (hst : (rest.map fun v => v.category).sum ≤ 8) (hd : decode cc pc = .ok (.invokevirtual 168, 3)) (k : ∀ (r : Int32) (s2 : nw_ST), K r s2 → nw_G P X nL s2 lv (pc + 3) (.int r :: rest)) : nw_G P X nL σ lv pc (.int a2 :: .ref (P.2.1 19) :: .ref (P.2.1 0) :: rest) :=
  nw_callV (As := [.ref (P.2.1 19), .int a2]) (rest := rest) (C := RX4) (ci := 4) h (ct4_claimsBy _ P h.2.2 σ a2 K hf) (nw_goodV nw_w140 nw_w141 nw_w142 nw_w24 nw_w143) yd4_claimsBy rfl hR ⟨rfl, rfl⟩ rfl (by decide) rfl rfl hst rfl hd (fun v s2 z => by obtain ⟨r, rfl, z⟩ := z; exact k r s2 z)
def f4_claims (K : Int32 → nw_ST → Prop) (σ : nw_ST) (a1 : Int32) : Prop := ((((v4_isBelow a1 (8 : Int32)) = 0) → (K (-2 : Int32) σ)) ∧ (¬ ((v4_isBelow a1 (8 : Int32)) = 0) → (f4_waves (fun (r_14 : Nat) (s_14 : nw_ST) => (f4_claimsBy (fun (r_18 : Int32) (s_18 : nw_ST) => (K r_18 s_18)) s_14 a1)) σ)))
def rm4_claims : Room := { frames := 4, cells := 0, slots := 0, locals := 96 }
theorem yd4_claims : yX4_claims.cls = RX4 ∧ yX4_claims.cls ≠ "java/lang/invoke/MethodHandle" ∧ yX4_claims.cls ≠ "java/lang/invoke/VarHandle" ∧ (parseMethodDescriptor yX4_claims.desc).map (fun d => d.parameters.length) = some 1 := by decide +kernel
set_option maxHeartbeats 4000000 in
set_option maxRecDepth 100000 in
theorem ct4_claims (l : Launch) (P : nw_PT) (hD : nw_D P) (σ : nw_ST) (a1 : Int32)  (K : Int32 → nw_ST → Prop) (hf : f4_claims K σ a1) : nw_MT l yX4_claims cX4_claims 2 (some .int) rm4_claims P [.ref (P.2.1 0), .int a1] σ (nw_Ki K) := by
  refine nw_enter (by decide) (by first | decide | exact Nat.le_of_ble_eq_true rfl) hD ?_
  intro X hl h he hR
  subst hl
  have h : nw_ok P X cX4_claims RX4 2 := h
  show nw_G P X 2 σ [(0, .ref (P.2.1 0)), (1, .int a1)] 0 []
  unfold f4_claims at hf
  refine nw_iload_n (pc := 0) h dX4_claims_0 rfl 1 rfl ?_
  refine nw_bipush (pc := 1) (v := 8) h dX4_claims_1 (by decide) ?_
  refine klX4_84 (pc := 3) h (by rw [hR]; decide) (Nat.le_of_ble_eq_true rfl) dX4_claims_3 ?_
  refine nw_if_ne (pc := 6) (tgt := 12) h dX4_claims_6 (by decide) (fun c_6 => ?_) (fun c_6 => ?_)
  · have hf := hf.2 c_6
    refine nw_aload_n (pc := 12) h dX4_claims_12 rfl 0 rfl ?_
    refine nw_aload_n (pc := 13) h dX4_claims_13 rfl 0 rfl ?_
    refine klX4_140 (pc := 14) h (by rw [hR]; decide) hf (Nat.le_of_ble_eq_true rfl) dX4_claims_14 (fun r_14 s_14 hcr hf => ?_)
    obtain rfl := nw_q3 hcr
    refine nw_iload_n (pc := 17) h dX4_claims_17 rfl 1 rfl ?_
    refine klX4_168 (pc := 18) h (by rw [hR]; decide) hf (Nat.le_of_ble_eq_true rfl) dX4_claims_18 (fun r_18 s_18 hf => ?_)
    exact nw_iret (pc := 21) h he dX4_claims_21 ⟨_, rfl, hf⟩
  · have hf := hf.1 c_6
    refine nw_bipush (pc := 9) (v := -2) h dX4_claims_9 (by decide) ?_
    exact nw_iret (pc := 11) h he dX4_claims_11 ⟨_, rfl, hf⟩
def f4_good_67 (K : Int32 → nw_ST → Prop) (σ : nw_ST) (y0 : Int32) : Prop := (K y0 σ)
def f4_good_44 (K : Int32 → nw_ST → Prop) (σ : nw_ST) (x2 : Int32) (y0 : Int32) : Prop := (((y0 = 0) → (f4_good_67 K σ (0 : Int32))) ∧ (¬ (y0 = 0) → (f4_waves (fun (r_50 : Nat) (s_50 : nw_ST) => ((vp_in x2 401) ∧ (f4_good_67 K s_50 (if ((nw_gA s_50 25 x2.toNatClampNeg) = (-1 : Int32)) then (0 : Int32) else (1 : Int32))))) σ)))
def f4_good (K : Int32 → nw_ST → Prop) (σ : nw_ST) (a1 : Int32) : Prop := ((((v4_isBelow a1 (nw_gS σ 13 2)) = 0) → (K (-2 : Int32) σ)) ∧ (¬ ((v4_isBelow a1 (nw_gS σ 13 2)) = 0) → ((vp_in a1 12) ∧ (f0_firstWithSecond (fun (r_32 : Int32) (s_32 : nw_ST) => (f4_good_44 K s_32 (nw_gA σ 15 a1.toNatClampNeg) (if (r_32 = a1) then (1 : Int32) else (0 : Int32)))) σ 13 (nw_gA σ 15 a1.toNatClampNeg)))))
def rm4_good : Room := { frames := 4, cells := 0, slots := 0, locals := 91 }
theorem yd4_good : yX4_good.cls = RX4 ∧ yX4_good.cls ≠ "java/lang/invoke/MethodHandle" ∧ yX4_good.cls ≠ "java/lang/invoke/VarHandle" ∧ (parseMethodDescriptor yX4_good.desc).map (fun d => d.parameters.length) = some 1 := by decide +kernel
set_option maxHeartbeats 4000000 in
set_option maxRecDepth 100000 in
theorem ct4_good (l : Launch) (P : nw_PT) (hD : nw_D P) (σ : nw_ST) (a1 : Int32)  (K : Int32 → nw_ST → Prop) (hf : f4_good K σ a1) : nw_MT l yX4_good cX4_good 4 (some .int) rm4_good P [.ref (P.2.1 0), .int a1] σ (nw_Ki K) := by
  refine nw_enter (by decide) (by first | decide | exact Nat.le_of_ble_eq_true rfl) hD ?_
  intro X hl h he hR
  subst hl
  have h : nw_ok P X cX4_good RX4 4 := h
  show nw_G P X 4 σ [(0, .ref (P.2.1 0)), (1, .int a1)] 0 []
  have hL_67 :  ∀ (σ : nw_ST) (y0 : Int32), f4_good_67 K σ y0 → nw_G P X 4 σ [] 67 [.int y0] := by
    intro σ y0 hf
    unfold f4_good_67 at hf
    exact nw_iret (pc := 67) h he dX4_good_67 ⟨_, rfl, hf⟩
  have hL_44 :  ∀ (σ : nw_ST) (x2 : Int32) (y0 : Int32), f4_good_44 K σ x2 y0 → nw_G P X 4 σ [(0, .ref (P.2.1 0)), (2, .int x2)] 44 [.int y0] := by
    intro σ x2 y0 hf
    unfold f4_good_44 at hf
    refine nw_istore_n (pc := 44) (lv' := [(3, .int y0), (0, .ref (P.2.1 0)), (2, .int x2)]) h dX4_good_44 rfl (by decide) rfl ?_
    refine nw_iload_n (pc := 45) h dX4_good_45 rfl 0 rfl ?_
    refine nw_if_eq (pc := 46) (tgt := 66) h dX4_good_46 (by decide) (fun c_46 => ?_) (fun c_46 => ?_)
    · have hf := hf.1 c_46
      refine nw_iconst (pc := 66) (v := 0) h dX4_good_66 (by decide) ?_
      refine nw_sub (lv' := []) [] rfl ?_
      exact hL_67 _ _ (hf)
    · have hf := hf.2 c_46
      refine nw_aload_n (pc := 49) h dX4_good_49 rfl 1 rfl ?_
      refine klX4_140 (pc := 50) h (by rw [hR]; decide) hf (Nat.le_of_ble_eq_true rfl) dX4_good_50 (fun r_50 s_50 hcr hf => ?_)
      obtain rfl := nw_q3 hcr
      refine gf4_159 (pc := 53) (r := 25) h rfl rfl dX4_good_53 ?_
      refine nw_iload_n (pc := 56) h dX4_good_56 rfl 2 rfl ?_
      obtain ⟨h_57, hf⟩ := hf
      refine nw_iald (pc := 57) (n := 401) h rfl rfl h_57 dX4_good_57 ?_
      refine nw_iconst (pc := 58) (v := -1) h dX4_good_58 (by decide) ?_
      refine nw_icmp_eq (pc := 59) (tgt := 66) h dX4_good_59 (by decide) (fun c_59 => ?_) (fun c_59 => ?_)
      · skip
        refine nw_iconst (pc := 66) (v := 0) h dX4_good_66 (by decide) ?_
        simp only [if_pos c_59] at hf
        refine nw_sub (lv' := []) [] rfl ?_
        exact hL_67 _ _ hf
      · skip
        refine nw_iconst (pc := 62) (v := 1) h dX4_good_62 (by decide) ?_
        refine nw_goto (pc := 63) (tgt := 67) h dX4_good_63 (by decide) ?_
        simp only [if_neg c_59] at hf
        refine nw_sub (lv' := []) [] rfl ?_
        exact hL_67 _ _ hf
  unfold f4_good at hf
  refine nw_iload_n (pc := 0) h dX4_good_0 rfl 1 rfl ?_
  refine nw_aload_n (pc := 1) h dX4_good_1 rfl 0 rfl ?_
  refine gf4_46 (pc := 2) (r := 13) h rfl rfl dX4_good_2 ?_
  refine gf4_127 (pc := 5) h rfl dX4_good_5 ?_
  refine klX4_84 (pc := 8) h (by rw [hR]; decide) (Nat.le_of_ble_eq_true rfl) dX4_good_8 ?_
  refine nw_if_ne (pc := 11) (tgt := 17) h dX4_good_11 (by decide) (fun c_11 => ?_) (fun c_11 => ?_)
  · have hf := hf.2 c_11
    refine nw_aload_n (pc := 17) h dX4_good_17 rfl 0 rfl ?_
    refine gf4_46 (pc := 18) (r := 13) h rfl rfl dX4_good_18 ?_
    refine gf4_172 (pc := 21) (r := 15) h rfl rfl dX4_good_21 ?_
    refine nw_iload_n (pc := 24) h dX4_good_24 rfl 1 rfl ?_
    obtain ⟨h_25, hf⟩ := hf
    refine nw_iald (pc := 25) (n := 12) h rfl rfl h_25 dX4_good_25 ?_
    refine nw_istore_n (pc := 26) (lv' := [(2, .int (nw_gA σ 15 a1.toNatClampNeg)), (0, .ref (P.2.1 0)), (1, .int a1)]) h dX4_good_26 rfl (by decide) rfl ?_
    refine nw_aload_n (pc := 27) h dX4_good_27 rfl 1 rfl ?_
    refine gf4_46 (pc := 28) (r := 13) h rfl rfl dX4_good_28 ?_
    refine nw_iload_n (pc := 31) h dX4_good_31 rfl 0 rfl ?_
    refine klX4_175 (pc := 32) h (by rw [hR]; decide) rfl hf (Nat.le_of_ble_eq_true rfl) dX4_good_32 (fun r_32 s_32 hf => ?_)
    refine nw_iload_n (pc := 35) h dX4_good_35 rfl 2 rfl ?_
    refine nw_icmp_ne (pc := 36) (tgt := 43) h dX4_good_36 (by decide) (fun c_36 => ?_) (fun c_36 => ?_)
    · skip
      refine nw_iconst (pc := 43) (v := 0) h dX4_good_43 (by decide) ?_
      simp only [if_neg c_36] at hf
      refine nw_sub (lv' := [(0, .ref (P.2.1 0)), (2, .int (nw_gA σ 15 a1.toNatClampNeg))]) [1, 0] rfl ?_
      exact hL_44 _ _ _ hf
    · skip
      refine nw_iconst (pc := 39) (v := 1) h dX4_good_39 (by decide) ?_
      refine nw_goto (pc := 40) (tgt := 44) h dX4_good_40 (by decide) ?_
      simp only [if_pos c_36] at hf
      refine nw_sub (lv' := [(0, .ref (P.2.1 0)), (2, .int (nw_gA σ 15 a1.toNatClampNeg))]) [1, 0] rfl ?_
      exact hL_44 _ _ _ hf
  · have hf := hf.1 c_11
    refine nw_bipush (pc := 14) (v := -2) h dX4_good_14 (by decide) ?_
    exact nw_iret (pc := 16) h he dX4_good_16 ⟨_, rfl, hf⟩
def v4_firstCrest (σ : nw_ST) (a1 : Int32) (a2 : Int32) : Int32 := (if (a2 ≤ (v2_part σ 1 a1 (2 : Int32))) then (v2_part σ 1 a1 (2 : Int32)) else (if (0 < (v2_part σ 1 a1 (1 : Int32))) then ((v2_part σ 1 a1 (2 : Int32)) + (((((a2 - (v2_part σ 1 a1 (2 : Int32))) + (v2_part σ 1 a1 (1 : Int32))) - (1 : Int32)) / (v2_part σ 1 a1 (1 : Int32))) * (v2_part σ 1 a1 (1 : Int32)))) else (v2_part σ 1 a1 (2 : Int32))))
def o4_firstCrest (σ : nw_ST) (a1 : Int32) (a2 : Int32) : Prop := ((o2_part σ 1 a1 (1 : Int32)) ∧ ((o2_part σ 1 a1 (2 : Int32)) ∧ (((a2 ≤ (v2_part σ 1 a1 (2 : Int32))) → True) ∧ (¬ (a2 ≤ (v2_part σ 1 a1 (2 : Int32))) → (((0 < (v2_part σ 1 a1 (1 : Int32))) → (¬ (v2_part σ 1 a1 (1 : Int32)) = 0)) ∧ (¬ (0 < (v2_part σ 1 a1 (1 : Int32))) → True))))))
def rm4_firstCrest : Room := { frames := 1, cells := 0, slots := 0, locals := 22 }
theorem yd4_firstCrest : yX4_firstCrest.cls = RX4 ∧ yX4_firstCrest.cls ≠ "java/lang/invoke/MethodHandle" ∧ yX4_firstCrest.cls ≠ "java/lang/invoke/VarHandle" ∧ (parseMethodDescriptor yX4_firstCrest.desc).map (fun d => d.parameters.length) = some 2 := by decide +kernel
set_option maxHeartbeats 4000000 in
set_option maxRecDepth 100000 in
theorem ct4_firstCrest (l : Launch) (P : nw_PT) (hD : nw_D P) (σ : nw_ST) (a1 : Int32) (a2 : Int32)  (ho : o4_firstCrest σ a1 a2) : nw_MT l yX4_firstCrest cX4_firstCrest 5 (some .int) rm4_firstCrest P [.ref (P.2.1 0), .int a1, .int a2] σ (nw_Ki (fun r s2 => r = (v4_firstCrest σ a1 a2) ∧ s2 = σ)) := by
  refine nw_enter (by decide) (by first | decide | exact Nat.le_of_ble_eq_true rfl) hD ?_
  intro X hl h he hR
  subst hl
  have h : nw_ok P X cX4_firstCrest RX4 5 := h
  show nw_G P X 5 σ [(0, .ref (P.2.1 0)), (1, .int a1), (2, .int a2)] 0 []
  unfold o4_firstCrest at ho
  refine nw_aload_n (pc := 0) h dX4_firstCrest_0 rfl 0 rfl ?_
  refine gf4_21 (pc := 1) (r := 1) h rfl rfl dX4_firstCrest_1 ?_
  refine nw_iload_n (pc := 4) h dX4_firstCrest_4 rfl 1 rfl ?_
  refine nw_iconst (pc := 5) (v := 1) h dX4_firstCrest_5 (by decide) ?_
  obtain ⟨h_6, ho⟩ := ho
  refine klX4_181 (pc := 6) h (by rw [hR]; decide) rfl h_6 (Nat.le_of_ble_eq_true rfl) dX4_firstCrest_6 ?_
  refine nw_istore_n (pc := 9) (lv' := [(3, .int (v2_part σ 1 a1 (1 : Int32))), (0, .ref (P.2.1 0)), (1, .int a1), (2, .int a2)]) h dX4_firstCrest_9 rfl (by decide) rfl ?_
  refine nw_aload_n (pc := 10) h dX4_firstCrest_10 rfl 1 rfl ?_
  refine gf4_21 (pc := 11) (r := 1) h rfl rfl dX4_firstCrest_11 ?_
  refine nw_iload_n (pc := 14) h dX4_firstCrest_14 rfl 2 rfl ?_
  refine nw_iconst (pc := 15) (v := 2) h dX4_firstCrest_15 (by decide) ?_
  obtain ⟨h_16, ho⟩ := ho
  refine klX4_181 (pc := 16) h (by rw [hR]; decide) rfl h_16 (Nat.le_of_ble_eq_true rfl) dX4_firstCrest_16 ?_
  refine nw_istore (pc := 19) (lv' := [(4, .int (v2_part σ 1 a1 (2 : Int32))), (3, .int (v2_part σ 1 a1 (1 : Int32))), (0, .ref (P.2.1 0)), (1, .int a1), (2, .int a2)]) h dX4_firstCrest_19 (by decide) rfl ?_
  refine nw_iload_n (pc := 21) h dX4_firstCrest_21 rfl 4 rfl ?_
  refine nw_iload (pc := 22) h dX4_firstCrest_22 0 rfl ?_
  refine nw_icmp_le (pc := 24) (tgt := 31) h dX4_firstCrest_24 (by decide) (fun c_24 => ?_) (fun c_24 => ?_)
  · skip
    have ho := ho.1 c_24
    refine nw_iload (pc := 31) h dX4_firstCrest_31 0 rfl ?_
    exact nw_iret (pc := 33) h he dX4_firstCrest_33 ⟨_, rfl, (by unfold v4_firstCrest; rw [if_pos c_24]), rfl⟩
  · skip
    have ho := ho.2 c_24
    refine nw_iload_n (pc := 27) h dX4_firstCrest_27 rfl 1 rfl ?_
    refine nw_if_gt (pc := 28) (tgt := 34) h dX4_firstCrest_28 (by decide) (fun c_28 => ?_) (fun c_28 => ?_)
    · skip
      have ho := ho.1 c_28
      refine nw_iload (pc := 34) h dX4_firstCrest_34 0 rfl ?_
      refine nw_iload_n (pc := 36) h dX4_firstCrest_36 rfl 4 rfl ?_
      refine nw_iload (pc := 37) h dX4_firstCrest_37 0 rfl ?_
      refine nw_isub (pc := 39) h dX4_firstCrest_39 ?_
      refine nw_iload_n (pc := 40) h dX4_firstCrest_40 rfl 1 rfl ?_
      refine nw_iadd (pc := 41) h dX4_firstCrest_41 ?_
      refine nw_iconst (pc := 42) (v := 1) h dX4_firstCrest_42 (by decide) ?_
      refine nw_isub (pc := 43) h dX4_firstCrest_43 ?_
      refine nw_iload_n (pc := 44) h dX4_firstCrest_44 rfl 1 rfl ?_
      have h_45 := ho
      refine nw_idiv (pc := 45) h dX4_firstCrest_45 h_45 ?_
      refine nw_iload_n (pc := 46) h dX4_firstCrest_46 rfl 1 rfl ?_
      refine nw_imul (pc := 47) h dX4_firstCrest_47 ?_
      refine nw_iadd (pc := 48) h dX4_firstCrest_48 ?_
      exact nw_iret (pc := 49) h he dX4_firstCrest_49 ⟨_, rfl, (by unfold v4_firstCrest; rw [if_neg c_24, if_pos c_28]), rfl⟩
    · skip
      have ho := ho.2 c_28
      refine nw_iload (pc := 31) h dX4_firstCrest_31 0 rfl ?_
      exact nw_iret (pc := 33) h he dX4_firstCrest_33 ⟨_, rfl, (by unfold v4_firstCrest; rw [if_neg c_24, if_neg c_28]), rfl⟩
def f4_leastCommonMultiple_47 (K : Int32 → nw_ST → Prop) (σ : nw_ST) (y0 : Int32) : Prop := (K y0 σ)
def f4_leastCommonMultiple_34 (K : Int32 → nw_ST → Prop) (σ : nw_ST) (x0 : Int32) (x1 : Int32) (x2 : Int32) : Prop := ((((x2 ≤ 0) → True) ∧ (¬ (x2 ≤ 0) → (¬ x2 = 0))) ∧ (f4_leastCommonMultiple_47 K σ (if (x2 ≤ 0) then (0 : Int32) else ((x0 / x2) * x1))))
def b4_leastCommonMultiple_7 (K : Int32 → nw_ST → Prop) (H_7 : nw_ST → Int32 → Int32 → Int32 → Int32 → Int32 → Prop) (σ : nw_ST) (x0 : Int32) (x1 : Int32) (x2 : Int32) (x3 : Int32) (x4 : Int32) : Prop := ((((64 : Int32) ≤ x4) → (f4_leastCommonMultiple_34 K σ x0 x1 x2)) ∧ (¬ ((64 : Int32) ≤ x4) → (((x3 = 0) → (f4_leastCommonMultiple_34 K σ x0 x1 x2)) ∧ (¬ (x3 = 0) → ((¬ x3 = 0) ∧ (H_7 σ x0 x1 x3 (nw_rem x2 x3) (x4 + (1 : Int32))))))))
def f4_leastCommonMultiple_7 (K : Int32 → nw_ST → Prop) : Nat → nw_ST → Int32 → Int32 → Int32 → Int32 → Int32 → Prop
  | 0 => fun _ _ _ _ _ _ => False
  | n + 1 => b4_leastCommonMultiple_7 K (f4_leastCommonMultiple_7 K n)
def f4_leastCommonMultiple (K : Int32 → nw_ST → Prop) (σ : nw_ST) (a1 : Int32) (a2 : Int32) : Prop := (∃ n, f4_leastCommonMultiple_7 K n σ a1 a2 a1 a2 (0 : Int32))
def rm4_leastCommonMultiple : Room := { frames := 0, cells := 0, slots := 0, locals := 0 }
theorem yd4_leastCommonMultiple : yX4_leastCommonMultiple.cls = RX4 ∧ yX4_leastCommonMultiple.cls ≠ "java/lang/invoke/MethodHandle" ∧ yX4_leastCommonMultiple.cls ≠ "java/lang/invoke/VarHandle" ∧ (parseMethodDescriptor yX4_leastCommonMultiple.desc).map (fun d => d.parameters.length) = some 2 := by decide +kernel
set_option maxHeartbeats 4000000 in
set_option maxRecDepth 100000 in
theorem ct4_leastCommonMultiple (l : Launch) (P : nw_PT) (hD : nw_D P) (σ : nw_ST) (a1 : Int32) (a2 : Int32)  (K : Int32 → nw_ST → Prop) (hf : f4_leastCommonMultiple K σ a1 a2) : nw_MT l yX4_leastCommonMultiple cX4_leastCommonMultiple 6 (some .int) rm4_leastCommonMultiple P [.int a1, .int a2] σ (nw_Ki K) := by
  refine nw_enter (by decide) (by first | decide | exact Nat.le_of_ble_eq_true rfl) hD ?_
  intro X hl h he hR
  subst hl
  have h : nw_ok P X cX4_leastCommonMultiple RX4 6 := h
  show nw_G P X 6 σ [(0, .int a1), (1, .int a2)] 0 []
  have hL_47 :  ∀ (σ : nw_ST) (y0 : Int32), f4_leastCommonMultiple_47 K σ y0 → nw_G P X 6 σ [] 47 [.int y0] := by
    intro σ y0 hf
    unfold f4_leastCommonMultiple_47 at hf
    exact nw_iret (pc := 47) h he dX4_leastCommonMultiple_47 ⟨_, rfl, hf⟩
  have hL_34 :  ∀ (σ : nw_ST) (x0 : Int32) (x1 : Int32) (x2 : Int32), f4_leastCommonMultiple_34 K σ x0 x1 x2 → nw_G P X 6 σ [(0, .int x0), (1, .int x1), (2, .int x2)] 34 [] := by
    intro σ x0 x1 x2 hf
    unfold f4_leastCommonMultiple_34 at hf
    refine nw_iload_n (pc := 34) h dX4_leastCommonMultiple_34 rfl 2 rfl ?_
    obtain ⟨ho, hf⟩ := hf
    refine nw_if_le (pc := 35) (tgt := 46) h dX4_leastCommonMultiple_35 (by decide) (fun c_35 => ?_) (fun c_35 => ?_)
    · skip
      have ho := ho.1 c_35
      refine nw_iconst (pc := 46) (v := 0) h dX4_leastCommonMultiple_46 (by decide) ?_
      simp only [if_pos c_35] at hf
      refine nw_sub (lv' := []) [] rfl ?_
      exact hL_47 _ _ hf
    · skip
      have ho := ho.2 c_35
      refine nw_iload_n (pc := 38) h dX4_leastCommonMultiple_38 rfl 0 rfl ?_
      refine nw_iload_n (pc := 39) h dX4_leastCommonMultiple_39 rfl 2 rfl ?_
      have h_40 := ho
      refine nw_idiv (pc := 40) h dX4_leastCommonMultiple_40 h_40 ?_
      refine nw_iload_n (pc := 41) h dX4_leastCommonMultiple_41 rfl 1 rfl ?_
      refine nw_imul (pc := 42) h dX4_leastCommonMultiple_42 ?_
      refine nw_goto (pc := 43) (tgt := 47) h dX4_leastCommonMultiple_43 (by decide) ?_
      simp only [if_neg c_35] at hf
      refine nw_sub (lv' := []) [] rfl ?_
      exact hL_47 _ _ hf
  have hB_7 : ∀ (H_7 : nw_ST → Int32 → Int32 → Int32 → Int32 → Int32 → Prop) (hH_7 : (∀ (σ : nw_ST) (x0 : Int32) (x1 : Int32) (x2 : Int32) (x3 : Int32) (x4 : Int32), H_7 σ x0 x1 x2 x3 x4 → nw_G P X 6 σ [(0, .int x0), (1, .int x1), (2, .int x2), (3, .int x3), (4, .int x4)] 7 [])), ∀ (σ : nw_ST) (x0 : Int32) (x1 : Int32) (x2 : Int32) (x3 : Int32) (x4 : Int32), b4_leastCommonMultiple_7 K H_7 σ x0 x1 x2 x3 x4 → nw_G P X 6 σ [(0, .int x0), (1, .int x1), (2, .int x2), (3, .int x3), (4, .int x4)] 7 [] := by
    intro H_7 hH_7 σ x0 x1 x2 x3 x4 hf
    unfold b4_leastCommonMultiple_7 at hf
    refine nw_iload (pc := 7) h dX4_leastCommonMultiple_7 4 rfl ?_
    refine nw_bipush (pc := 9) (v := 64) h dX4_leastCommonMultiple_9 (by decide) ?_
    refine nw_icmp_ge (pc := 11) (tgt := 34) h dX4_leastCommonMultiple_11 (by decide) (fun c_11 => ?_) (fun c_11 => ?_)
    · have hf := hf.1 c_11
      refine nw_sub (lv' := [(0, .int x0), (1, .int x1), (2, .int x2)]) [0, 1, 2] rfl ?_
      exact hL_34 _ _ _ _ (hf)
    · have hf := hf.2 c_11
      refine nw_iload_n (pc := 14) h dX4_leastCommonMultiple_14 rfl 3 rfl ?_
      refine nw_if_eq (pc := 15) (tgt := 34) h dX4_leastCommonMultiple_15 (by decide) (fun c_15 => ?_) (fun c_15 => ?_)
      · have hf := hf.1 c_15
        refine nw_sub (lv' := [(0, .int x0), (1, .int x1), (2, .int x2)]) [0, 1, 2] rfl ?_
        exact hL_34 _ _ _ _ (hf)
      · have hf := hf.2 c_15
        refine nw_iload_n (pc := 18) h dX4_leastCommonMultiple_18 rfl 2 rfl ?_
        refine nw_iload_n (pc := 19) h dX4_leastCommonMultiple_19 rfl 3 rfl ?_
        obtain ⟨h_20, hf⟩ := hf
        refine nw_irem (pc := 20) h dX4_leastCommonMultiple_20 h_20 ?_
        refine nw_istore (pc := 21) (lv' := [(5, .int (nw_rem x2 x3)), (0, .int x0), (1, .int x1), (2, .int x2), (3, .int x3), (4, .int x4)]) h dX4_leastCommonMultiple_21 (by decide) rfl ?_
        refine nw_iload_n (pc := 23) h dX4_leastCommonMultiple_23 rfl 4 rfl ?_
        refine nw_istore_n (pc := 24) (lv' := [(2, .int x3), (5, .int (nw_rem x2 x3)), (0, .int x0), (1, .int x1), (3, .int x3), (4, .int x4)]) h dX4_leastCommonMultiple_24 rfl (by decide) rfl ?_
        refine nw_iload (pc := 25) h dX4_leastCommonMultiple_25 1 rfl ?_
        refine nw_istore_n (pc := 27) (lv' := [(3, .int (nw_rem x2 x3)), (2, .int x3), (5, .int (nw_rem x2 x3)), (0, .int x0), (1, .int x1), (4, .int x4)]) h dX4_leastCommonMultiple_27 rfl (by decide) rfl ?_
        refine nw_iinc (pc := 28) (v := (x4 + (1 : Int32))) (lv' := [(4, .int (x4 + (1 : Int32))), (3, .int (nw_rem x2 x3)), (2, .int x3), (5, .int (nw_rem x2 x3)), (0, .int x0), (1, .int x1)]) h dX4_leastCommonMultiple_28 (j := 5) rfl rfl (by decide) rfl ?_
        refine nw_goto (pc := 31) (tgt := 7) h dX4_leastCommonMultiple_31 (by decide) ?_
        refine nw_sub (lv' := [(0, .int x0), (1, .int x1), (2, .int x3), (3, .int (nw_rem x2 x3)), (4, .int (x4 + (1 : Int32)))]) [4, 5, 2, 1, 0] rfl ?_
        exact hH_7 _ _ _ _ _ _ (hf)
  have hL_7 :  ∀ (n : Nat) (σ : nw_ST) (x0 : Int32) (x1 : Int32) (x2 : Int32) (x3 : Int32) (x4 : Int32), f4_leastCommonMultiple_7 K n σ x0 x1 x2 x3 x4 → nw_G P X 6 σ [(0, .int x0), (1, .int x1), (2, .int x2), (3, .int x3), (4, .int x4)] 7 [] := by
    intro n
    induction n with
    | zero => intro σ x0 x1 x2 x3 x4 hf; exact False.elim hf
    | succ n ih => exact hB_7 _ ih
  unfold f4_leastCommonMultiple at hf
  refine nw_iload_n (pc := 0) h dX4_leastCommonMultiple_0 rfl 0 rfl ?_
  refine nw_istore_n (pc := 1) (lv' := [(2, .int a1), (0, .int a1), (1, .int a2)]) h dX4_leastCommonMultiple_1 rfl (by decide) rfl ?_
  refine nw_iload_n (pc := 2) h dX4_leastCommonMultiple_2 rfl 2 rfl ?_
  refine nw_istore_n (pc := 3) (lv' := [(3, .int a2), (2, .int a1), (0, .int a1), (1, .int a2)]) h dX4_leastCommonMultiple_3 rfl (by decide) rfl ?_
  refine nw_iconst (pc := 4) (v := 0) h dX4_leastCommonMultiple_4 (by decide) ?_
  refine nw_istore (pc := 5) (lv' := [(4, .int (0 : Int32)), (3, .int a2), (2, .int a1), (0, .int a1), (1, .int a2)]) h dX4_leastCommonMultiple_5 (by decide) rfl ?_
  obtain ⟨n_7, hf⟩ := hf
  refine nw_sub (lv' := [(0, .int a1), (1, .int a2), (2, .int a1), (3, .int a2), (4, .int (0 : Int32))]) [3, 4, 2, 1, 0] rfl ?_
  exact hL_7 n_7 _ _ _ _ _ _ hf
theorem klX4_190 {P : nw_PT} {X : nw_EX} {cc : ByteArray} {nL : Nat} {σ : nw_ST} {lv : List (Nat × Value)} {pc : Nat} {rest : List Value} {a1 : Int32} {a2 : Int32} (h : nw_ok P X cc RX4 nL) (hR : rm4_firstCrest.frames + 1 ≤ X.2.2.2.1.frames ∧ 8 + (5 + 11) + rm4_firstCrest.locals ≤ X.2.2.2.1.locals)  (ho : o4_firstCrest σ a1 a2) (hst : (rest.map fun v => v.category).sum ≤ 8) (hd : decode cc pc = .ok (.invokevirtual 190, 3)) (k : nw_G P X nL σ lv (pc + 3) (.int (v4_firstCrest σ a1 a2) :: rest)) : nw_G P X nL σ lv pc (.int a2 :: .int a1 :: .ref (P.2.1 0) :: rest) :=
  nw_callV (As := [.int a1, .int a2]) (rest := rest) (C := RX4) (ci := 4) h (ct4_firstCrest _ P h.2.2 σ a1 a2 ho) (nw_goodV nw_w148 nw_w149 nw_w150 nw_w24 nw_w151) yd4_firstCrest rfl hR ⟨rfl, rfl⟩ rfl (by decide) rfl rfl hst rfl hd (fun v s2 z => by obtain ⟨r, rfl, rfl, rfl⟩ := z; exact k)
theorem klX4_193 {P : nw_PT} {X : nw_EX} {cc : ByteArray} {nL : Nat} {σ : nw_ST} {lv : List (Nat × Value)} {pc : Nat} {rest : List Value} {a1 : Int32} {a2 : Int32} {a3 : Int32} (h : nw_ok P X cc RX4 nL) (hR : rm4_isCrest.frames + 1 ≤ X.2.2.2.1.frames ∧ 8 + (3 + 11) + rm4_isCrest.locals ≤ X.2.2.2.1.locals)  (ho : o4_isCrest a1 a2 a3) (hst : (rest.map fun v => v.category).sum ≤ 8) (hd : decode cc pc = .ok (.invokestatic 193, 3)) (k : nw_G P X nL σ lv (pc + 3) (.int (v4_isCrest a1 a2 a3) :: rest)) : nw_G P X nL σ lv pc (.int a3 :: .int a2 :: .int a1 :: rest) :=
  nw_callS (As := [.int a1, .int a2, .int a3]) (rest := rest) h (ct4_isCrest _ P h.2.2 σ a1 a2 a3 ho) (nw_goodS nw_w152 nw_w93 nw_w24 nw_w92) yd4_isCrest.2 rfl hR ⟨rfl, rfl⟩ hst rfl hd (fun v s2 z => by obtain ⟨r, rfl, rfl, rfl⟩ := z; exact k)
theorem klX4_196 {P : nw_PT} {X : nw_EX} {cc : ByteArray} {nL : Nat} {σ : nw_ST} {lv : List (Nat × Value)} {pc : Nat} {rest : List Value} {a1 : Int32} {a2 : Int32} (h : nw_ok P X cc RX4 nL) (hR : rm4_leastCommonMultiple.frames + 1 ≤ X.2.2.2.1.frames ∧ 8 + (6 + 11) + rm4_leastCommonMultiple.locals ≤ X.2.2.2.1.locals)  {K : Int32 → nw_ST → Prop} (hf : f4_leastCommonMultiple K σ a1 a2) (hst : (rest.map fun v => v.category).sum ≤ 8) (hd : decode cc pc = .ok (.invokestatic 196, 3)) (k : ∀ (r : Int32) (s2 : nw_ST), K r s2 → nw_G P X nL s2 lv (pc + 3) (.int r :: rest)) : nw_G P X nL σ lv pc (.int a2 :: .int a1 :: rest) :=
  nw_callS (As := [.int a1, .int a2]) (rest := rest) h (ct4_leastCommonMultiple _ P h.2.2 σ a1 a2 K hf) (nw_goodS nw_w153 nw_w154 nw_w24 nw_w155) yd4_leastCommonMultiple.2 rfl hR ⟨rfl, rfl⟩ hst rfl hd (fun v s2 z => by obtain ⟨r, rfl, z⟩ := z; exact k r s2 z)
def f4_agree_33 (K : Int32 → nw_ST → Prop) (σ : nw_ST) : Prop := (K (-2 : Int32) σ)
def f4_agree_52 (K : Int32 → nw_ST → Prop) (σ : nw_ST) : Prop := (K (-2 : Int32) σ)
def f4_agree_143 (K : Int32 → nw_ST → Prop) (σ : nw_ST) (y0 : Int32) : Prop := (K y0 σ)
def b4_agree_100 (K : Int32 → nw_ST → Prop) (H_100 : nw_ST → Int32 → Int32 → Int32 → Int32 → Int32 → Int32 → Prop) (σ : nw_ST) (x2 : Int32) (x4 : Int32) (x5 : Int32) (x6 : Int32) (x7 : Int32) (x8 : Int32) : Prop := (((x6 ≤ x8) → (K (-1 : Int32) σ)) ∧ (¬ (x6 ≤ x8) → ((o2_part σ 1 x2 (2 : Int32)) ∧ ((o4_isCrest x7 (v2_part σ 1 x2 (2 : Int32)) x6) ∧ ((((v4_isCrest x7 (v2_part σ 1 x2 (2 : Int32)) x6) = 0) → (H_100 σ x2 x4 x5 x6 (x7 + x5) (x8 + (1 : Int32)))) ∧ (¬ ((v4_isCrest x7 (v2_part σ 1 x2 (2 : Int32)) x6) = 0) → (((x4 = 0) → (f4_agree_143 K σ x7)) ∧ (¬ (x4 = 0) → (f4_leastCommonMultiple (fun (r_140 : Int32) (s_140 : nw_ST) => (f4_agree_143 K s_140 r_140)) σ x5 x6)))))))))
def f4_agree_100 (K : Int32 → nw_ST → Prop) : Nat → nw_ST → Int32 → Int32 → Int32 → Int32 → Int32 → Int32 → Prop
  | 0 => fun _ _ _ _ _ _ _ => False
  | n + 1 => b4_agree_100 K (f4_agree_100 K n)
def f4_agree (K : Int32 → nw_ST → Prop) (σ : nw_ST) (a1 : Int32) (a2 : Int32) (a3 : Int32) (a4 : Int32) : Prop := ((((v4_isBelow a1 (nw_gS σ 1 6)) = 0) → (f4_agree_33 K σ)) ∧ (¬ ((v4_isBelow a1 (nw_gS σ 1 6)) = 0) → ((((v4_isBelow a2 (nw_gS σ 1 6)) = 0) → (f4_agree_33 K σ)) ∧ (¬ ((v4_isBelow a2 (nw_gS σ 1 6)) = 0) → (((a1 = a2) → (f4_agree_33 K σ)) ∧ (¬ (a1 = a2) → ((((v4_isTime a3) = 0) → (f4_agree_52 K σ)) ∧ (¬ ((v4_isTime a3) = 0) → ((((v4_isBelow a4 (2 : Int32)) = 0) → (f4_agree_52 K σ)) ∧ (¬ ((v4_isBelow a4 (2 : Int32)) = 0) → ((o2_part σ 1 a1 (1 : Int32)) ∧ ((o2_part σ 1 a2 (1 : Int32)) ∧ ((o2_part σ 1 a2 (2 : Int32)) ∧ ((o4_firstCrest σ a1 (if a3 < (v2_part σ 1 a2 (2 : Int32)) then (v2_part σ 1 a2 (2 : Int32)) else a3)) ∧ (∃ n, f4_agree_100 K n σ a2 a4 (v2_part σ 1 a1 (1 : Int32)) (v2_part σ 1 a2 (1 : Int32)) (v4_firstCrest σ a1 (if a3 < (v2_part σ 1 a2 (2 : Int32)) then (v2_part σ 1 a2 (2 : Int32)) else a3)) (0 : Int32))))))))))))))))
def rm4_agree : Room := { frames := 2, cells := 0, slots := 0, locals := 46 }
theorem yd4_agree : yX4_agree.cls = RX4 ∧ yX4_agree.cls ≠ "java/lang/invoke/MethodHandle" ∧ yX4_agree.cls ≠ "java/lang/invoke/VarHandle" ∧ (parseMethodDescriptor yX4_agree.desc).map (fun d => d.parameters.length) = some 4 := by decide +kernel
set_option maxHeartbeats 4000000 in
set_option maxRecDepth 100000 in
theorem ct4_agree (l : Launch) (P : nw_PT) (hD : nw_D P) (σ : nw_ST) (a1 : Int32) (a2 : Int32) (a3 : Int32) (a4 : Int32)  (K : Int32 → nw_ST → Prop) (hf : f4_agree K σ a1 a2 a3 a4) : nw_MT l yX4_agree cX4_agree 9 (some .int) rm4_agree P [.ref (P.2.1 0), .int a1, .int a2, .int a3, .int a4] σ (nw_Ki K) := by
  refine nw_enter (by decide) (by first | decide | exact Nat.le_of_ble_eq_true rfl) hD ?_
  intro X hl h he hR
  subst hl
  have h : nw_ok P X cX4_agree RX4 9 := h
  show nw_G P X 9 σ [(0, .ref (P.2.1 0)), (1, .int a1), (2, .int a2), (3, .int a3), (4, .int a4)] 0 []
  have hL_33 :  ∀ (σ : nw_ST), f4_agree_33 K σ → nw_G P X 9 σ [] 33 [] := by
    intro σ hf
    unfold f4_agree_33 at hf
    refine nw_bipush (pc := 33) (v := -2) h dX4_agree_33 (by decide) ?_
    exact nw_iret (pc := 35) h he dX4_agree_35 ⟨_, rfl, hf⟩
  have hL_52 :  ∀ (σ : nw_ST), f4_agree_52 K σ → nw_G P X 9 σ [] 52 [] := by
    intro σ hf
    unfold f4_agree_52 at hf
    refine nw_bipush (pc := 52) (v := -2) h dX4_agree_52 (by decide) ?_
    exact nw_iret (pc := 54) h he dX4_agree_54 ⟨_, rfl, hf⟩
  have hL_143 :  ∀ (σ : nw_ST) (y0 : Int32), f4_agree_143 K σ y0 → nw_G P X 9 σ [] 143 [.int y0] := by
    intro σ y0 hf
    unfold f4_agree_143 at hf
    exact nw_iret (pc := 143) h he dX4_agree_143 ⟨_, rfl, hf⟩
  have hB_100 : ∀ (H_100 : nw_ST → Int32 → Int32 → Int32 → Int32 → Int32 → Int32 → Prop) (hH_100 : (∀ (σ : nw_ST) (x2 : Int32) (x4 : Int32) (x5 : Int32) (x6 : Int32) (x7 : Int32) (x8 : Int32), H_100 σ x2 x4 x5 x6 x7 x8 → nw_G P X 9 σ [(0, .ref (P.2.1 0)), (2, .int x2), (4, .int x4), (5, .int x5), (6, .int x6), (7, .int x7), (8, .int x8)] 100 [])), ∀ (σ : nw_ST) (x2 : Int32) (x4 : Int32) (x5 : Int32) (x6 : Int32) (x7 : Int32) (x8 : Int32), b4_agree_100 K H_100 σ x2 x4 x5 x6 x7 x8 → nw_G P X 9 σ [(0, .ref (P.2.1 0)), (2, .int x2), (4, .int x4), (5, .int x5), (6, .int x6), (7, .int x7), (8, .int x8)] 100 [] := by
    intro H_100 hH_100 σ x2 x4 x5 x6 x7 x8 hf
    unfold b4_agree_100 at hf
    refine nw_iload (pc := 100) h dX4_agree_100 6 rfl ?_
    refine nw_iload (pc := 102) h dX4_agree_102 4 rfl ?_
    refine nw_icmp_ge (pc := 104) (tgt := 157) h dX4_agree_104 (by decide) (fun c_104 => ?_) (fun c_104 => ?_)
    · have hf := hf.1 c_104
      refine nw_iconst (pc := 157) (v := -1) h dX4_agree_157 (by decide) ?_
      exact nw_iret (pc := 158) h he dX4_agree_158 ⟨_, rfl, hf⟩
    · have hf := hf.2 c_104
      refine nw_iload (pc := 107) h dX4_agree_107 5 rfl ?_
      refine nw_aload_n (pc := 109) h dX4_agree_109 rfl 0 rfl ?_
      refine gf4_21 (pc := 110) (r := 1) h rfl rfl dX4_agree_110 ?_
      refine nw_iload_n (pc := 113) h dX4_agree_113 rfl 1 rfl ?_
      refine nw_iconst (pc := 114) (v := 2) h dX4_agree_114 (by decide) ?_
      obtain ⟨h_115, hf⟩ := hf
      refine klX4_181 (pc := 115) h (by rw [hR]; decide) rfl h_115 (Nat.le_of_ble_eq_true rfl) dX4_agree_115 ?_
      refine nw_iload (pc := 118) h dX4_agree_118 4 rfl ?_
      obtain ⟨h_120, hf⟩ := hf
      refine klX4_193 (pc := 120) h (by rw [hR]; decide) h_120 (Nat.le_of_ble_eq_true rfl) dX4_agree_120 ?_
      refine nw_if_eq (pc := 123) (tgt := 144) h dX4_agree_123 (by decide) (fun c_123 => ?_) (fun c_123 => ?_)
      · have hf := hf.1 c_123
        refine nw_iload (pc := 144) h dX4_agree_144 5 rfl ?_
        refine nw_iload (pc := 146) h dX4_agree_146 3 rfl ?_
        refine nw_iadd (pc := 148) h dX4_agree_148 ?_
        refine nw_istore (pc := 149) (lv' := [(7, .int (x7 + x5)), (0, .ref (P.2.1 0)), (2, .int x2), (4, .int x4), (5, .int x5), (6, .int x6), (8, .int x8)]) h dX4_agree_149 (by decide) rfl ?_
        refine nw_iinc (pc := 151) (v := (x8 + (1 : Int32))) (lv' := [(8, .int (x8 + (1 : Int32))), (7, .int (x7 + x5)), (0, .ref (P.2.1 0)), (2, .int x2), (4, .int x4), (5, .int x5), (6, .int x6)]) h dX4_agree_151 (j := 6) rfl rfl (by decide) rfl ?_
        refine nw_goto (pc := 154) (tgt := 100) h dX4_agree_154 (by decide) ?_
        refine nw_sub (lv' := [(0, .ref (P.2.1 0)), (2, .int x2), (4, .int x4), (5, .int x5), (6, .int x6), (7, .int (x7 + x5)), (8, .int (x8 + (1 : Int32)))]) [2, 3, 4, 5, 6, 1, 0] rfl ?_
        exact hH_100 _ _ _ _ _ _ _ (hf)
      · have hf := hf.2 c_123
        refine nw_iload (pc := 126) h dX4_agree_126 2 rfl ?_
        refine nw_if_ne (pc := 128) (tgt := 136) h dX4_agree_128 (by decide) (fun c_128 => ?_) (fun c_128 => ?_)
        · have hf := hf.2 c_128
          refine nw_iload (pc := 136) h dX4_agree_136 3 rfl ?_
          refine nw_iload (pc := 138) h dX4_agree_138 4 rfl ?_
          refine klX4_196 (pc := 140) h (by rw [hR]; decide) hf (Nat.le_of_ble_eq_true rfl) dX4_agree_140 (fun r_140 s_140 hf => ?_)
          refine nw_sub (lv' := []) [] rfl ?_
          exact hL_143 _ _ (hf)
        · have hf := hf.1 c_128
          refine nw_iload (pc := 131) h dX4_agree_131 5 rfl ?_
          refine nw_goto (pc := 133) (tgt := 143) h dX4_agree_133 (by decide) ?_
          refine nw_sub (lv' := []) [] rfl ?_
          exact hL_143 _ _ (hf)
  have hL_100 :  ∀ (n : Nat) (σ : nw_ST) (x2 : Int32) (x4 : Int32) (x5 : Int32) (x6 : Int32) (x7 : Int32) (x8 : Int32), f4_agree_100 K n σ x2 x4 x5 x6 x7 x8 → nw_G P X 9 σ [(0, .ref (P.2.1 0)), (2, .int x2), (4, .int x4), (5, .int x5), (6, .int x6), (7, .int x7), (8, .int x8)] 100 [] := by
    intro n
    induction n with
    | zero => intro σ x2 x4 x5 x6 x7 x8 hf; exact False.elim hf
    | succ n ih => exact hB_100 _ ih
  unfold f4_agree at hf
  refine nw_iload_n (pc := 0) h dX4_agree_0 rfl 1 rfl ?_
  refine nw_aload_n (pc := 1) h dX4_agree_1 rfl 0 rfl ?_
  refine gf4_21 (pc := 2) (r := 1) h rfl rfl dX4_agree_2 ?_
  refine gf4_178 (pc := 5) h rfl dX4_agree_5 ?_
  refine klX4_84 (pc := 8) h (by rw [hR]; decide) (Nat.le_of_ble_eq_true rfl) dX4_agree_8 ?_
  refine nw_if_eq (pc := 11) (tgt := 33) h dX4_agree_11 (by decide) (fun c_11 => ?_) (fun c_11 => ?_)
  · have hf := hf.1 c_11
    refine nw_sub (lv' := []) [] rfl ?_
    exact hL_33 _ (hf)
  · have hf := hf.2 c_11
    refine nw_iload_n (pc := 14) h dX4_agree_14 rfl 2 rfl ?_
    refine nw_aload_n (pc := 15) h dX4_agree_15 rfl 0 rfl ?_
    refine gf4_21 (pc := 16) (r := 1) h rfl rfl dX4_agree_16 ?_
    refine gf4_178 (pc := 19) h rfl dX4_agree_19 ?_
    refine klX4_84 (pc := 22) h (by rw [hR]; decide) (Nat.le_of_ble_eq_true rfl) dX4_agree_22 ?_
    refine nw_if_eq (pc := 25) (tgt := 33) h dX4_agree_25 (by decide) (fun c_25 => ?_) (fun c_25 => ?_)
    · have hf := hf.1 c_25
      refine nw_sub (lv' := []) [] rfl ?_
      exact hL_33 _ (hf)
    · have hf := hf.2 c_25
      refine nw_iload_n (pc := 28) h dX4_agree_28 rfl 1 rfl ?_
      refine nw_iload_n (pc := 29) h dX4_agree_29 rfl 2 rfl ?_
      refine nw_icmp_ne (pc := 30) (tgt := 36) h dX4_agree_30 (by decide) (fun c_30 => ?_) (fun c_30 => ?_)
      · have hf := hf.2 c_30
        refine nw_iload_n (pc := 36) h dX4_agree_36 rfl 3 rfl ?_
        refine klX4_117 (pc := 37) h (by rw [hR]; decide) (Nat.le_of_ble_eq_true rfl) dX4_agree_37 ?_
        refine nw_if_eq (pc := 40) (tgt := 52) h dX4_agree_40 (by decide) (fun c_40 => ?_) (fun c_40 => ?_)
        · have hf := hf.1 c_40
          refine nw_sub (lv' := []) [] rfl ?_
          exact hL_52 _ (hf)
        · have hf := hf.2 c_40
          refine nw_iload (pc := 43) h dX4_agree_43 4 rfl ?_
          refine nw_iconst (pc := 45) (v := 2) h dX4_agree_45 (by decide) ?_
          refine klX4_84 (pc := 46) h (by rw [hR]; decide) (Nat.le_of_ble_eq_true rfl) dX4_agree_46 ?_
          refine nw_if_ne (pc := 49) (tgt := 55) h dX4_agree_49 (by decide) (fun c_49 => ?_) (fun c_49 => ?_)
          · have hf := hf.2 c_49
            refine nw_aload_n (pc := 55) h dX4_agree_55 rfl 0 rfl ?_
            refine gf4_21 (pc := 56) (r := 1) h rfl rfl dX4_agree_56 ?_
            refine nw_iload_n (pc := 59) h dX4_agree_59 rfl 1 rfl ?_
            refine nw_iconst (pc := 60) (v := 1) h dX4_agree_60 (by decide) ?_
            obtain ⟨h_61, hf⟩ := hf
            refine klX4_181 (pc := 61) h (by rw [hR]; decide) rfl h_61 (Nat.le_of_ble_eq_true rfl) dX4_agree_61 ?_
            refine nw_istore (pc := 64) (lv' := [(5, .int (v2_part σ 1 a1 (1 : Int32))), (0, .ref (P.2.1 0)), (1, .int a1), (2, .int a2), (3, .int a3), (4, .int a4)]) h dX4_agree_64 (by decide) rfl ?_
            refine nw_aload_n (pc := 66) h dX4_agree_66 rfl 1 rfl ?_
            refine gf4_21 (pc := 67) (r := 1) h rfl rfl dX4_agree_67 ?_
            refine nw_iload_n (pc := 70) h dX4_agree_70 rfl 3 rfl ?_
            refine nw_iconst (pc := 71) (v := 1) h dX4_agree_71 (by decide) ?_
            obtain ⟨h_72, hf⟩ := hf
            refine klX4_181 (pc := 72) h (by rw [hR]; decide) rfl h_72 (Nat.le_of_ble_eq_true rfl) dX4_agree_72 ?_
            refine nw_istore (pc := 75) (lv' := [(6, .int (v2_part σ 1 a2 (1 : Int32))), (5, .int (v2_part σ 1 a1 (1 : Int32))), (0, .ref (P.2.1 0)), (1, .int a1), (2, .int a2), (3, .int a3), (4, .int a4)]) h dX4_agree_75 (by decide) rfl ?_
            refine nw_aload_n (pc := 77) h dX4_agree_77 rfl 2 rfl ?_
            refine nw_iload_n (pc := 78) h dX4_agree_78 rfl 3 rfl ?_
            refine nw_iload_n (pc := 79) h dX4_agree_79 rfl 5 rfl ?_
            refine nw_aload_n (pc := 80) h dX4_agree_80 rfl 2 rfl ?_
            refine gf4_21 (pc := 81) (r := 1) h rfl rfl dX4_agree_81 ?_
            refine nw_iload_n (pc := 84) h dX4_agree_84 rfl 4 rfl ?_
            refine nw_iconst (pc := 85) (v := 2) h dX4_agree_85 (by decide) ?_
            obtain ⟨h_86, hf⟩ := hf
            refine klX4_181 (pc := 86) h (by rw [hR]; decide) rfl h_86 (Nat.le_of_ble_eq_true rfl) dX4_agree_86 ?_
            refine nw_mmax (pc := 89) h nw_w144 nw_w145 nw_w146 nw_w147 (by rw [hR]; decide) (by rw [hR]; exact Nat.le_of_ble_eq_true rfl) dX4_agree_89 ?_
            obtain ⟨h_92, hf⟩ := hf
            refine klX4_190 (pc := 92) h (by rw [hR]; decide) h_92 (Nat.le_of_ble_eq_true rfl) dX4_agree_92 ?_
            refine nw_istore (pc := 95) (lv' := [(7, .int (v4_firstCrest σ a1 (if a3 < (v2_part σ 1 a2 (2 : Int32)) then (v2_part σ 1 a2 (2 : Int32)) else a3))), (6, .int (v2_part σ 1 a2 (1 : Int32))), (5, .int (v2_part σ 1 a1 (1 : Int32))), (0, .ref (P.2.1 0)), (1, .int a1), (2, .int a2), (3, .int a3), (4, .int a4)]) h dX4_agree_95 (by decide) rfl ?_
            refine nw_iconst (pc := 97) (v := 0) h dX4_agree_97 (by decide) ?_
            refine nw_istore (pc := 98) (lv' := [(8, .int (0 : Int32)), (7, .int (v4_firstCrest σ a1 (if a3 < (v2_part σ 1 a2 (2 : Int32)) then (v2_part σ 1 a2 (2 : Int32)) else a3))), (6, .int (v2_part σ 1 a2 (1 : Int32))), (5, .int (v2_part σ 1 a1 (1 : Int32))), (0, .ref (P.2.1 0)), (1, .int a1), (2, .int a2), (3, .int a3), (4, .int a4)]) h dX4_agree_98 (by decide) rfl ?_
            obtain ⟨n_100, hf⟩ := hf
            refine nw_sub (lv' := [(0, .ref (P.2.1 0)), (2, .int a2), (4, .int a4), (5, .int (v2_part σ 1 a1 (1 : Int32))), (6, .int (v2_part σ 1 a2 (1 : Int32))), (7, .int (v4_firstCrest σ a1 (if a3 < (v2_part σ 1 a2 (2 : Int32)) then (v2_part σ 1 a2 (2 : Int32)) else a3))), (8, .int (0 : Int32))]) [4, 6, 8, 3, 2, 1, 0] rfl ?_
            exact hL_100 n_100 _ _ _ _ _ _ _ hf
          · have hf := hf.1 c_49
            refine nw_sub (lv' := []) [] rfl ?_
            exact hL_52 _ (hf)
      · have hf := hf.1 c_30
        refine nw_sub (lv' := []) [] rfl ?_
        exact hL_33 _ (hf)
def v3_last (σ : nw_ST)  : Int32 := (nw_gA σ 24 (nw_gS σ 19 6).toNatClampNeg)
def o3_last (σ : nw_ST)  : Prop := (vp_in (nw_gS σ 19 6) 241)
def rm3_last : Room := { frames := 0, cells := 0, slots := 0, locals := 0 }
theorem yd3_last : yX3_last.cls = RX3 ∧ yX3_last.cls ≠ "java/lang/invoke/MethodHandle" ∧ yX3_last.cls ≠ "java/lang/invoke/VarHandle" ∧ (parseMethodDescriptor yX3_last.desc).map (fun d => d.parameters.length) = some 0 := by decide +kernel
set_option maxHeartbeats 4000000 in
set_option maxRecDepth 100000 in
theorem ct3_last (l : Launch) (P : nw_PT) (hD : nw_D P) (σ : nw_ST)   (ho : o3_last σ) : nw_MT l yX3_last cX3_last 1 (some .int) rm3_last P [.ref (P.2.1 19)] σ (nw_Ki (fun r s2 => r = (v3_last σ) ∧ s2 = σ)) := by
  refine nw_enter (by decide) (by first | decide | exact Nat.le_of_ble_eq_true rfl) hD ?_
  intro X hl h he hR
  subst hl
  have h : nw_ok P X cX3_last RX3 1 := h
  show nw_G P X 1 σ [(0, .ref (P.2.1 19))] 0 []
  unfold o3_last at ho
  refine nw_aload_n (pc := 0) h dX3_last_0 rfl 0 rfl ?_
  refine gf3_25 (pc := 1) (r := 24) h rfl rfl dX3_last_1 ?_
  refine nw_aload_n (pc := 4) h dX3_last_4 rfl 0 rfl ?_
  refine gf3_31 (pc := 5) h rfl dX3_last_5 ?_
  have h_8 := ho
  refine nw_iald (pc := 8) (n := 241) h rfl rfl h_8 dX3_last_8 ?_
  exact nw_iret (pc := 9) h he dX3_last_9 ⟨_, rfl, rfl, rfl⟩
def f4_sumOfRun_36 (K : Int32 → nw_ST → Prop) (H_6 : nw_ST → Int32 → Int32 → Int32 → Int32 → Prop) (σ : nw_ST) (x2 : Int32) (x3 : Int32) (x4 : Int32) (x5 : Int32) : Prop := (H_6 σ x2 x3 x4 (x5 + (1 : Int32)))
def b4_sumOfRun_6 (K : Int32 → nw_ST → Prop) (H_6 : nw_ST → Int32 → Int32 → Int32 → Int32 → Prop) (σ : nw_ST) (x2 : Int32) (x3 : Int32) (x4 : Int32) (x5 : Int32) : Prop := ((((x2 + x3) ≤ x5) → (K x4 σ)) ∧ (¬ ((x2 + x3) ≤ x5) → ((vp_in x5 401) ∧ ((((nw_gA σ 25 x5.toNatClampNeg) = (-1 : Int32)) → (f4_sumOfRun_36 K H_6 σ x2 x3 x4 x5)) ∧ (¬ ((nw_gA σ 25 x5.toNatClampNeg) = (-1 : Int32)) → (f4_valueOf (fun (r_30 : Int32) (s_30 : nw_ST) => (f4_sumOfRun_36 K H_6 s_30 x2 x3 (x4 + r_30) x5)) σ x5))))))
def f4_sumOfRun_6 (K : Int32 → nw_ST → Prop) : Nat → nw_ST → Int32 → Int32 → Int32 → Int32 → Prop
  | 0 => fun _ _ _ _ _ => False
  | n + 1 => b4_sumOfRun_6 K (f4_sumOfRun_6 K n)
def f4_sumOfRun (K : Int32 → nw_ST → Prop) (σ : nw_ST) (a2 : Int32) (a3 : Int32) : Prop := (∃ n, f4_sumOfRun_6 K n σ a2 a3 (0 : Int32) a2)
def rm4_sumOfRun : Room := { frames := 2, cells := 0, slots := 0, locals := 46 }
theorem yd4_sumOfRun : yX4_sumOfRun.cls = RX4 ∧ yX4_sumOfRun.cls ≠ "java/lang/invoke/MethodHandle" ∧ yX4_sumOfRun.cls ≠ "java/lang/invoke/VarHandle" ∧ (parseMethodDescriptor yX4_sumOfRun.desc).map (fun d => d.parameters.length) = some 3 := by decide +kernel
set_option maxHeartbeats 4000000 in
set_option maxRecDepth 100000 in
theorem ct4_sumOfRun (l : Launch) (P : nw_PT) (hD : nw_D P) (σ : nw_ST) (a2 : Int32) (a3 : Int32)  (K : Int32 → nw_ST → Prop) (hf : f4_sumOfRun K σ a2 a3) : nw_MT l yX4_sumOfRun cX4_sumOfRun 6 (some .int) rm4_sumOfRun P [.ref (P.2.1 0), .ref (P.2.1 19), .int a2, .int a3] σ (nw_Ki K) := by
  refine nw_enter (by decide) (by first | decide | exact Nat.le_of_ble_eq_true rfl) hD ?_
  intro X hl h he hR
  subst hl
  have h : nw_ok P X cX4_sumOfRun RX4 6 := h
  show nw_G P X 6 σ [(0, .ref (P.2.1 0)), (1, .ref (P.2.1 19)), (2, .int a2), (3, .int a3)] 0 []
  have hL_36 : ∀ (H_6 : nw_ST → Int32 → Int32 → Int32 → Int32 → Prop) (hH_6 : (∀ (σ : nw_ST) (x2 : Int32) (x3 : Int32) (x4 : Int32) (x5 : Int32), H_6 σ x2 x3 x4 x5 → nw_G P X 6 σ [(0, .ref (P.2.1 0)), (1, .ref (P.2.1 19)), (2, .int x2), (3, .int x3), (4, .int x4), (5, .int x5)] 6 [])), ∀ (σ : nw_ST) (x2 : Int32) (x3 : Int32) (x4 : Int32) (x5 : Int32), f4_sumOfRun_36 K H_6 σ x2 x3 x4 x5 → nw_G P X 6 σ [(0, .ref (P.2.1 0)), (1, .ref (P.2.1 19)), (2, .int x2), (3, .int x3), (4, .int x4), (5, .int x5)] 36 [] := by
    intro H_6 hH_6 σ x2 x3 x4 x5 hf
    unfold f4_sumOfRun_36 at hf
    refine nw_iinc (pc := 36) (v := (x5 + (1 : Int32))) (lv' := [(5, .int (x5 + (1 : Int32))), (0, .ref (P.2.1 0)), (1, .ref (P.2.1 19)), (2, .int x2), (3, .int x3), (4, .int x4)]) h dX4_sumOfRun_36 (j := 5) rfl rfl (by decide) rfl ?_
    refine nw_goto (pc := 39) (tgt := 6) h dX4_sumOfRun_39 (by decide) ?_
    refine nw_sub (lv' := [(0, .ref (P.2.1 0)), (1, .ref (P.2.1 19)), (2, .int x2), (3, .int x3), (4, .int x4), (5, .int (x5 + (1 : Int32)))]) [1, 2, 3, 4, 5, 0] rfl ?_
    exact hH_6 _ _ _ _ _ (hf)
  have hB_6 : ∀ (H_6 : nw_ST → Int32 → Int32 → Int32 → Int32 → Prop) (hH_6 : (∀ (σ : nw_ST) (x2 : Int32) (x3 : Int32) (x4 : Int32) (x5 : Int32), H_6 σ x2 x3 x4 x5 → nw_G P X 6 σ [(0, .ref (P.2.1 0)), (1, .ref (P.2.1 19)), (2, .int x2), (3, .int x3), (4, .int x4), (5, .int x5)] 6 [])), ∀ (σ : nw_ST) (x2 : Int32) (x3 : Int32) (x4 : Int32) (x5 : Int32), b4_sumOfRun_6 K H_6 σ x2 x3 x4 x5 → nw_G P X 6 σ [(0, .ref (P.2.1 0)), (1, .ref (P.2.1 19)), (2, .int x2), (3, .int x3), (4, .int x4), (5, .int x5)] 6 [] := by
    intro H_6 hH_6 σ x2 x3 x4 x5 hf
    unfold b4_sumOfRun_6 at hf
    refine nw_iload (pc := 6) h dX4_sumOfRun_6 5 rfl ?_
    refine nw_iload_n (pc := 8) h dX4_sumOfRun_8 rfl 2 rfl ?_
    refine nw_iload_n (pc := 9) h dX4_sumOfRun_9 rfl 3 rfl ?_
    refine nw_iadd (pc := 10) h dX4_sumOfRun_10 ?_
    refine nw_icmp_ge (pc := 11) (tgt := 42) h dX4_sumOfRun_11 (by decide) (fun c_11 => ?_) (fun c_11 => ?_)
    · have hf := hf.1 c_11
      refine nw_iload (pc := 42) h dX4_sumOfRun_42 4 rfl ?_
      exact nw_iret (pc := 44) h he dX4_sumOfRun_44 ⟨_, rfl, hf⟩
    · have hf := hf.2 c_11
      refine nw_aload_n (pc := 14) h dX4_sumOfRun_14 rfl 1 rfl ?_
      refine gf4_159 (pc := 15) (r := 25) h rfl rfl dX4_sumOfRun_15 ?_
      refine nw_iload (pc := 18) h dX4_sumOfRun_18 5 rfl ?_
      obtain ⟨h_20, hf⟩ := hf
      refine nw_iald (pc := 20) (n := 401) h rfl rfl h_20 dX4_sumOfRun_20 ?_
      refine nw_iconst (pc := 21) (v := -1) h dX4_sumOfRun_21 (by decide) ?_
      refine nw_icmp_eq (pc := 22) (tgt := 36) h dX4_sumOfRun_22 (by decide) (fun c_22 => ?_) (fun c_22 => ?_)
      · have hf := hf.1 c_22
        exact hL_36 H_6 hH_6 _ _ _ _ _ (hf)
      · have hf := hf.2 c_22
        refine nw_iload (pc := 25) h dX4_sumOfRun_25 4 rfl ?_
        refine nw_aload_n (pc := 27) h dX4_sumOfRun_27 rfl 0 rfl ?_
        refine nw_iload (pc := 28) h dX4_sumOfRun_28 5 rfl ?_
        refine klX4_165 (pc := 30) h (by rw [hR]; decide) hf (Nat.le_of_ble_eq_true rfl) dX4_sumOfRun_30 (fun r_30 s_30 hf => ?_)
        refine nw_iadd (pc := 33) h dX4_sumOfRun_33 ?_
        refine nw_istore (pc := 34) (lv' := [(4, .int (x4 + r_30)), (0, .ref (P.2.1 0)), (1, .ref (P.2.1 19)), (2, .int x2), (3, .int x3), (5, .int x5)]) h dX4_sumOfRun_34 (by decide) rfl ?_
        refine nw_sub (lv' := [(0, .ref (P.2.1 0)), (1, .ref (P.2.1 19)), (2, .int x2), (3, .int x3), (4, .int (x4 + r_30)), (5, .int x5)]) [1, 2, 3, 4, 0, 5] rfl ?_
        exact hL_36 H_6 hH_6 _ _ _ _ _ (hf)
  have hL_6 :  ∀ (n : Nat) (σ : nw_ST) (x2 : Int32) (x3 : Int32) (x4 : Int32) (x5 : Int32), f4_sumOfRun_6 K n σ x2 x3 x4 x5 → nw_G P X 6 σ [(0, .ref (P.2.1 0)), (1, .ref (P.2.1 19)), (2, .int x2), (3, .int x3), (4, .int x4), (5, .int x5)] 6 [] := by
    intro n
    induction n with
    | zero => intro σ x2 x3 x4 x5 hf; exact False.elim hf
    | succ n ih => exact hB_6 _ ih
  unfold f4_sumOfRun at hf
  refine nw_iconst (pc := 0) (v := 0) h dX4_sumOfRun_0 (by decide) ?_
  refine nw_istore (pc := 1) (lv' := [(4, .int (0 : Int32)), (0, .ref (P.2.1 0)), (1, .ref (P.2.1 19)), (2, .int a2), (3, .int a3)]) h dX4_sumOfRun_1 (by decide) rfl ?_
  refine nw_iload_n (pc := 3) h dX4_sumOfRun_3 rfl 3 rfl ?_
  refine nw_istore (pc := 4) (lv' := [(5, .int a2), (4, .int (0 : Int32)), (0, .ref (P.2.1 0)), (1, .ref (P.2.1 19)), (2, .int a2), (3, .int a3)]) h dX4_sumOfRun_4 (by decide) rfl ?_
  obtain ⟨n_6, hf⟩ := hf
  refine nw_sub (lv' := [(0, .ref (P.2.1 0)), (1, .ref (P.2.1 19)), (2, .int a2), (3, .int a3), (4, .int (0 : Int32)), (5, .int a2)]) [2, 3, 4, 5, 1, 0] rfl ?_
  exact hL_6 n_6 _ _ _ _ _ hf
theorem klX4_199 {P : nw_PT} {X : nw_EX} {cc : ByteArray} {nL : Nat} {σ : nw_ST} {lv : List (Nat × Value)} {pc : Nat} {rest : List Value}  (h : nw_ok P X cc RX4 nL) (hR : rm3_last.frames + 1 ≤ X.2.2.2.1.frames ∧ 8 + (1 + 11) + rm3_last.locals ≤ X.2.2.2.1.locals)  (ho : o3_last σ) (hst : (rest.map fun v => v.category).sum ≤ 8) (hd : decode cc pc = .ok (.invokevirtual 199, 3)) (k : nw_G P X nL σ lv (pc + 3) (.int (v3_last σ) :: rest)) : nw_G P X nL σ lv pc (.ref (P.2.1 19) :: rest) :=
  nw_callV (As := []) (rest := rest) (C := RX3) (ci := 3) h (ct3_last _ P h.2.2 σ  ho) (nw_goodV nw_w156 nw_w157 nw_w158 nw_w98 nw_w159) yd3_last rfl hR ⟨rfl, rfl⟩ rfl (by decide) rfl rfl hst rfl hd (fun v s2 z => by obtain ⟨r, rfl, rfl, rfl⟩ := z; exact k)
theorem klX4_203 {P : nw_PT} {X : nw_EX} {cc : ByteArray} {nL : Nat} {σ : nw_ST} {lv : List (Nat × Value)} {pc : Nat} {rest : List Value} {a2 : Int32} {a3 : Int32} (h : nw_ok P X cc RX4 nL) (hR : rm4_sumOfRun.frames + 1 ≤ X.2.2.2.1.frames ∧ 8 + (6 + 11) + rm4_sumOfRun.locals ≤ X.2.2.2.1.locals)  {K : Int32 → nw_ST → Prop} (hf : f4_sumOfRun K σ a2 a3) (hst : (rest.map fun v => v.category).sum ≤ 8) (hd : decode cc pc = .ok (.invokevirtual 203, 3)) (k : ∀ (r : Int32) (s2 : nw_ST), K r s2 → nw_G P X nL s2 lv (pc + 3) (.int r :: rest)) : nw_G P X nL σ lv pc (.int a3 :: .int a2 :: .ref (P.2.1 19) :: .ref (P.2.1 0) :: rest) :=
  nw_callV (As := [.ref (P.2.1 19), .int a2, .int a3]) (rest := rest) (C := RX4) (ci := 4) h (ct4_sumOfRun _ P h.2.2 σ a2 a3 K hf) (nw_goodV nw_w160 nw_w161 nw_w162 nw_w24 nw_w163) yd4_sumOfRun rfl hR ⟨rfl, rfl⟩ rfl (by decide) rfl rfl hst rfl hd (fun v s2 z => by obtain ⟨r, rfl, z⟩ := z; exact k r s2 z)
def f4_run_18 (K : Int32 → nw_ST → Prop) (σ : nw_ST) : Prop := (K (-2 : Int32) σ)
def f4_run_90 (K : Int32 → nw_ST → Prop) (σ : nw_ST) (y0 : Int32) : Prop := (K y0 σ)
def f4_run_73 (K : Int32 → nw_ST → Prop) (H_35 : nw_ST → Int32 → Int32 → Int32 → Int32 → Int32 → Prop) (σ : nw_ST) (x1 : Int32) (x2 : Int32) (x4 : Int32) (x5 : Int32) (x6 : Int32) : Prop := (H_35 σ x1 x2 x4 x5 (x6 + (1 : Int32)))
def b4_run_35 (K : Int32 → nw_ST → Prop) (H_35 : nw_ST → Int32 → Int32 → Int32 → Int32 → Int32 → Prop) (σ : nw_ST) (x1 : Int32) (x2 : Int32) (x4 : Int32) (x5 : Int32) (x6 : Int32) : Prop := ((o3_last σ) ∧ ((((v3_last σ) < ((x6 + x1) - (1 : Int32))) → (f4_run_90 K σ (if (x2 = 0) then x4 else x5))) ∧ (¬ ((v3_last σ) < ((x6 + x1) - (1 : Int32))) → (f4_sumOfRun (fun (r_53 : Int32) (s_53 : nw_ST) => (f4_run_73 K H_35 s_53 x1 x2 (if (r_53 ≤ x5) then x4 else x6) (if (r_53 ≤ x5) then x5 else r_53) x6)) σ x6 x1))))
def f4_run_35 (K : Int32 → nw_ST → Prop) : Nat → nw_ST → Int32 → Int32 → Int32 → Int32 → Int32 → Prop
  | 0 => fun _ _ _ _ _ _ => False
  | n + 1 => b4_run_35 K (f4_run_35 K n)
def f4_run (K : Int32 → nw_ST → Prop) (σ : nw_ST) (a1 : Int32) (a2 : Int32) : Prop := ((((v4_isFrom a1 (1 : Int32) (9 : Int32)) = 0) → (f4_run_18 K σ)) ∧ (¬ ((v4_isFrom a1 (1 : Int32) (9 : Int32)) = 0) → ((((v4_isBelow a2 (2 : Int32)) = 0) → (f4_run_18 K σ)) ∧ (¬ ((v4_isBelow a2 (2 : Int32)) = 0) → (f4_waves (fun (r_22 : Nat) (s_22 : nw_ST) => (∃ n, f4_run_35 K n s_22 a1 a2 (-1 : Int32) (-1 : Int32) (1 : Int32))) σ)))))
def rm4_run : Room := { frames := 4, cells := 0, slots := 0, locals := 91 }
theorem yd4_run : yX4_run.cls = RX4 ∧ yX4_run.cls ≠ "java/lang/invoke/MethodHandle" ∧ yX4_run.cls ≠ "java/lang/invoke/VarHandle" ∧ (parseMethodDescriptor yX4_run.desc).map (fun d => d.parameters.length) = some 2 := by decide +kernel
set_option maxHeartbeats 4000000 in
set_option maxRecDepth 100000 in
theorem ct4_run (l : Launch) (P : nw_PT) (hD : nw_D P) (σ : nw_ST) (a1 : Int32) (a2 : Int32)  (K : Int32 → nw_ST → Prop) (hf : f4_run K σ a1 a2) : nw_MT l yX4_run cX4_run 8 (some .int) rm4_run P [.ref (P.2.1 0), .int a1, .int a2] σ (nw_Ki K) := by
  refine nw_enter (by decide) (by first | decide | exact Nat.le_of_ble_eq_true rfl) hD ?_
  intro X hl h he hR
  subst hl
  have h : nw_ok P X cX4_run RX4 8 := h
  show nw_G P X 8 σ [(0, .ref (P.2.1 0)), (1, .int a1), (2, .int a2)] 0 []
  have hL_18 :  ∀ (σ : nw_ST), f4_run_18 K σ → nw_G P X 8 σ [] 18 [] := by
    intro σ hf
    unfold f4_run_18 at hf
    refine nw_bipush (pc := 18) (v := -2) h dX4_run_18 (by decide) ?_
    exact nw_iret (pc := 20) h he dX4_run_20 ⟨_, rfl, hf⟩
  have hL_90 :  ∀ (σ : nw_ST) (y0 : Int32), f4_run_90 K σ y0 → nw_G P X 8 σ [] 90 [.int y0] := by
    intro σ y0 hf
    unfold f4_run_90 at hf
    exact nw_iret (pc := 90) h he dX4_run_90 ⟨_, rfl, hf⟩
  have hL_73 : ∀ (H_35 : nw_ST → Int32 → Int32 → Int32 → Int32 → Int32 → Prop) (hH_35 : (∀ (σ : nw_ST) (x1 : Int32) (x2 : Int32) (x4 : Int32) (x5 : Int32) (x6 : Int32), H_35 σ x1 x2 x4 x5 x6 → nw_G P X 8 σ [(0, .ref (P.2.1 0)), (1, .int x1), (2, .int x2), (3, .ref (P.2.1 19)), (4, .int x4), (5, .int x5), (6, .int x6)] 35 [])), ∀ (σ : nw_ST) (x1 : Int32) (x2 : Int32) (x4 : Int32) (x5 : Int32) (x6 : Int32), f4_run_73 K H_35 σ x1 x2 x4 x5 x6 → nw_G P X 8 σ [(0, .ref (P.2.1 0)), (1, .int x1), (2, .int x2), (3, .ref (P.2.1 19)), (4, .int x4), (5, .int x5), (6, .int x6)] 73 [] := by
    intro H_35 hH_35 σ x1 x2 x4 x5 x6 hf
    unfold f4_run_73 at hf
    refine nw_iinc (pc := 73) (v := (x6 + (1 : Int32))) (lv' := [(6, .int (x6 + (1 : Int32))), (0, .ref (P.2.1 0)), (1, .int x1), (2, .int x2), (3, .ref (P.2.1 19)), (4, .int x4), (5, .int x5)]) h dX4_run_73 (j := 6) rfl rfl (by decide) rfl ?_
    refine nw_goto (pc := 76) (tgt := 35) h dX4_run_76 (by decide) ?_
    refine nw_sub (lv' := [(0, .ref (P.2.1 0)), (1, .int x1), (2, .int x2), (3, .ref (P.2.1 19)), (4, .int x4), (5, .int x5), (6, .int (x6 + (1 : Int32)))]) [1, 2, 3, 4, 5, 6, 0] rfl ?_
    exact hH_35 _ _ _ _ _ _ (hf)
  have hB_35 : ∀ (H_35 : nw_ST → Int32 → Int32 → Int32 → Int32 → Int32 → Prop) (hH_35 : (∀ (σ : nw_ST) (x1 : Int32) (x2 : Int32) (x4 : Int32) (x5 : Int32) (x6 : Int32), H_35 σ x1 x2 x4 x5 x6 → nw_G P X 8 σ [(0, .ref (P.2.1 0)), (1, .int x1), (2, .int x2), (3, .ref (P.2.1 19)), (4, .int x4), (5, .int x5), (6, .int x6)] 35 [])), ∀ (σ : nw_ST) (x1 : Int32) (x2 : Int32) (x4 : Int32) (x5 : Int32) (x6 : Int32), b4_run_35 K H_35 σ x1 x2 x4 x5 x6 → nw_G P X 8 σ [(0, .ref (P.2.1 0)), (1, .int x1), (2, .int x2), (3, .ref (P.2.1 19)), (4, .int x4), (5, .int x5), (6, .int x6)] 35 [] := by
    intro H_35 hH_35 σ x1 x2 x4 x5 x6 hf
    unfold b4_run_35 at hf
    refine nw_iload (pc := 35) h dX4_run_35 6 rfl ?_
    refine nw_iload_n (pc := 37) h dX4_run_37 rfl 1 rfl ?_
    refine nw_iadd (pc := 38) h dX4_run_38 ?_
    refine nw_iconst (pc := 39) (v := 1) h dX4_run_39 (by decide) ?_
    refine nw_isub (pc := 40) h dX4_run_40 ?_
    refine nw_aload_n (pc := 41) h dX4_run_41 rfl 3 rfl ?_
    obtain ⟨h_42, hf⟩ := hf
    refine klX4_199 (pc := 42) h (by rw [hR]; decide) h_42 (Nat.le_of_ble_eq_true rfl) dX4_run_42 ?_
    refine nw_icmp_gt (pc := 45) (tgt := 79) h dX4_run_45 (by decide) (fun c_45 => ?_) (fun c_45 => ?_)
    · have hf := hf.1 c_45
      refine nw_iload_n (pc := 79) h dX4_run_79 rfl 2 rfl ?_
      refine nw_if_ne (pc := 80) (tgt := 88) h dX4_run_80 (by decide) (fun c_80 => ?_) (fun c_80 => ?_)
      · skip
        refine nw_iload (pc := 88) h dX4_run_88 5 rfl ?_
        simp only [if_neg c_80] at hf
        refine nw_sub (lv' := []) [] rfl ?_
        exact hL_90 _ _ hf
      · skip
        refine nw_iload (pc := 83) h dX4_run_83 4 rfl ?_
        refine nw_goto (pc := 85) (tgt := 90) h dX4_run_85 (by decide) ?_
        simp only [if_pos c_80] at hf
        refine nw_sub (lv' := []) [] rfl ?_
        exact hL_90 _ _ hf
    · have hf := hf.2 c_45
      refine nw_aload_n (pc := 48) h dX4_run_48 rfl 0 rfl ?_
      refine nw_aload_n (pc := 49) h dX4_run_49 rfl 3 rfl ?_
      refine nw_iload (pc := 50) h dX4_run_50 6 rfl ?_
      refine nw_iload_n (pc := 52) h dX4_run_52 rfl 1 rfl ?_
      refine klX4_203 (pc := 53) h (by rw [hR]; decide) hf (Nat.le_of_ble_eq_true rfl) dX4_run_53 (fun r_53 s_53 hf => ?_)
      refine nw_istore (pc := 56) (lv' := [(7, .int r_53), (0, .ref (P.2.1 0)), (1, .int x1), (2, .int x2), (3, .ref (P.2.1 19)), (4, .int x4), (5, .int x5), (6, .int x6)]) h dX4_run_56 (by decide) rfl ?_
      refine nw_iload (pc := 58) h dX4_run_58 0 rfl ?_
      refine nw_iload (pc := 60) h dX4_run_60 6 rfl ?_
      refine nw_icmp_le (pc := 62) (tgt := 73) h dX4_run_62 (by decide) (fun c_62 => ?_) (fun c_62 => ?_)
      · skip
        simp only [if_pos c_62] at hf
        refine nw_sub (lv' := [(0, .ref (P.2.1 0)), (1, .int x1), (2, .int x2), (3, .ref (P.2.1 19)), (4, .int x4), (5, .int x5), (6, .int x6)]) [1, 2, 3, 4, 5, 6, 7] rfl ?_
        exact hL_73 H_35 hH_35 _ _ _ _ _ _ hf
      · skip
        refine nw_iload (pc := 65) h dX4_run_65 0 rfl ?_
        refine nw_istore (pc := 67) (lv' := [(5, .int r_53), (7, .int r_53), (0, .ref (P.2.1 0)), (1, .int x1), (2, .int x2), (3, .ref (P.2.1 19)), (4, .int x4), (6, .int x6)]) h dX4_run_67 (by decide) rfl ?_
        refine nw_iload (pc := 69) h dX4_run_69 7 rfl ?_
        refine nw_istore (pc := 71) (lv' := [(4, .int x6), (5, .int r_53), (7, .int r_53), (0, .ref (P.2.1 0)), (1, .int x1), (2, .int x2), (3, .ref (P.2.1 19)), (6, .int x6)]) h dX4_run_71 (by decide) rfl ?_
        simp only [if_neg c_62] at hf
        refine nw_sub (lv' := [(0, .ref (P.2.1 0)), (1, .int x1), (2, .int x2), (3, .ref (P.2.1 19)), (4, .int x6), (5, .int r_53), (6, .int x6)]) [3, 4, 5, 6, 0, 1, 7] rfl ?_
        exact hL_73 H_35 hH_35 _ _ _ _ _ _ hf
  have hL_35 :  ∀ (n : Nat) (σ : nw_ST) (x1 : Int32) (x2 : Int32) (x4 : Int32) (x5 : Int32) (x6 : Int32), f4_run_35 K n σ x1 x2 x4 x5 x6 → nw_G P X 8 σ [(0, .ref (P.2.1 0)), (1, .int x1), (2, .int x2), (3, .ref (P.2.1 19)), (4, .int x4), (5, .int x5), (6, .int x6)] 35 [] := by
    intro n
    induction n with
    | zero => intro σ x1 x2 x4 x5 x6 hf; exact False.elim hf
    | succ n ih => exact hB_35 _ ih
  unfold f4_run at hf
  refine nw_iload_n (pc := 0) h dX4_run_0 rfl 1 rfl ?_
  refine nw_iconst (pc := 1) (v := 1) h dX4_run_1 (by decide) ?_
  refine nw_bipush (pc := 2) (v := 9) h dX4_run_2 (by decide) ?_
  refine klX4_109 (pc := 4) h (by rw [hR]; decide) (Nat.le_of_ble_eq_true rfl) dX4_run_4 ?_
  refine nw_if_eq (pc := 7) (tgt := 18) h dX4_run_7 (by decide) (fun c_7 => ?_) (fun c_7 => ?_)
  · have hf := hf.1 c_7
    refine nw_sub (lv' := []) [] rfl ?_
    exact hL_18 _ (hf)
  · have hf := hf.2 c_7
    refine nw_iload_n (pc := 10) h dX4_run_10 rfl 2 rfl ?_
    refine nw_iconst (pc := 11) (v := 2) h dX4_run_11 (by decide) ?_
    refine klX4_84 (pc := 12) h (by rw [hR]; decide) (Nat.le_of_ble_eq_true rfl) dX4_run_12 ?_
    refine nw_if_ne (pc := 15) (tgt := 21) h dX4_run_15 (by decide) (fun c_15 => ?_) (fun c_15 => ?_)
    · have hf := hf.2 c_15
      refine nw_aload_n (pc := 21) h dX4_run_21 rfl 0 rfl ?_
      refine klX4_140 (pc := 22) h (by rw [hR]; decide) hf (Nat.le_of_ble_eq_true rfl) dX4_run_22 (fun r_22 s_22 hcr hf => ?_)
      obtain rfl := nw_q3 hcr
      refine nw_astore_n (pc := 25) (lv' := [(3, .ref (P.2.1 19)), (0, .ref (P.2.1 0)), (1, .int a1), (2, .int a2)]) h dX4_run_25 rfl (by decide) rfl ?_
      refine nw_iconst (pc := 26) (v := -1) h dX4_run_26 (by decide) ?_
      refine nw_istore (pc := 27) (lv' := [(4, .int (-1 : Int32)), (3, .ref (P.2.1 19)), (0, .ref (P.2.1 0)), (1, .int a1), (2, .int a2)]) h dX4_run_27 (by decide) rfl ?_
      refine nw_iconst (pc := 29) (v := -1) h dX4_run_29 (by decide) ?_
      refine nw_istore (pc := 30) (lv' := [(5, .int (-1 : Int32)), (4, .int (-1 : Int32)), (3, .ref (P.2.1 19)), (0, .ref (P.2.1 0)), (1, .int a1), (2, .int a2)]) h dX4_run_30 (by decide) rfl ?_
      refine nw_iconst (pc := 32) (v := 1) h dX4_run_32 (by decide) ?_
      refine nw_istore (pc := 33) (lv' := [(6, .int (1 : Int32)), (5, .int (-1 : Int32)), (4, .int (-1 : Int32)), (3, .ref (P.2.1 19)), (0, .ref (P.2.1 0)), (1, .int a1), (2, .int a2)]) h dX4_run_33 (by decide) rfl ?_
      obtain ⟨n_35, hf⟩ := hf
      refine nw_sub (lv' := [(0, .ref (P.2.1 0)), (1, .int a1), (2, .int a2), (3, .ref (P.2.1 19)), (4, .int (-1 : Int32)), (5, .int (-1 : Int32)), (6, .int (1 : Int32))]) [4, 5, 6, 3, 2, 1, 0] rfl ?_
      exact hL_35 n_35 _ _ _ _ _ _ hf
    · have hf := hf.1 c_15
      refine nw_sub (lv' := []) [] rfl ?_
      exact hL_18 _ (hf)
def f3_breakingBy_27 (K : Int32 → nw_ST → Prop) (H_4 : nw_ST → Int32 → Int32 → Int32 → Prop) (σ : nw_ST) (x1 : Int32) (x2 : Int32) (x3 : Int32) : Prop := (H_4 σ x1 x2 (x3 + (1 : Int32)))
def b3_breakingBy_4 (K : Int32 → nw_ST → Prop) (H_4 : nw_ST → Int32 → Int32 → Int32 → Prop) (σ : nw_ST) (x1 : Int32) (x2 : Int32) (x3 : Int32) : Prop := ((((240 : Int32) ≤ x3) → (K x2 σ)) ∧ (¬ ((240 : Int32) ≤ x3) → ((vp_in x3 240) ∧ (f3_breakingBy_27 K H_4 σ x1 (if ((v4_breaksAt (nw_gA σ 20 x3.toNatClampNeg) x1) = 0) then x2 else (x2 + (1 : Int32))) x3))))
def f3_breakingBy_4 (K : Int32 → nw_ST → Prop) : Nat → nw_ST → Int32 → Int32 → Int32 → Prop
  | 0 => fun _ _ _ _ => False
  | n + 1 => b3_breakingBy_4 K (f3_breakingBy_4 K n)
def f3_breakingBy (K : Int32 → nw_ST → Prop) (σ : nw_ST) (a1 : Int32) : Prop := (∃ n, f3_breakingBy_4 K n σ a1 (0 : Int32) (0 : Int32))
def rm3_breakingBy : Room := { frames := 1, cells := 0, slots := 0, locals := 21 }
theorem yd3_breakingBy : yX3_breakingBy.cls = RX3 ∧ yX3_breakingBy.cls ≠ "java/lang/invoke/MethodHandle" ∧ yX3_breakingBy.cls ≠ "java/lang/invoke/VarHandle" ∧ (parseMethodDescriptor yX3_breakingBy.desc).map (fun d => d.parameters.length) = some 1 := by decide +kernel
set_option maxHeartbeats 4000000 in
set_option maxRecDepth 100000 in
theorem ct3_breakingBy (l : Launch) (P : nw_PT) (hD : nw_D P) (σ : nw_ST) (a1 : Int32)  (K : Int32 → nw_ST → Prop) (hf : f3_breakingBy K σ a1) : nw_MT l yX3_breakingBy cX3_breakingBy 4 (some .int) rm3_breakingBy P [.ref (P.2.1 19), .int a1] σ (nw_Ki K) := by
  refine nw_enter (by decide) (by first | decide | exact Nat.le_of_ble_eq_true rfl) hD ?_
  intro X hl h he hR
  subst hl
  have h : nw_ok P X cX3_breakingBy RX3 4 := h
  show nw_G P X 4 σ [(0, .ref (P.2.1 19)), (1, .int a1)] 0 []
  have hL_27 : ∀ (H_4 : nw_ST → Int32 → Int32 → Int32 → Prop) (hH_4 : (∀ (σ : nw_ST) (x1 : Int32) (x2 : Int32) (x3 : Int32), H_4 σ x1 x2 x3 → nw_G P X 4 σ [(0, .ref (P.2.1 19)), (1, .int x1), (2, .int x2), (3, .int x3)] 4 [])), ∀ (σ : nw_ST) (x1 : Int32) (x2 : Int32) (x3 : Int32), f3_breakingBy_27 K H_4 σ x1 x2 x3 → nw_G P X 4 σ [(0, .ref (P.2.1 19)), (1, .int x1), (2, .int x2), (3, .int x3)] 27 [] := by
    intro H_4 hH_4 σ x1 x2 x3 hf
    unfold f3_breakingBy_27 at hf
    refine nw_iinc (pc := 27) (v := (x3 + (1 : Int32))) (lv' := [(3, .int (x3 + (1 : Int32))), (0, .ref (P.2.1 19)), (1, .int x1), (2, .int x2)]) h dX3_breakingBy_27 (j := 3) rfl rfl (by decide) rfl ?_
    refine nw_goto (pc := 30) (tgt := 4) h dX3_breakingBy_30 (by decide) ?_
    refine nw_sub (lv' := [(0, .ref (P.2.1 19)), (1, .int x1), (2, .int x2), (3, .int (x3 + (1 : Int32)))]) [1, 2, 3, 0] rfl ?_
    exact hH_4 _ _ _ _ (hf)
  have hB_4 : ∀ (H_4 : nw_ST → Int32 → Int32 → Int32 → Prop) (hH_4 : (∀ (σ : nw_ST) (x1 : Int32) (x2 : Int32) (x3 : Int32), H_4 σ x1 x2 x3 → nw_G P X 4 σ [(0, .ref (P.2.1 19)), (1, .int x1), (2, .int x2), (3, .int x3)] 4 [])), ∀ (σ : nw_ST) (x1 : Int32) (x2 : Int32) (x3 : Int32), b3_breakingBy_4 K H_4 σ x1 x2 x3 → nw_G P X 4 σ [(0, .ref (P.2.1 19)), (1, .int x1), (2, .int x2), (3, .int x3)] 4 [] := by
    intro H_4 hH_4 σ x1 x2 x3 hf
    unfold b3_breakingBy_4 at hf
    refine nw_iload_n (pc := 4) h dX3_breakingBy_4 rfl 3 rfl ?_
    refine nw_sipush (pc := 5) (v := 240) h dX3_breakingBy_5 (by decide) ?_
    refine nw_icmp_ge (pc := 8) (tgt := 33) h dX3_breakingBy_8 (by decide) (fun c_8 => ?_) (fun c_8 => ?_)
    · have hf := hf.1 c_8
      refine nw_iload_n (pc := 33) h dX3_breakingBy_33 rfl 2 rfl ?_
      exact nw_iret (pc := 34) h he dX3_breakingBy_34 ⟨_, rfl, hf⟩
    · have hf := hf.2 c_8
      refine nw_aload_n (pc := 11) h dX3_breakingBy_11 rfl 0 rfl ?_
      refine gf3_9 (pc := 12) (r := 20) h rfl rfl dX3_breakingBy_12 ?_
      refine nw_iload_n (pc := 15) h dX3_breakingBy_15 rfl 3 rfl ?_
      obtain ⟨h_16, hf⟩ := hf
      refine nw_iald (pc := 16) (n := 240) h rfl rfl h_16 dX3_breakingBy_16 ?_
      refine nw_iload_n (pc := 17) h dX3_breakingBy_17 rfl 1 rfl ?_
      refine klX3_35 (pc := 18) h (by rw [hR]; decide) (Nat.le_of_ble_eq_true rfl) dX3_breakingBy_18 ?_
      refine nw_if_eq (pc := 21) (tgt := 27) h dX3_breakingBy_21 (by decide) (fun c_21 => ?_) (fun c_21 => ?_)
      · skip
        simp only [if_pos c_21] at hf
        exact hL_27 H_4 hH_4 _ _ _ _ hf
      · skip
        refine nw_iinc (pc := 24) (v := (x2 + (1 : Int32))) (lv' := [(2, .int (x2 + (1 : Int32))), (0, .ref (P.2.1 19)), (1, .int x1), (3, .int x3)]) h dX3_breakingBy_24 (j := 2) rfl rfl (by decide) rfl ?_
        simp only [if_neg c_21] at hf
        refine nw_sub (lv' := [(0, .ref (P.2.1 19)), (1, .int x1), (2, .int (x2 + (1 : Int32))), (3, .int x3)]) [1, 2, 0, 3] rfl ?_
        exact hL_27 H_4 hH_4 _ _ _ _ hf
  have hL_4 :  ∀ (n : Nat) (σ : nw_ST) (x1 : Int32) (x2 : Int32) (x3 : Int32), f3_breakingBy_4 K n σ x1 x2 x3 → nw_G P X 4 σ [(0, .ref (P.2.1 19)), (1, .int x1), (2, .int x2), (3, .int x3)] 4 [] := by
    intro n
    induction n with
    | zero => intro σ x1 x2 x3 hf; exact False.elim hf
    | succ n ih => exact hB_4 _ ih
  unfold f3_breakingBy at hf
  refine nw_iconst (pc := 0) (v := 0) h dX3_breakingBy_0 (by decide) ?_
  refine nw_istore_n (pc := 1) (lv' := [(2, .int (0 : Int32)), (0, .ref (P.2.1 19)), (1, .int a1)]) h dX3_breakingBy_1 rfl (by decide) rfl ?_
  refine nw_iconst (pc := 2) (v := 0) h dX3_breakingBy_2 (by decide) ?_
  refine nw_istore_n (pc := 3) (lv' := [(3, .int (0 : Int32)), (2, .int (0 : Int32)), (0, .ref (P.2.1 19)), (1, .int a1)]) h dX3_breakingBy_3 rfl (by decide) rfl ?_
  obtain ⟨n_4, hf⟩ := hf
  refine nw_sub (lv' := [(0, .ref (P.2.1 19)), (1, .int a1), (2, .int (0 : Int32)), (3, .int (0 : Int32))]) [2, 3, 1, 0] rfl ?_
  exact hL_4 n_4 _ _ _ _ hf
theorem klX4_207 {P : nw_PT} {X : nw_EX} {cc : ByteArray} {nL : Nat} {σ : nw_ST} {lv : List (Nat × Value)} {pc : Nat} {rest : List Value} {a1 : Int32} (h : nw_ok P X cc RX4 nL) (hR : rm3_breakingBy.frames + 1 ≤ X.2.2.2.1.frames ∧ 8 + (4 + 11) + rm3_breakingBy.locals ≤ X.2.2.2.1.locals)  {K : Int32 → nw_ST → Prop} (hf : f3_breakingBy K σ a1) (hst : (rest.map fun v => v.category).sum ≤ 8) (hd : decode cc pc = .ok (.invokevirtual 207, 3)) (k : ∀ (r : Int32) (s2 : nw_ST), K r s2 → nw_G P X nL s2 lv (pc + 3) (.int r :: rest)) : nw_G P X nL σ lv pc (.int a1 :: .ref (P.2.1 19) :: rest) :=
  nw_callV (As := [.int a1]) (rest := rest) (C := RX3) (ci := 3) h (ct3_breakingBy _ P h.2.2 σ a1 K hf) (nw_goodV nw_w164 nw_w165 nw_w166 nw_w98 nw_w167) yd3_breakingBy rfl hR ⟨rfl, rfl⟩ rfl (by decide) rfl rfl hst rfl hd (fun v s2 z => by obtain ⟨r, rfl, z⟩ := z; exact k r s2 z)
def b4_bar_21 (K : Int32 → nw_ST → Prop) (H_21 : nw_ST → Int32 → Int32 → Prop) (σ : nw_ST) (x1 : Int32) (x3 : Int32) : Prop := ((((55 : Int32) ≤ x3) → (K (55 : Int32) σ)) ∧ (¬ ((55 : Int32) ≤ x3) → (f3_breakingBy (fun (r_29 : Int32) (s_29 : nw_ST) => (((x1 < r_29) → (H_21 s_29 x1 (x3 + (1 : Int32)))) ∧ (¬ (x1 < r_29) → (K x3 s_29)))) σ x3)))
def f4_bar_21 (K : Int32 → nw_ST → Prop) : Nat → nw_ST → Int32 → Int32 → Prop
  | 0 => fun _ _ _ => False
  | n + 1 => b4_bar_21 K (f4_bar_21 K n)
def f4_bar (K : Int32 → nw_ST → Prop) (σ : nw_ST) (a1 : Int32) : Prop := ((((v4_isFrom a1 (0 : Int32) (240 : Int32)) = 0) → (K (-2 : Int32) σ)) ∧ (¬ ((v4_isFrom a1 (0 : Int32) (240 : Int32)) = 0) → (f4_waves (fun (r_15 : Nat) (s_15 : nw_ST) => (∃ n, f4_bar_21 K n s_15 a1 (0 : Int32))) σ)))
def rm4_bar : Room := { frames := 4, cells := 0, slots := 0, locals := 91 }
theorem yd4_bar : yX4_bar.cls = RX4 ∧ yX4_bar.cls ≠ "java/lang/invoke/MethodHandle" ∧ yX4_bar.cls ≠ "java/lang/invoke/VarHandle" ∧ (parseMethodDescriptor yX4_bar.desc).map (fun d => d.parameters.length) = some 1 := by decide +kernel
set_option maxHeartbeats 4000000 in
set_option maxRecDepth 100000 in
theorem ct4_bar (l : Launch) (P : nw_PT) (hD : nw_D P) (σ : nw_ST) (a1 : Int32)  (K : Int32 → nw_ST → Prop) (hf : f4_bar K σ a1) : nw_MT l yX4_bar cX4_bar 4 (some .int) rm4_bar P [.ref (P.2.1 0), .int a1] σ (nw_Ki K) := by
  refine nw_enter (by decide) (by first | decide | exact Nat.le_of_ble_eq_true rfl) hD ?_
  intro X hl h he hR
  subst hl
  have h : nw_ok P X cX4_bar RX4 4 := h
  show nw_G P X 4 σ [(0, .ref (P.2.1 0)), (1, .int a1)] 0 []
  have hB_21 : ∀ (H_21 : nw_ST → Int32 → Int32 → Prop) (hH_21 : (∀ (σ : nw_ST) (x1 : Int32) (x3 : Int32), H_21 σ x1 x3 → nw_G P X 4 σ [(1, .int x1), (2, .ref (P.2.1 19)), (3, .int x3)] 21 [])), ∀ (σ : nw_ST) (x1 : Int32) (x3 : Int32), b4_bar_21 K H_21 σ x1 x3 → nw_G P X 4 σ [(1, .int x1), (2, .ref (P.2.1 19)), (3, .int x3)] 21 [] := by
    intro H_21 hH_21 σ x1 x3 hf
    unfold b4_bar_21 at hf
    refine nw_iload_n (pc := 21) h dX4_bar_21 rfl 2 rfl ?_
    refine nw_bipush (pc := 22) (v := 55) h dX4_bar_22 (by decide) ?_
    refine nw_icmp_ge (pc := 24) (tgt := 44) h dX4_bar_24 (by decide) (fun c_24 => ?_) (fun c_24 => ?_)
    · have hf := hf.1 c_24
      refine nw_bipush (pc := 44) (v := 55) h dX4_bar_44 (by decide) ?_
      exact nw_iret (pc := 46) h he dX4_bar_46 ⟨_, rfl, hf⟩
    · have hf := hf.2 c_24
      refine nw_aload_n (pc := 27) h dX4_bar_27 rfl 1 rfl ?_
      refine nw_iload_n (pc := 28) h dX4_bar_28 rfl 2 rfl ?_
      refine klX4_207 (pc := 29) h (by rw [hR]; decide) hf (Nat.le_of_ble_eq_true rfl) dX4_bar_29 (fun r_29 s_29 hf => ?_)
      refine nw_iload_n (pc := 32) h dX4_bar_32 rfl 0 rfl ?_
      refine nw_icmp_gt (pc := 33) (tgt := 38) h dX4_bar_33 (by decide) (fun c_33 => ?_) (fun c_33 => ?_)
      · have hf := hf.1 c_33
        refine nw_iinc (pc := 38) (v := (x3 + (1 : Int32))) (lv' := [(3, .int (x3 + (1 : Int32))), (1, .int x1), (2, .ref (P.2.1 19))]) h dX4_bar_38 (j := 2) rfl rfl (by decide) rfl ?_
        refine nw_goto (pc := 41) (tgt := 21) h dX4_bar_41 (by decide) ?_
        refine nw_sub (lv' := [(1, .int x1), (2, .ref (P.2.1 19)), (3, .int (x3 + (1 : Int32)))]) [1, 2, 0] rfl ?_
        exact hH_21 _ _ _ (hf)
      · have hf := hf.2 c_33
        refine nw_iload_n (pc := 36) h dX4_bar_36 rfl 2 rfl ?_
        exact nw_iret (pc := 37) h he dX4_bar_37 ⟨_, rfl, hf⟩
  have hL_21 :  ∀ (n : Nat) (σ : nw_ST) (x1 : Int32) (x3 : Int32), f4_bar_21 K n σ x1 x3 → nw_G P X 4 σ [(1, .int x1), (2, .ref (P.2.1 19)), (3, .int x3)] 21 [] := by
    intro n
    induction n with
    | zero => intro σ x1 x3 hf; exact False.elim hf
    | succ n ih => exact hB_21 _ ih
  unfold f4_bar at hf
  refine nw_iload_n (pc := 0) h dX4_bar_0 rfl 1 rfl ?_
  refine nw_iconst (pc := 1) (v := 0) h dX4_bar_1 (by decide) ?_
  refine nw_sipush (pc := 2) (v := 240) h dX4_bar_2 (by decide) ?_
  refine klX4_109 (pc := 5) h (by rw [hR]; decide) (Nat.le_of_ble_eq_true rfl) dX4_bar_5 ?_
  refine nw_if_ne (pc := 8) (tgt := 14) h dX4_bar_8 (by decide) (fun c_8 => ?_) (fun c_8 => ?_)
  · have hf := hf.2 c_8
    refine nw_aload_n (pc := 14) h dX4_bar_14 rfl 0 rfl ?_
    refine klX4_140 (pc := 15) h (by rw [hR]; decide) hf (Nat.le_of_ble_eq_true rfl) dX4_bar_15 (fun r_15 s_15 hcr hf => ?_)
    obtain rfl := nw_q3 hcr
    refine nw_astore_n (pc := 18) (lv' := [(2, .ref (P.2.1 19)), (0, .ref (P.2.1 0)), (1, .int a1)]) h dX4_bar_18 rfl (by decide) rfl ?_
    refine nw_iconst (pc := 19) (v := 0) h dX4_bar_19 (by decide) ?_
    refine nw_istore_n (pc := 20) (lv' := [(3, .int (0 : Int32)), (2, .ref (P.2.1 19)), (0, .ref (P.2.1 0)), (1, .int a1)]) h dX4_bar_20 rfl (by decide) rfl ?_
    obtain ⟨n_21, hf⟩ := hf
    refine nw_sub (lv' := [(1, .int a1), (2, .ref (P.2.1 19)), (3, .int (0 : Int32))]) [3, 1, 0] rfl ?_
    exact hL_21 n_21 _ _ _ hf
  · have hf := hf.1 c_8
    refine nw_bipush (pc := 11) (v := -2) h dX4_bar_11 (by decide) ?_
    exact nw_iret (pc := 13) h he dX4_bar_13 ⟨_, rfl, hf⟩
def f4_earn_17 (K : Int32 → nw_ST → Prop) (σ : nw_ST) : Prop := (K (-2 : Int32) σ)
def f4_earn_111 (K : Int32 → nw_ST → Prop) (σ : nw_ST) (y0 : Int32) : Prop := (K y0 σ)
def f4_earn_79 (K : Int32 → nw_ST → Prop) (H_34 : nw_ST → Int32 → Int32 → Int32 → Int32 → Int32 → Prop) (σ : nw_ST) (x1 : Int32) (x2 : Int32) (x4 : Int32) (x5 : Int32) (x6 : Int32) : Prop := (H_34 σ x1 x2 x4 x5 (x6 + (1 : Int32)))
def b4_earn_34 (K : Int32 → nw_ST → Prop) (H_34 : nw_ST → Int32 → Int32 → Int32 → Int32 → Int32 → Prop) (σ : nw_ST) (x1 : Int32) (x2 : Int32) (x4 : Int32) (x5 : Int32) (x6 : Int32) : Prop := ((((400 : Int32) < x6) → (((x4 = (-1 : Int32)) → (K (-1 : Int32) σ)) ∧ (¬ (x4 = (-1 : Int32)) → (((x2 = 0) → (f4_earn_111 K σ x4)) ∧ (¬ (x2 = 0) → (f4_claimsBy (fun (r_105 : Int32) (s_105 : nw_ST) => (f4_earn_111 K s_105 (r_105 + x5))) σ x1)))))) ∧ (¬ ((400 : Int32) < x6) → (f0_firstWithSecond (fun (r_48 : Int32) (s_48 : nw_ST) => (((r_48 = (-1 : Int32)) → (f4_worthOf (fun (r_59 : Int32) (s_59 : nw_ST) => (f4_earn_79 K H_34 s_59 x1 x2 (if (r_59 ≤ x5) then x4 else x6) (if (r_59 ≤ x5) then x5 else r_59) x6)) s_48 x6)) ∧ (¬ (r_48 = (-1 : Int32)) → (f4_earn_79 K H_34 s_48 x1 x2 x4 x5 x6)))) σ 13 x6)))
def f4_earn_34 (K : Int32 → nw_ST → Prop) : Nat → nw_ST → Int32 → Int32 → Int32 → Int32 → Int32 → Prop
  | 0 => fun _ _ _ _ _ _ => False
  | n + 1 => b4_earn_34 K (f4_earn_34 K n)
def f4_earn (K : Int32 → nw_ST → Prop) (σ : nw_ST) (a1 : Int32) (a2 : Int32) : Prop := ((((v4_isBelow a1 (8 : Int32)) = 0) → (f4_earn_17 K σ)) ∧ (¬ ((v4_isBelow a1 (8 : Int32)) = 0) → ((((v4_isBelow a2 (2 : Int32)) = 0) → (f4_earn_17 K σ)) ∧ (¬ ((v4_isBelow a2 (2 : Int32)) = 0) → (f4_waves (fun (r_21 : Nat) (s_21 : nw_ST) => (∃ n, f4_earn_34 K n s_21 a1 a2 (-1 : Int32) (0 : Int32) (1 : Int32))) σ)))))
def rm4_earn : Room := { frames := 4, cells := 0, slots := 0, locals := 96 }
theorem yd4_earn : yX4_earn.cls = RX4 ∧ yX4_earn.cls ≠ "java/lang/invoke/MethodHandle" ∧ yX4_earn.cls ≠ "java/lang/invoke/VarHandle" ∧ (parseMethodDescriptor yX4_earn.desc).map (fun d => d.parameters.length) = some 2 := by decide +kernel
set_option maxHeartbeats 4000000 in
set_option maxRecDepth 100000 in
theorem ct4_earn (l : Launch) (P : nw_PT) (hD : nw_D P) (σ : nw_ST) (a1 : Int32) (a2 : Int32)  (K : Int32 → nw_ST → Prop) (hf : f4_earn K σ a1 a2) : nw_MT l yX4_earn cX4_earn 8 (some .int) rm4_earn P [.ref (P.2.1 0), .int a1, .int a2] σ (nw_Ki K) := by
  refine nw_enter (by decide) (by first | decide | exact Nat.le_of_ble_eq_true rfl) hD ?_
  intro X hl h he hR
  subst hl
  have h : nw_ok P X cX4_earn RX4 8 := h
  show nw_G P X 8 σ [(0, .ref (P.2.1 0)), (1, .int a1), (2, .int a2)] 0 []
  have hL_17 :  ∀ (σ : nw_ST), f4_earn_17 K σ → nw_G P X 8 σ [] 17 [] := by
    intro σ hf
    unfold f4_earn_17 at hf
    refine nw_bipush (pc := 17) (v := -2) h dX4_earn_17 (by decide) ?_
    exact nw_iret (pc := 19) h he dX4_earn_19 ⟨_, rfl, hf⟩
  have hL_111 :  ∀ (σ : nw_ST) (y0 : Int32), f4_earn_111 K σ y0 → nw_G P X 8 σ [] 111 [.int y0] := by
    intro σ y0 hf
    unfold f4_earn_111 at hf
    exact nw_iret (pc := 111) h he dX4_earn_111 ⟨_, rfl, hf⟩
  have hL_79 : ∀ (H_34 : nw_ST → Int32 → Int32 → Int32 → Int32 → Int32 → Prop) (hH_34 : (∀ (σ : nw_ST) (x1 : Int32) (x2 : Int32) (x4 : Int32) (x5 : Int32) (x6 : Int32), H_34 σ x1 x2 x4 x5 x6 → nw_G P X 8 σ [(0, .ref (P.2.1 0)), (1, .int x1), (2, .int x2), (3, .ref (P.2.1 19)), (4, .int x4), (5, .int x5), (6, .int x6)] 34 [])), ∀ (σ : nw_ST) (x1 : Int32) (x2 : Int32) (x4 : Int32) (x5 : Int32) (x6 : Int32), f4_earn_79 K H_34 σ x1 x2 x4 x5 x6 → nw_G P X 8 σ [(0, .ref (P.2.1 0)), (1, .int x1), (2, .int x2), (3, .ref (P.2.1 19)), (4, .int x4), (5, .int x5), (6, .int x6)] 79 [] := by
    intro H_34 hH_34 σ x1 x2 x4 x5 x6 hf
    unfold f4_earn_79 at hf
    refine nw_iinc (pc := 79) (v := (x6 + (1 : Int32))) (lv' := [(6, .int (x6 + (1 : Int32))), (0, .ref (P.2.1 0)), (1, .int x1), (2, .int x2), (3, .ref (P.2.1 19)), (4, .int x4), (5, .int x5)]) h dX4_earn_79 (j := 6) rfl rfl (by decide) rfl ?_
    refine nw_goto (pc := 82) (tgt := 34) h dX4_earn_82 (by decide) ?_
    refine nw_sub (lv' := [(0, .ref (P.2.1 0)), (1, .int x1), (2, .int x2), (3, .ref (P.2.1 19)), (4, .int x4), (5, .int x5), (6, .int (x6 + (1 : Int32)))]) [1, 2, 3, 4, 5, 6, 0] rfl ?_
    exact hH_34 _ _ _ _ _ _ (hf)
  have hB_34 : ∀ (H_34 : nw_ST → Int32 → Int32 → Int32 → Int32 → Int32 → Prop) (hH_34 : (∀ (σ : nw_ST) (x1 : Int32) (x2 : Int32) (x4 : Int32) (x5 : Int32) (x6 : Int32), H_34 σ x1 x2 x4 x5 x6 → nw_G P X 8 σ [(0, .ref (P.2.1 0)), (1, .int x1), (2, .int x2), (3, .ref (P.2.1 19)), (4, .int x4), (5, .int x5), (6, .int x6)] 34 [])), ∀ (σ : nw_ST) (x1 : Int32) (x2 : Int32) (x4 : Int32) (x5 : Int32) (x6 : Int32), b4_earn_34 K H_34 σ x1 x2 x4 x5 x6 → nw_G P X 8 σ [(0, .ref (P.2.1 0)), (1, .int x1), (2, .int x2), (3, .ref (P.2.1 19)), (4, .int x4), (5, .int x5), (6, .int x6)] 34 [] := by
    intro H_34 hH_34 σ x1 x2 x4 x5 x6 hf
    unfold b4_earn_34 at hf
    refine nw_iload (pc := 34) h dX4_earn_34 6 rfl ?_
    refine nw_sipush (pc := 36) (v := 400) h dX4_earn_36 (by decide) ?_
    refine nw_icmp_gt (pc := 39) (tgt := 85) h dX4_earn_39 (by decide) (fun c_39 => ?_) (fun c_39 => ?_)
    · have hf := hf.1 c_39
      refine nw_iload (pc := 85) h dX4_earn_85 4 rfl ?_
      refine nw_iconst (pc := 87) (v := -1) h dX4_earn_87 (by decide) ?_
      refine nw_icmp_ne (pc := 88) (tgt := 93) h dX4_earn_88 (by decide) (fun c_88 => ?_) (fun c_88 => ?_)
      · have hf := hf.2 c_88
        refine nw_iload_n (pc := 93) h dX4_earn_93 rfl 2 rfl ?_
        refine nw_if_ne (pc := 94) (tgt := 102) h dX4_earn_94 (by decide) (fun c_94 => ?_) (fun c_94 => ?_)
        · have hf := hf.2 c_94
          refine nw_aload_n (pc := 102) h dX4_earn_102 rfl 0 rfl ?_
          refine nw_aload_n (pc := 103) h dX4_earn_103 rfl 3 rfl ?_
          refine nw_iload_n (pc := 104) h dX4_earn_104 rfl 1 rfl ?_
          refine klX4_168 (pc := 105) h (by rw [hR]; decide) hf (Nat.le_of_ble_eq_true rfl) dX4_earn_105 (fun r_105 s_105 hf => ?_)
          refine nw_iload (pc := 108) h dX4_earn_108 5 rfl ?_
          refine nw_iadd (pc := 110) h dX4_earn_110 ?_
          refine nw_sub (lv' := []) [] rfl ?_
          exact hL_111 _ _ (hf)
        · have hf := hf.1 c_94
          refine nw_iload (pc := 97) h dX4_earn_97 4 rfl ?_
          refine nw_goto (pc := 99) (tgt := 111) h dX4_earn_99 (by decide) ?_
          refine nw_sub (lv' := []) [] rfl ?_
          exact hL_111 _ _ (hf)
      · have hf := hf.1 c_88
        refine nw_iconst (pc := 91) (v := -1) h dX4_earn_91 (by decide) ?_
        exact nw_iret (pc := 92) h he dX4_earn_92 ⟨_, rfl, hf⟩
    · have hf := hf.2 c_39
      refine nw_aload_n (pc := 42) h dX4_earn_42 rfl 0 rfl ?_
      refine gf4_46 (pc := 43) (r := 13) h rfl rfl dX4_earn_43 ?_
      refine nw_iload (pc := 46) h dX4_earn_46 6 rfl ?_
      refine klX4_175 (pc := 48) h (by rw [hR]; decide) rfl hf (Nat.le_of_ble_eq_true rfl) dX4_earn_48 (fun r_48 s_48 hf => ?_)
      refine nw_iconst (pc := 51) (v := -1) h dX4_earn_51 (by decide) ?_
      refine nw_icmp_ne (pc := 52) (tgt := 79) h dX4_earn_52 (by decide) (fun c_52 => ?_) (fun c_52 => ?_)
      · have hf := hf.2 c_52
        exact hL_79 H_34 hH_34 _ _ _ _ _ _ (hf)
      · have hf := hf.1 c_52
        refine nw_aload_n (pc := 55) h dX4_earn_55 rfl 0 rfl ?_
        refine nw_aload_n (pc := 56) h dX4_earn_56 rfl 3 rfl ?_
        refine nw_iload (pc := 57) h dX4_earn_57 6 rfl ?_
        refine klX4_210 (pc := 59) h (by rw [hR]; decide) hf (Nat.le_of_ble_eq_true rfl) dX4_earn_59 (fun r_59 s_59 hf => ?_)
        refine nw_istore (pc := 62) (lv' := [(7, .int r_59), (0, .ref (P.2.1 0)), (1, .int x1), (2, .int x2), (3, .ref (P.2.1 19)), (4, .int x4), (5, .int x5), (6, .int x6)]) h dX4_earn_62 (by decide) rfl ?_
        refine nw_iload (pc := 64) h dX4_earn_64 0 rfl ?_
        refine nw_iload (pc := 66) h dX4_earn_66 6 rfl ?_
        refine nw_icmp_le (pc := 68) (tgt := 79) h dX4_earn_68 (by decide) (fun c_68 => ?_) (fun c_68 => ?_)
        · skip
          simp only [if_pos c_68] at hf
          refine nw_sub (lv' := [(0, .ref (P.2.1 0)), (1, .int x1), (2, .int x2), (3, .ref (P.2.1 19)), (4, .int x4), (5, .int x5), (6, .int x6)]) [1, 2, 3, 4, 5, 6, 7] rfl ?_
          exact hL_79 H_34 hH_34 _ _ _ _ _ _ hf
        · skip
          refine nw_iload (pc := 71) h dX4_earn_71 0 rfl ?_
          refine nw_istore (pc := 73) (lv' := [(5, .int r_59), (7, .int r_59), (0, .ref (P.2.1 0)), (1, .int x1), (2, .int x2), (3, .ref (P.2.1 19)), (4, .int x4), (6, .int x6)]) h dX4_earn_73 (by decide) rfl ?_
          refine nw_iload (pc := 75) h dX4_earn_75 7 rfl ?_
          refine nw_istore (pc := 77) (lv' := [(4, .int x6), (5, .int r_59), (7, .int r_59), (0, .ref (P.2.1 0)), (1, .int x1), (2, .int x2), (3, .ref (P.2.1 19)), (6, .int x6)]) h dX4_earn_77 (by decide) rfl ?_
          simp only [if_neg c_68] at hf
          refine nw_sub (lv' := [(0, .ref (P.2.1 0)), (1, .int x1), (2, .int x2), (3, .ref (P.2.1 19)), (4, .int x6), (5, .int r_59), (6, .int x6)]) [3, 4, 5, 6, 0, 1, 7] rfl ?_
          exact hL_79 H_34 hH_34 _ _ _ _ _ _ hf
  have hL_34 :  ∀ (n : Nat) (σ : nw_ST) (x1 : Int32) (x2 : Int32) (x4 : Int32) (x5 : Int32) (x6 : Int32), f4_earn_34 K n σ x1 x2 x4 x5 x6 → nw_G P X 8 σ [(0, .ref (P.2.1 0)), (1, .int x1), (2, .int x2), (3, .ref (P.2.1 19)), (4, .int x4), (5, .int x5), (6, .int x6)] 34 [] := by
    intro n
    induction n with
    | zero => intro σ x1 x2 x4 x5 x6 hf; exact False.elim hf
    | succ n ih => exact hB_34 _ ih
  unfold f4_earn at hf
  refine nw_iload_n (pc := 0) h dX4_earn_0 rfl 1 rfl ?_
  refine nw_bipush (pc := 1) (v := 8) h dX4_earn_1 (by decide) ?_
  refine klX4_84 (pc := 3) h (by rw [hR]; decide) (Nat.le_of_ble_eq_true rfl) dX4_earn_3 ?_
  refine nw_if_eq (pc := 6) (tgt := 17) h dX4_earn_6 (by decide) (fun c_6 => ?_) (fun c_6 => ?_)
  · have hf := hf.1 c_6
    refine nw_sub (lv' := []) [] rfl ?_
    exact hL_17 _ (hf)
  · have hf := hf.2 c_6
    refine nw_iload_n (pc := 9) h dX4_earn_9 rfl 2 rfl ?_
    refine nw_iconst (pc := 10) (v := 2) h dX4_earn_10 (by decide) ?_
    refine klX4_84 (pc := 11) h (by rw [hR]; decide) (Nat.le_of_ble_eq_true rfl) dX4_earn_11 ?_
    refine nw_if_ne (pc := 14) (tgt := 20) h dX4_earn_14 (by decide) (fun c_14 => ?_) (fun c_14 => ?_)
    · have hf := hf.2 c_14
      refine nw_aload_n (pc := 20) h dX4_earn_20 rfl 0 rfl ?_
      refine klX4_140 (pc := 21) h (by rw [hR]; decide) hf (Nat.le_of_ble_eq_true rfl) dX4_earn_21 (fun r_21 s_21 hcr hf => ?_)
      obtain rfl := nw_q3 hcr
      refine nw_astore_n (pc := 24) (lv' := [(3, .ref (P.2.1 19)), (0, .ref (P.2.1 0)), (1, .int a1), (2, .int a2)]) h dX4_earn_24 rfl (by decide) rfl ?_
      refine nw_iconst (pc := 25) (v := -1) h dX4_earn_25 (by decide) ?_
      refine nw_istore (pc := 26) (lv' := [(4, .int (-1 : Int32)), (3, .ref (P.2.1 19)), (0, .ref (P.2.1 0)), (1, .int a1), (2, .int a2)]) h dX4_earn_26 (by decide) rfl ?_
      refine nw_iconst (pc := 28) (v := 0) h dX4_earn_28 (by decide) ?_
      refine nw_istore (pc := 29) (lv' := [(5, .int (0 : Int32)), (4, .int (-1 : Int32)), (3, .ref (P.2.1 19)), (0, .ref (P.2.1 0)), (1, .int a1), (2, .int a2)]) h dX4_earn_29 (by decide) rfl ?_
      refine nw_iconst (pc := 31) (v := 1) h dX4_earn_31 (by decide) ?_
      refine nw_istore (pc := 32) (lv' := [(6, .int (1 : Int32)), (5, .int (0 : Int32)), (4, .int (-1 : Int32)), (3, .ref (P.2.1 19)), (0, .ref (P.2.1 0)), (1, .int a1), (2, .int a2)]) h dX4_earn_32 (by decide) rfl ?_
      obtain ⟨n_34, hf⟩ := hf
      refine nw_sub (lv' := [(0, .ref (P.2.1 0)), (1, .int a1), (2, .int a2), (3, .ref (P.2.1 19)), (4, .int (-1 : Int32)), (5, .int (0 : Int32)), (6, .int (1 : Int32))]) [4, 5, 6, 3, 2, 1, 0] rfl ?_
      exact hL_34 n_34 _ _ _ _ _ _ hf
    · have hf := hf.1 c_14
      refine nw_sub (lv' := []) [] rfl ?_
      exact hL_17 _ (hf)
theorem gf4_49 {P : nw_PT} {X : nw_EX} {cc : ByteArray} {nL : Nat} {σ : nw_ST} {lv : List (Nat × Value)} {pc : Nat} {st : List Value} {q : Nat} (h : nw_ok P X cc RX4 nL) (hq : nw_cl q = 4) {r : Nat} (hr : nw_rf q 5 = r) (hd : decode cc pc = .ok (.getfield 49, 3)) (k : nw_G P X nL σ lv (pc + 3) (.ref (P.2.1 r) :: st)) : nw_G P X nL σ lv pc (.ref (P.2.1 q) :: st) := by
  subst hr; intro H locs ls h1 h2 h3
  exact va_get (D := P.1) (ci := 4) (C := RX4) (T := TX4) (N := 13) h.1.1 h.1.2.1 h.1.2.2.2.2 in_T4 h.1.2.2.2.1 h.2.1.1 h1 q (nw_at4 hq) rfl 5 (by decide) (h.1.2.2.2.2 _ nw_w168) (fun _ z => z) rfl hd (k H locs ls h1 h2 h3)
def f4_heard_18 (K : Int32 → nw_ST → Prop) (σ : nw_ST) : Prop := (K (-2 : Int32) σ)
def f4_heard_45 (K : Int32 → nw_ST → Prop) (σ : nw_ST) (y0 : Int32) : Prop := (K y0 σ)
def f4_heard (K : Int32 → nw_ST → Prop) (σ : nw_ST) (a1 : Int32) (a2 : Int32) : Prop := ((((v4_isTime a1) = 0) → (f4_heard_18 K σ)) ∧ (¬ ((v4_isTime a1) = 0) → ((((v4_isFrom a2 (0 : Int32) (400 : Int32)) = 0) → (f4_heard_18 K σ)) ∧ (¬ ((v4_isFrom a2 (0 : Int32) (400 : Int32)) = 0) → (f0_append (fun (r_27 : Int32) (s_27 : nw_ST) => (f4_heard_45 K s_27 (if (r_27 = 0) then (-4 : Int32) else (nw_gS s_27 16 2)))) σ 16 a1 a2)))))
def rm4_heard : Room := { frames := 2, cells := 0, slots := 0, locals := 41 }
theorem yd4_heard : yX4_heard.cls = RX4 ∧ yX4_heard.cls ≠ "java/lang/invoke/MethodHandle" ∧ yX4_heard.cls ≠ "java/lang/invoke/VarHandle" ∧ (parseMethodDescriptor yX4_heard.desc).map (fun d => d.parameters.length) = some 2 := by decide +kernel
set_option maxHeartbeats 4000000 in
set_option maxRecDepth 100000 in
theorem ct4_heard (l : Launch) (P : nw_PT) (hD : nw_D P) (σ : nw_ST) (a1 : Int32) (a2 : Int32)  (K : Int32 → nw_ST → Prop) (hf : f4_heard K σ a1 a2) : nw_MT l yX4_heard cX4_heard 3 (some .int) rm4_heard P [.ref (P.2.1 0), .int a1, .int a2] σ (nw_Ki K) := by
  refine nw_enter (by decide) (by first | decide | exact Nat.le_of_ble_eq_true rfl) hD ?_
  intro X hl h he hR
  subst hl
  have h : nw_ok P X cX4_heard RX4 3 := h
  show nw_G P X 3 σ [(0, .ref (P.2.1 0)), (1, .int a1), (2, .int a2)] 0 []
  have hL_18 :  ∀ (σ : nw_ST), f4_heard_18 K σ → nw_G P X 3 σ [] 18 [] := by
    intro σ hf
    unfold f4_heard_18 at hf
    refine nw_bipush (pc := 18) (v := -2) h dX4_heard_18 (by decide) ?_
    exact nw_iret (pc := 20) h he dX4_heard_20 ⟨_, rfl, hf⟩
  have hL_45 :  ∀ (σ : nw_ST) (y0 : Int32), f4_heard_45 K σ y0 → nw_G P X 3 σ [] 45 [.int y0] := by
    intro σ y0 hf
    unfold f4_heard_45 at hf
    exact nw_iret (pc := 45) h he dX4_heard_45 ⟨_, rfl, hf⟩
  unfold f4_heard at hf
  refine nw_iload_n (pc := 0) h dX4_heard_0 rfl 1 rfl ?_
  refine klX4_117 (pc := 1) h (by rw [hR]; decide) (Nat.le_of_ble_eq_true rfl) dX4_heard_1 ?_
  refine nw_if_eq (pc := 4) (tgt := 18) h dX4_heard_4 (by decide) (fun c_4 => ?_) (fun c_4 => ?_)
  · have hf := hf.1 c_4
    refine nw_sub (lv' := []) [] rfl ?_
    exact hL_18 _ (hf)
  · have hf := hf.2 c_4
    refine nw_iload_n (pc := 7) h dX4_heard_7 rfl 2 rfl ?_
    refine nw_iconst (pc := 8) (v := 0) h dX4_heard_8 (by decide) ?_
    refine nw_sipush (pc := 9) (v := 400) h dX4_heard_9 (by decide) ?_
    refine klX4_109 (pc := 12) h (by rw [hR]; decide) (Nat.le_of_ble_eq_true rfl) dX4_heard_12 ?_
    refine nw_if_ne (pc := 15) (tgt := 21) h dX4_heard_15 (by decide) (fun c_15 => ?_) (fun c_15 => ?_)
    · have hf := hf.2 c_15
      refine nw_aload_n (pc := 21) h dX4_heard_21 rfl 0 rfl ?_
      refine gf4_49 (pc := 22) (r := 16) h rfl rfl dX4_heard_22 ?_
      refine nw_iload_n (pc := 25) h dX4_heard_25 rfl 1 rfl ?_
      refine nw_iload_n (pc := 26) h dX4_heard_26 rfl 2 rfl ?_
      refine klX4_138 (pc := 27) h (by rw [hR]; decide) rfl hf (Nat.le_of_ble_eq_true rfl) dX4_heard_27 (fun r_27 s_27 hf => ?_)
      refine nw_if_eq (pc := 30) (tgt := 43) h dX4_heard_30 (by decide) (fun c_30 => ?_) (fun c_30 => ?_)
      · skip
        refine nw_bipush (pc := 43) (v := -4) h dX4_heard_43 (by decide) ?_
        simp only [if_pos c_30] at hf
        refine nw_sub (lv' := []) [] rfl ?_
        exact hL_45 _ _ hf
      · skip
        refine nw_aload_n (pc := 33) h dX4_heard_33 rfl 0 rfl ?_
        refine gf4_49 (pc := 34) (r := 16) h rfl rfl dX4_heard_34 ?_
        refine gf4_127 (pc := 37) h rfl dX4_heard_37 ?_
        refine nw_goto (pc := 40) (tgt := 45) h dX4_heard_40 (by decide) ?_
        simp only [if_neg c_30] at hf
        refine nw_sub (lv' := []) [] rfl ?_
        exact hL_45 _ _ hf
    · have hf := hf.1 c_15
      refine nw_sub (lv' := []) [] rfl ?_
      exact hL_18 _ (hf)
theorem pf4_127 {P : nw_PT} {X : nw_EX} {cc : ByteArray} {nL : Nat} {σ : nw_ST} {lv : List (Nat × Value)} {pc : Nat} {st : List Value} {q : Nat} (h : nw_ok P X cc RX4 nL) (hq : nw_cl q = 0) {v : Int32} (hd : decode cc pc = .ok (.putfield 127, 3)) (k : nw_G P X nL (nw_sS σ q 2 v) lv (pc + 3) st) : nw_G P X nL σ lv pc (.int v :: .ref (P.2.1 q) :: st) := by
  intro H locs ls h1 h2 h3
  exact va_putN (D := P.1) (ci := 0) (ty := .int) (C := RX0) (T := TX0) (N := 3) h.1.1 h.1.2.1 h.1.2.2.2.2 in_T0 tyX0 tyX0_ok nmX0 h.1.2.2.2.1 h.2.1.1 h1 (h.2.2 σ) h2 q (nw_at0 hq) rfl 2 (by decide) (va_Nw.use rfl (h.2.1.2.1 ("NumberedWaves", 127, "NumberedWaves$Pairs", "size", "I", "NumberedWaves") (by decide +kernel))) (fun _ z => z) rfl (by decide +kernel) rfl rfl (by show 2 < 3; decide) hd (fun H1 locs1 g1 _ g2 => k H1 locs1 ls (by rw [nw_set0_2 hq] at g1; exact g1) g2 h3)
def f4_forget (K : Int32 → nw_ST → Prop) (σ : nw_ST)  : Prop := (K (nw_gS σ 16 2) (nw_sS σ 16 2 (0 : Int32)))
def rm4_forget : Room := { frames := 0, cells := 0, slots := 0, locals := 0 }
theorem yd4_forget : yX4_forget.cls = RX4 ∧ yX4_forget.cls ≠ "java/lang/invoke/MethodHandle" ∧ yX4_forget.cls ≠ "java/lang/invoke/VarHandle" ∧ (parseMethodDescriptor yX4_forget.desc).map (fun d => d.parameters.length) = some 0 := by decide +kernel
set_option maxHeartbeats 4000000 in
set_option maxRecDepth 100000 in
theorem ct4_forget (l : Launch) (P : nw_PT) (hD : nw_D P) (σ : nw_ST)   (K : Int32 → nw_ST → Prop) (hf : f4_forget K σ ) : nw_MT l yX4_forget cX4_forget 2 (some .int) rm4_forget P [.ref (P.2.1 0)] σ (nw_Ki K) := by
  refine nw_enter (by decide) (by first | decide | exact Nat.le_of_ble_eq_true rfl) hD ?_
  intro X hl h he hR
  subst hl
  have h : nw_ok P X cX4_forget RX4 2 := h
  show nw_G P X 2 σ [(0, .ref (P.2.1 0))] 0 []
  unfold f4_forget at hf
  refine nw_aload_n (pc := 0) h dX4_forget_0 rfl 0 rfl ?_
  refine gf4_49 (pc := 1) (r := 16) h rfl rfl dX4_forget_1 ?_
  refine gf4_127 (pc := 4) h rfl dX4_forget_4 ?_
  refine nw_istore_n (pc := 7) (lv' := [(1, .int (nw_gS σ 16 2)), (0, .ref (P.2.1 0))]) h dX4_forget_7 rfl (by decide) rfl ?_
  refine nw_aload_n (pc := 8) h dX4_forget_8 rfl 1 rfl ?_
  refine gf4_49 (pc := 9) (r := 16) h rfl rfl dX4_forget_9 ?_
  refine nw_iconst (pc := 12) (v := 0) h dX4_forget_12 (by decide) ?_
  refine pf4_127 (pc := 13) h rfl dX4_forget_13 ?_
  refine nw_iload_n (pc := 16) h dX4_forget_16 rfl 0 rfl ?_
  exact nw_iret (pc := 17) h he dX4_forget_17 ⟨_, rfl, hf⟩
