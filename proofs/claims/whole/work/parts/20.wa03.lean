theorem gf4_380 {P : nw_PT} {X : nw_EX} {cc : ByteArray} {nL : Nat} {σ : nw_ST} {lv : List (Nat × Value)} {pc : Nat} {st : List Value} {q : Nat} (h : nw_ok P X cc RX4 nL) (hq : nw_cl q = 3) {r : Nat} (hr : nw_rf q 4 = r) (hd : decode cc pc = .ok (.getfield 380, 3)) (k : nw_G P X nL σ lv (pc + 3) (.ref (P.2.1 r) :: st)) : nw_G P X nL σ lv pc (.ref (P.2.1 q) :: st) := by
  subst hr; intro H locs ls h1 h2 h3
  exact va_getN (D := P.1) (ci := 3) (C := RX3) (T := TX3) (N := 7) h.1.1 h.1.2.1 h.1.2.2.2.2 in_T3 h.1.2.2.2.1 h.2.1.1 h1 q (nw_at3 hq) rfl 4 (by decide) (va_Nw.use rfl (h.2.1.2.1 ("NumberedWaves", 380, "NumberedWaves$Waves", "numbers", "[I", "NumberedWaves") (by decide +kernel))) (fun _ z => z) rfl hd (k H locs ls h1 h2 h3)
def f4_fitsSlip_50 (K : Int32 → nw_ST → Prop) (H_3 : nw_ST → Int32 → Int32 → Int32 → Prop) (σ : nw_ST) (x2 : Int32) (x3 : Int32) (x4 : Int32) (y0 : Int32) (y1 : Int32) : Prop := ((vp_in x4 8) ∧ ((((y1 + y0) = (nw_gA σ 18 x4.toNatClampNeg)) → (H_3 σ x2 x3 (x4 + (1 : Int32)))) ∧ (¬ ((y1 + y0) = (nw_gA σ 18 x4.toNatClampNeg)) → (K (0 : Int32) σ))))
def b4_fitsSlip_3 (K : Int32 → nw_ST → Prop) (H_3 : nw_ST → Int32 → Int32 → Int32 → Prop) (σ : nw_ST) (x2 : Int32) (x3 : Int32) (x4 : Int32) : Prop := ((((nw_gS σ 16 2) ≤ x4) → (K (1 : Int32) σ)) ∧ (¬ ((nw_gS σ 16 2) ≤ x4) → ((vp_in x4 8) ∧ ((vp_in (nw_gA σ 17 x4.toNatClampNeg) 240) ∧ ((vp_in (nw_gA σ 23 (nw_gA σ 17 x4.toNatClampNeg).toNatClampNeg) 241) ∧ (f4_fitsSlip_50 K H_3 σ x2 x3 x4 (if ((nw_gA σ 23 (nw_gA σ 17 x4.toNatClampNeg).toNatClampNeg) < x2) then (0 : Int32) else x3) (nw_gA σ 24 (nw_gA σ 23 (nw_gA σ 17 x4.toNatClampNeg).toNatClampNeg).toNatClampNeg)))))))
def f4_fitsSlip_3 (K : Int32 → nw_ST → Prop) : Nat → nw_ST → Int32 → Int32 → Int32 → Prop
  | 0 => fun _ _ _ _ => False
  | n + 1 => b4_fitsSlip_3 K (f4_fitsSlip_3 K n)
def f4_fitsSlip (K : Int32 → nw_ST → Prop) (σ : nw_ST) (a2 : Int32) (a3 : Int32) : Prop := (∃ n, f4_fitsSlip_3 K n σ a2 a3 (0 : Int32))
def rm4_fitsSlip : Room := { frames := 0, cells := 0, slots := 0, locals := 0 }
theorem yd4_fitsSlip : yX4_fitsSlip.cls = RX4 ∧ yX4_fitsSlip.cls ≠ "java/lang/invoke/MethodHandle" ∧ yX4_fitsSlip.cls ≠ "java/lang/invoke/VarHandle" ∧ (parseMethodDescriptor yX4_fitsSlip.desc).map (fun d => d.parameters.length) = some 3 := by decide +kernel
set_option maxHeartbeats 4000000 in
set_option maxRecDepth 100000 in
theorem ct4_fitsSlip (l : Launch) (P : nw_PT) (hD : nw_D P) (σ : nw_ST) (a2 : Int32) (a3 : Int32)  (K : Int32 → nw_ST → Prop) (hf : f4_fitsSlip K σ a2 a3) : nw_MT l yX4_fitsSlip cX4_fitsSlip 7 (some .boolean) rm4_fitsSlip P [.ref (P.2.1 0), .ref (P.2.1 19), .int a2, .int a3] σ (nw_Ki K) := by
  refine nw_enter (by decide) (by first | decide | exact Nat.le_of_ble_eq_true rfl) hD ?_
  intro X hl h he hR
  subst hl
  have h : nw_ok P X cX4_fitsSlip RX4 7 := h
  show nw_G P X 7 σ [(0, .ref (P.2.1 0)), (1, .ref (P.2.1 19)), (2, .int a2), (3, .int a3)] 0 []
  have hL_50 : ∀ (H_3 : nw_ST → Int32 → Int32 → Int32 → Prop) (hH_3 : (∀ (σ : nw_ST) (x2 : Int32) (x3 : Int32) (x4 : Int32), H_3 σ x2 x3 x4 → nw_G P X 7 σ [(0, .ref (P.2.1 0)), (1, .ref (P.2.1 19)), (2, .int x2), (3, .int x3), (4, .int x4)] 3 [])), ∀ (σ : nw_ST) (x2 : Int32) (x3 : Int32) (x4 : Int32) (y0 : Int32) (y1 : Int32), f4_fitsSlip_50 K H_3 σ x2 x3 x4 y0 y1 → nw_G P X 7 σ [(0, .ref (P.2.1 0)), (1, .ref (P.2.1 19)), (2, .int x2), (3, .int x3), (4, .int x4)] 50 [.int y0, .int y1] := by
    intro H_3 hH_3 σ x2 x3 x4 y0 y1 hf
    unfold f4_fitsSlip_50 at hf
    refine nw_iadd (pc := 50) h dX4_fitsSlip_50 ?_
    refine nw_istore (pc := 51) (lv' := [(6, .int (y1 + y0)), (0, .ref (P.2.1 0)), (1, .ref (P.2.1 19)), (2, .int x2), (3, .int x3), (4, .int x4)]) h dX4_fitsSlip_51 (by decide) rfl ?_
    refine nw_iload (pc := 53) h dX4_fitsSlip_53 0 rfl ?_
    refine nw_aload_n (pc := 55) h dX4_fitsSlip_55 rfl 1 rfl ?_
    refine gf4_49 (pc := 56) (r := 16) h rfl rfl dX4_fitsSlip_56 ?_
    refine gf4_172 (pc := 59) (r := 18) h rfl rfl dX4_fitsSlip_59 ?_
    refine nw_iload (pc := 62) h dX4_fitsSlip_62 5 rfl ?_
    obtain ⟨h_64, hf⟩ := hf
    refine nw_iald (pc := 64) (n := 8) h rfl rfl h_64 dX4_fitsSlip_64 ?_
    refine nw_icmp_eq (pc := 65) (tgt := 70) h dX4_fitsSlip_65 (by decide) (fun c_65 => ?_) (fun c_65 => ?_)
    · have hf := hf.1 c_65
      refine nw_iinc (pc := 70) (v := (x4 + (1 : Int32))) (lv' := [(4, .int (x4 + (1 : Int32))), (6, .int (y1 + y0)), (0, .ref (P.2.1 0)), (1, .ref (P.2.1 19)), (2, .int x2), (3, .int x3)]) h dX4_fitsSlip_70 (j := 5) rfl rfl (by decide) rfl ?_
      refine nw_goto (pc := 73) (tgt := 3) h dX4_fitsSlip_73 (by decide) ?_
      refine nw_sub (lv' := [(0, .ref (P.2.1 0)), (1, .ref (P.2.1 19)), (2, .int x2), (3, .int x3), (4, .int (x4 + (1 : Int32)))]) [2, 3, 4, 5, 0] rfl ?_
      exact hH_3 _ _ _ _ (hf)
    · have hf := hf.2 c_65
      refine nw_iconst (pc := 68) (v := 0) h dX4_fitsSlip_68 (by decide) ?_
      exact nw_zret (pc := 69) h he dX4_fitsSlip_69 (Or.inl rfl) ⟨_, rfl, hf⟩
  have hB_3 : ∀ (H_3 : nw_ST → Int32 → Int32 → Int32 → Prop) (hH_3 : (∀ (σ : nw_ST) (x2 : Int32) (x3 : Int32) (x4 : Int32), H_3 σ x2 x3 x4 → nw_G P X 7 σ [(0, .ref (P.2.1 0)), (1, .ref (P.2.1 19)), (2, .int x2), (3, .int x3), (4, .int x4)] 3 [])), ∀ (σ : nw_ST) (x2 : Int32) (x3 : Int32) (x4 : Int32), b4_fitsSlip_3 K H_3 σ x2 x3 x4 → nw_G P X 7 σ [(0, .ref (P.2.1 0)), (1, .ref (P.2.1 19)), (2, .int x2), (3, .int x3), (4, .int x4)] 3 [] := by
    intro H_3 hH_3 σ x2 x3 x4 hf
    unfold b4_fitsSlip_3 at hf
    refine nw_iload (pc := 3) h dX4_fitsSlip_3 4 rfl ?_
    refine nw_aload_n (pc := 5) h dX4_fitsSlip_5 rfl 0 rfl ?_
    refine gf4_49 (pc := 6) (r := 16) h rfl rfl dX4_fitsSlip_6 ?_
    refine gf4_127 (pc := 9) h rfl dX4_fitsSlip_9 ?_
    refine nw_icmp_ge (pc := 12) (tgt := 76) h dX4_fitsSlip_12 (by decide) (fun c_12 => ?_) (fun c_12 => ?_)
    · have hf := hf.1 c_12
      refine nw_iconst (pc := 76) (v := 1) h dX4_fitsSlip_76 (by decide) ?_
      exact nw_zret (pc := 77) h he dX4_fitsSlip_77 (Or.inr rfl) ⟨_, rfl, hf⟩
    · have hf := hf.2 c_12
      refine nw_aload_n (pc := 15) h dX4_fitsSlip_15 rfl 1 rfl ?_
      refine gf4_162 (pc := 16) (r := 23) h rfl rfl dX4_fitsSlip_16 ?_
      refine nw_aload_n (pc := 19) h dX4_fitsSlip_19 rfl 0 rfl ?_
      refine gf4_49 (pc := 20) (r := 16) h rfl rfl dX4_fitsSlip_20 ?_
      refine gf4_377 (pc := 23) (r := 17) h rfl rfl dX4_fitsSlip_23 ?_
      refine nw_iload (pc := 26) h dX4_fitsSlip_26 4 rfl ?_
      obtain ⟨h_28, hf⟩ := hf
      refine nw_iald (pc := 28) (n := 8) h rfl rfl h_28 dX4_fitsSlip_28 ?_
      obtain ⟨h_29, hf⟩ := hf
      refine nw_iald (pc := 29) (n := 240) h rfl rfl h_29 dX4_fitsSlip_29 ?_
      refine nw_istore (pc := 30) (lv' := [(5, .int (nw_gA σ 23 (nw_gA σ 17 x4.toNatClampNeg).toNatClampNeg)), (0, .ref (P.2.1 0)), (1, .ref (P.2.1 19)), (2, .int x2), (3, .int x3), (4, .int x4)]) h dX4_fitsSlip_30 (by decide) rfl ?_
      refine nw_aload_n (pc := 32) h dX4_fitsSlip_32 rfl 2 rfl ?_
      refine gf4_380 (pc := 33) (r := 24) h rfl rfl dX4_fitsSlip_33 ?_
      refine nw_iload (pc := 36) h dX4_fitsSlip_36 0 rfl ?_
      obtain ⟨h_38, hf⟩ := hf
      refine nw_iald (pc := 38) (n := 241) h rfl rfl h_38 dX4_fitsSlip_38 ?_
      refine nw_iload (pc := 39) h dX4_fitsSlip_39 0 rfl ?_
      refine nw_iload_n (pc := 41) h dX4_fitsSlip_41 rfl 3 rfl ?_
      refine nw_icmp_lt (pc := 42) (tgt := 49) h dX4_fitsSlip_42 (by decide) (fun c_42 => ?_) (fun c_42 => ?_)
      · skip
        refine nw_iconst (pc := 49) (v := 0) h dX4_fitsSlip_49 (by decide) ?_
        simp only [if_pos c_42] at hf
        refine nw_sub (lv' := [(0, .ref (P.2.1 0)), (1, .ref (P.2.1 19)), (2, .int x2), (3, .int x3), (4, .int x4)]) [1, 2, 3, 4, 5] rfl ?_
        exact hL_50 H_3 hH_3 _ _ _ _ _ _ hf
      · skip
        refine nw_iload_n (pc := 45) h dX4_fitsSlip_45 rfl 4 rfl ?_
        refine nw_goto (pc := 46) (tgt := 50) h dX4_fitsSlip_46 (by decide) ?_
        simp only [if_neg c_42] at hf
        refine nw_sub (lv' := [(0, .ref (P.2.1 0)), (1, .ref (P.2.1 19)), (2, .int x2), (3, .int x3), (4, .int x4)]) [1, 2, 3, 4, 5] rfl ?_
        exact hL_50 H_3 hH_3 _ _ _ _ _ _ hf
  have hL_3 :  ∀ (n : Nat) (σ : nw_ST) (x2 : Int32) (x3 : Int32) (x4 : Int32), f4_fitsSlip_3 K n σ x2 x3 x4 → nw_G P X 7 σ [(0, .ref (P.2.1 0)), (1, .ref (P.2.1 19)), (2, .int x2), (3, .int x3), (4, .int x4)] 3 [] := by
    intro n
    induction n with
    | zero => intro σ x2 x3 x4 hf; exact False.elim hf
    | succ n ih => exact hB_3 _ ih
  unfold f4_fitsSlip at hf
  refine nw_iconst (pc := 0) (v := 0) h dX4_fitsSlip_0 (by decide) ?_
  refine nw_istore (pc := 1) (lv' := [(4, .int (0 : Int32)), (0, .ref (P.2.1 0)), (1, .ref (P.2.1 19)), (2, .int a2), (3, .int a3)]) h dX4_fitsSlip_1 (by decide) rfl ?_
  obtain ⟨n_3, hf⟩ := hf
  refine nw_sub (lv' := [(0, .ref (P.2.1 0)), (1, .ref (P.2.1 19)), (2, .int a2), (3, .int a3), (4, .int (0 : Int32))]) [1, 2, 3, 4, 0] rfl ?_
  exact hL_3 n_3 _ _ _ _ hf
theorem klX4_213 {P : nw_PT} {X : nw_EX} {cc : ByteArray} {nL : Nat} {σ : nw_ST} {lv : List (Nat × Value)} {pc : Nat} {rest : List Value} {a2 : Int32} {a3 : Int32} (h : nw_ok P X cc RX4 nL) (hR : rm4_fitsSlip.frames + 1 ≤ X.2.2.2.1.frames ∧ 8 + (7 + 11) + rm4_fitsSlip.locals ≤ X.2.2.2.1.locals)  {K : Int32 → nw_ST → Prop} (hf : f4_fitsSlip K σ a2 a3) (hst : (rest.map fun v => v.category).sum ≤ 8) (hd : decode cc pc = .ok (.invokevirtual 213, 3)) (k : ∀ (r : Int32) (s2 : nw_ST), K r s2 → nw_G P X nL s2 lv (pc + 3) (.int r :: rest)) : nw_G P X nL σ lv pc (.int a3 :: .int a2 :: .ref (P.2.1 19) :: .ref (P.2.1 0) :: rest) :=
  nw_callV (As := [.ref (P.2.1 19), .int a2, .int a3]) (rest := rest) (C := RX4) (ci := 4) h (ct4_fitsSlip _ P h.2.2 σ a2 a3 K hf) (nw_goodV nw_w169 nw_w170 nw_w171 nw_w24 nw_w172) yd4_fitsSlip rfl hR ⟨rfl, rfl⟩ rfl (by decide) rfl rfl hst rfl hd (fun v s2 z => by obtain ⟨r, rfl, z⟩ := z; exact k r s2 z)
def f4_skipped_50 (K : Int32 → nw_ST → Prop) (H_23 : nw_ST → Int32 → Int32 → Int32 → Prop) (σ : nw_ST) (x1 : Int32) (x3 : Int32) (x4 : Int32) : Prop := (H_23 σ x1 x3 (x4 + (1 : Int32)))
def b4_skipped_23 (K : Int32 → nw_ST → Prop) (H_23 : nw_ST → Int32 → Int32 → Int32 → Prop) (σ : nw_ST) (x1 : Int32) (x3 : Int32) (x4 : Int32) : Prop := ((((31 : Int32) < x4) → (K x3 σ)) ∧ (¬ ((31 : Int32) < x4) → (f4_fitsSlip (fun (r_35 : Int32) (s_35 : nw_ST) => (f4_skipped_50 K H_23 s_35 x1 (if (r_35 = 0) then x3 else (x3 ||| (nw_shl (1 : Int32) (x4 - (1 : Int32))))) x4)) σ x4 x1)))
def f4_skipped_23 (K : Int32 → nw_ST → Prop) : Nat → nw_ST → Int32 → Int32 → Int32 → Prop
  | 0 => fun _ _ _ _ => False
  | n + 1 => b4_skipped_23 K (f4_skipped_23 K n)
def f4_skipped (K : Int32 → nw_ST → Prop) (σ : nw_ST) (a1 : Int32) : Prop := ((((v4_isFrom a1 (1 : Int32) (11 : Int32)) = 0) → (K (-2 : Int32) σ)) ∧ (¬ ((v4_isFrom a1 (1 : Int32) (11 : Int32)) = 0) → (f4_waves (fun (r_14 : Nat) (s_14 : nw_ST) => (∃ n, f4_skipped_23 K n s_14 a1 (0 : Int32) (1 : Int32))) σ)))
def rm4_skipped : Room := { frames := 4, cells := 0, slots := 0, locals := 91 }
theorem yd4_skipped : yX4_skipped.cls = RX4 ∧ yX4_skipped.cls ≠ "java/lang/invoke/MethodHandle" ∧ yX4_skipped.cls ≠ "java/lang/invoke/VarHandle" ∧ (parseMethodDescriptor yX4_skipped.desc).map (fun d => d.parameters.length) = some 1 := by decide +kernel
set_option maxHeartbeats 4000000 in
set_option maxRecDepth 100000 in
theorem ct4_skipped (l : Launch) (P : nw_PT) (hD : nw_D P) (σ : nw_ST) (a1 : Int32)  (K : Int32 → nw_ST → Prop) (hf : f4_skipped K σ a1) : nw_MT l yX4_skipped cX4_skipped 5 (some .int) rm4_skipped P [.ref (P.2.1 0), .int a1] σ (nw_Ki K) := by
  refine nw_enter (by decide) (by first | decide | exact Nat.le_of_ble_eq_true rfl) hD ?_
  intro X hl h he hR
  subst hl
  have h : nw_ok P X cX4_skipped RX4 5 := h
  show nw_G P X 5 σ [(0, .ref (P.2.1 0)), (1, .int a1)] 0 []
  have hL_50 : ∀ (H_23 : nw_ST → Int32 → Int32 → Int32 → Prop) (hH_23 : (∀ (σ : nw_ST) (x1 : Int32) (x3 : Int32) (x4 : Int32), H_23 σ x1 x3 x4 → nw_G P X 5 σ [(0, .ref (P.2.1 0)), (1, .int x1), (2, .ref (P.2.1 19)), (3, .int x3), (4, .int x4)] 23 [])), ∀ (σ : nw_ST) (x1 : Int32) (x3 : Int32) (x4 : Int32), f4_skipped_50 K H_23 σ x1 x3 x4 → nw_G P X 5 σ [(0, .ref (P.2.1 0)), (1, .int x1), (2, .ref (P.2.1 19)), (3, .int x3), (4, .int x4)] 50 [] := by
    intro H_23 hH_23 σ x1 x3 x4 hf
    unfold f4_skipped_50 at hf
    refine nw_iinc (pc := 50) (v := (x4 + (1 : Int32))) (lv' := [(4, .int (x4 + (1 : Int32))), (0, .ref (P.2.1 0)), (1, .int x1), (2, .ref (P.2.1 19)), (3, .int x3)]) h dX4_skipped_50 (j := 4) rfl rfl (by decide) rfl ?_
    refine nw_goto (pc := 53) (tgt := 23) h dX4_skipped_53 (by decide) ?_
    refine nw_sub (lv' := [(0, .ref (P.2.1 0)), (1, .int x1), (2, .ref (P.2.1 19)), (3, .int x3), (4, .int (x4 + (1 : Int32)))]) [1, 2, 3, 4, 0] rfl ?_
    exact hH_23 _ _ _ _ (hf)
  have hB_23 : ∀ (H_23 : nw_ST → Int32 → Int32 → Int32 → Prop) (hH_23 : (∀ (σ : nw_ST) (x1 : Int32) (x3 : Int32) (x4 : Int32), H_23 σ x1 x3 x4 → nw_G P X 5 σ [(0, .ref (P.2.1 0)), (1, .int x1), (2, .ref (P.2.1 19)), (3, .int x3), (4, .int x4)] 23 [])), ∀ (σ : nw_ST) (x1 : Int32) (x3 : Int32) (x4 : Int32), b4_skipped_23 K H_23 σ x1 x3 x4 → nw_G P X 5 σ [(0, .ref (P.2.1 0)), (1, .int x1), (2, .ref (P.2.1 19)), (3, .int x3), (4, .int x4)] 23 [] := by
    intro H_23 hH_23 σ x1 x3 x4 hf
    unfold b4_skipped_23 at hf
    refine nw_iload (pc := 23) h dX4_skipped_23 4 rfl ?_
    refine nw_bipush (pc := 25) (v := 31) h dX4_skipped_25 (by decide) ?_
    refine nw_icmp_gt (pc := 27) (tgt := 56) h dX4_skipped_27 (by decide) (fun c_27 => ?_) (fun c_27 => ?_)
    · have hf := hf.1 c_27
      refine nw_iload_n (pc := 56) h dX4_skipped_56 rfl 3 rfl ?_
      exact nw_iret (pc := 57) h he dX4_skipped_57 ⟨_, rfl, hf⟩
    · have hf := hf.2 c_27
      refine nw_aload_n (pc := 30) h dX4_skipped_30 rfl 0 rfl ?_
      refine nw_aload_n (pc := 31) h dX4_skipped_31 rfl 2 rfl ?_
      refine nw_iload (pc := 32) h dX4_skipped_32 4 rfl ?_
      refine nw_iload_n (pc := 34) h dX4_skipped_34 rfl 1 rfl ?_
      refine klX4_213 (pc := 35) h (by rw [hR]; decide) hf (Nat.le_of_ble_eq_true rfl) dX4_skipped_35 (fun r_35 s_35 hf => ?_)
      refine nw_if_eq (pc := 38) (tgt := 50) h dX4_skipped_38 (by decide) (fun c_38 => ?_) (fun c_38 => ?_)
      · skip
        simp only [if_pos c_38] at hf
        exact hL_50 H_23 hH_23 _ _ _ _ hf
      · skip
        refine nw_iload_n (pc := 41) h dX4_skipped_41 rfl 3 rfl ?_
        refine nw_iconst (pc := 42) (v := 1) h dX4_skipped_42 (by decide) ?_
        refine nw_iload (pc := 43) h dX4_skipped_43 4 rfl ?_
        refine nw_iconst (pc := 45) (v := 1) h dX4_skipped_45 (by decide) ?_
        refine nw_isub (pc := 46) h dX4_skipped_46 ?_
        refine nw_ishl (pc := 47) h dX4_skipped_47 ?_
        refine nw_ior (pc := 48) h dX4_skipped_48 ?_
        refine nw_istore_n (pc := 49) (lv' := [(3, .int (x3 ||| (nw_shl (1 : Int32) (x4 - (1 : Int32))))), (0, .ref (P.2.1 0)), (1, .int x1), (2, .ref (P.2.1 19)), (4, .int x4)]) h dX4_skipped_49 rfl (by decide) rfl ?_
        simp only [if_neg c_38] at hf
        refine nw_sub (lv' := [(0, .ref (P.2.1 0)), (1, .int x1), (2, .ref (P.2.1 19)), (3, .int (x3 ||| (nw_shl (1 : Int32) (x4 - (1 : Int32))))), (4, .int x4)]) [1, 2, 3, 0, 4] rfl ?_
        exact hL_50 H_23 hH_23 _ _ _ _ hf
  have hL_23 :  ∀ (n : Nat) (σ : nw_ST) (x1 : Int32) (x3 : Int32) (x4 : Int32), f4_skipped_23 K n σ x1 x3 x4 → nw_G P X 5 σ [(0, .ref (P.2.1 0)), (1, .int x1), (2, .ref (P.2.1 19)), (3, .int x3), (4, .int x4)] 23 [] := by
    intro n
    induction n with
    | zero => intro σ x1 x3 x4 hf; exact False.elim hf
    | succ n ih => exact hB_23 _ ih
  unfold f4_skipped at hf
  refine nw_iload_n (pc := 0) h dX4_skipped_0 rfl 1 rfl ?_
  refine nw_iconst (pc := 1) (v := 1) h dX4_skipped_1 (by decide) ?_
  refine nw_bipush (pc := 2) (v := 11) h dX4_skipped_2 (by decide) ?_
  refine klX4_109 (pc := 4) h (by rw [hR]; decide) (Nat.le_of_ble_eq_true rfl) dX4_skipped_4 ?_
  refine nw_if_ne (pc := 7) (tgt := 13) h dX4_skipped_7 (by decide) (fun c_7 => ?_) (fun c_7 => ?_)
  · have hf := hf.2 c_7
    refine nw_aload_n (pc := 13) h dX4_skipped_13 rfl 0 rfl ?_
    refine klX4_140 (pc := 14) h (by rw [hR]; decide) hf (Nat.le_of_ble_eq_true rfl) dX4_skipped_14 (fun r_14 s_14 hcr hf => ?_)
    obtain rfl := nw_q3 hcr
    refine nw_astore_n (pc := 17) (lv' := [(2, .ref (P.2.1 19)), (0, .ref (P.2.1 0)), (1, .int a1)]) h dX4_skipped_17 rfl (by decide) rfl ?_
    refine nw_iconst (pc := 18) (v := 0) h dX4_skipped_18 (by decide) ?_
    refine nw_istore_n (pc := 19) (lv' := [(3, .int (0 : Int32)), (2, .ref (P.2.1 19)), (0, .ref (P.2.1 0)), (1, .int a1)]) h dX4_skipped_19 rfl (by decide) rfl ?_
    refine nw_iconst (pc := 20) (v := 1) h dX4_skipped_20 (by decide) ?_
    refine nw_istore (pc := 21) (lv' := [(4, .int (1 : Int32)), (3, .int (0 : Int32)), (2, .ref (P.2.1 19)), (0, .ref (P.2.1 0)), (1, .int a1)]) h dX4_skipped_21 (by decide) rfl ?_
    obtain ⟨n_23, hf⟩ := hf
    refine nw_sub (lv' := [(0, .ref (P.2.1 0)), (1, .int a1), (2, .ref (P.2.1 19)), (3, .int (0 : Int32)), (4, .int (1 : Int32))]) [3, 4, 2, 1, 0] rfl ?_
    exact hL_23 n_23 _ _ _ _ hf
  · have hf := hf.1 c_7
    refine nw_bipush (pc := 10) (v := -2) h dX4_skipped_10 (by decide) ?_
    exact nw_iret (pc := 12) h he dX4_skipped_12 ⟨_, rfl, hf⟩
def f4_fitsWake_82 (K : Int32 → nw_ST → Prop) (H_18 : nw_ST → Int32 → Int32 → Int32 → Prop) (σ : nw_ST) (x2 : Int32) (x3 : Int32) (x4 : Int32) (x6 : Int32) : Prop := ((vp_in x6 241) ∧ ((vp_in x4 8) ∧ ((((nw_gA σ 24 x6.toNatClampNeg) = (nw_gA σ 18 x4.toNatClampNeg)) → (H_18 σ x2 x3 (x4 + (1 : Int32)))) ∧ (¬ ((nw_gA σ 24 x6.toNatClampNeg) = (nw_gA σ 18 x4.toNatClampNeg)) → (K (0 : Int32) σ)))))
def b4_fitsWake_18 (K : Int32 → nw_ST → Prop) (H_18 : nw_ST → Int32 → Int32 → Int32 → Prop) (σ : nw_ST) (x2 : Int32) (x3 : Int32) (x4 : Int32) : Prop := ((((nw_gS σ 16 2) ≤ x4) → (K (1 : Int32) σ)) ∧ (¬ ((nw_gS σ 16 2) ≤ x4) → ((vp_in x4 8) ∧ ((vp_in (nw_gA σ 17 x4.toNatClampNeg) 240) ∧ (f4_fitsWake_82 K H_18 σ x2 x3 x4 (if (x3 = 0) then (nw_gA σ 23 (nw_gA σ 17 x4.toNatClampNeg).toNatClampNeg) else (if ((nw_gA σ 23 (nw_gA σ 17 x4.toNatClampNeg).toNatClampNeg) ≤ 0) then (nw_gA σ 23 (nw_gA σ 17 x4.toNatClampNeg).toNatClampNeg) else (if ((nw_gA σ 17 x4.toNatClampNeg) < x2) then (nw_gA σ 23 (nw_gA σ 17 x4.toNatClampNeg).toNatClampNeg) else (if ((nw_gA σ 17 x4.toNatClampNeg) = x2) then (0 : Int32) else ((nw_gA σ 23 (nw_gA σ 17 x4.toNatClampNeg).toNatClampNeg) - (1 : Int32)))))))))))
def f4_fitsWake_18 (K : Int32 → nw_ST → Prop) : Nat → nw_ST → Int32 → Int32 → Int32 → Prop
  | 0 => fun _ _ _ _ => False
  | n + 1 => b4_fitsWake_18 K (f4_fitsWake_18 K n)
def f4_fitsWake_14 (K : Int32 → nw_ST → Prop) (σ : nw_ST) (x2 : Int32) (y0 : Int32) : Prop := (∃ n, f4_fitsWake_18 K n σ x2 y0 (0 : Int32))
def f4_fitsWake (K : Int32 → nw_ST → Prop) (σ : nw_ST) (a2 : Int32) : Prop := ((vp_in a2 240) ∧ (f4_fitsWake_14 K σ a2 (if ((nw_gA σ 23 a2.toNatClampNeg) ≤ 0) then (0 : Int32) else (1 : Int32))))
def rm4_fitsWake : Room := { frames := 0, cells := 0, slots := 0, locals := 0 }
theorem yd4_fitsWake : yX4_fitsWake.cls = RX4 ∧ yX4_fitsWake.cls ≠ "java/lang/invoke/MethodHandle" ∧ yX4_fitsWake.cls ≠ "java/lang/invoke/VarHandle" ∧ (parseMethodDescriptor yX4_fitsWake.desc).map (fun d => d.parameters.length) = some 2 := by decide +kernel
set_option maxHeartbeats 4000000 in
set_option maxRecDepth 100000 in
theorem ct4_fitsWake (l : Launch) (P : nw_PT) (hD : nw_D P) (σ : nw_ST) (a2 : Int32)  (K : Int32 → nw_ST → Prop) (hf : f4_fitsWake K σ a2) : nw_MT l yX4_fitsWake cX4_fitsWake 7 (some .boolean) rm4_fitsWake P [.ref (P.2.1 0), .ref (P.2.1 19), .int a2] σ (nw_Ki K) := by
  refine nw_enter (by decide) (by first | decide | exact Nat.le_of_ble_eq_true rfl) hD ?_
  intro X hl h he hR
  subst hl
  have h : nw_ok P X cX4_fitsWake RX4 7 := h
  show nw_G P X 7 σ [(0, .ref (P.2.1 0)), (1, .ref (P.2.1 19)), (2, .int a2)] 0 []
  have hL_82 : ∀ (H_18 : nw_ST → Int32 → Int32 → Int32 → Prop) (hH_18 : (∀ (σ : nw_ST) (x2 : Int32) (x3 : Int32) (x4 : Int32), H_18 σ x2 x3 x4 → nw_G P X 7 σ [(0, .ref (P.2.1 0)), (1, .ref (P.2.1 19)), (2, .int x2), (3, .int x3), (4, .int x4)] 18 [])), ∀ (σ : nw_ST) (x2 : Int32) (x3 : Int32) (x4 : Int32) (x6 : Int32), f4_fitsWake_82 K H_18 σ x2 x3 x4 x6 → nw_G P X 7 σ [(0, .ref (P.2.1 0)), (1, .ref (P.2.1 19)), (2, .int x2), (3, .int x3), (4, .int x4), (6, .int x6)] 82 [] := by
    intro H_18 hH_18 σ x2 x3 x4 x6 hf
    unfold f4_fitsWake_82 at hf
    refine nw_aload_n (pc := 82) h dX4_fitsWake_82 rfl 1 rfl ?_
    refine gf4_380 (pc := 83) (r := 24) h rfl rfl dX4_fitsWake_83 ?_
    refine nw_iload (pc := 86) h dX4_fitsWake_86 5 rfl ?_
    obtain ⟨h_88, hf⟩ := hf
    refine nw_iald (pc := 88) (n := 241) h rfl rfl h_88 dX4_fitsWake_88 ?_
    refine nw_aload_n (pc := 89) h dX4_fitsWake_89 rfl 0 rfl ?_
    refine gf4_49 (pc := 90) (r := 16) h rfl rfl dX4_fitsWake_90 ?_
    refine gf4_172 (pc := 93) (r := 18) h rfl rfl dX4_fitsWake_93 ?_
    refine nw_iload (pc := 96) h dX4_fitsWake_96 4 rfl ?_
    obtain ⟨h_98, hf⟩ := hf
    refine nw_iald (pc := 98) (n := 8) h rfl rfl h_98 dX4_fitsWake_98 ?_
    refine nw_icmp_eq (pc := 99) (tgt := 104) h dX4_fitsWake_99 (by decide) (fun c_99 => ?_) (fun c_99 => ?_)
    · have hf := hf.1 c_99
      refine nw_iinc (pc := 104) (v := (x4 + (1 : Int32))) (lv' := [(4, .int (x4 + (1 : Int32))), (0, .ref (P.2.1 0)), (1, .ref (P.2.1 19)), (2, .int x2), (3, .int x3), (6, .int x6)]) h dX4_fitsWake_104 (j := 4) rfl rfl (by decide) rfl ?_
      refine nw_goto (pc := 107) (tgt := 18) h dX4_fitsWake_107 (by decide) ?_
      refine nw_sub (lv' := [(0, .ref (P.2.1 0)), (1, .ref (P.2.1 19)), (2, .int x2), (3, .int x3), (4, .int (x4 + (1 : Int32)))]) [1, 2, 3, 4, 0] rfl ?_
      exact hH_18 _ _ _ _ (hf)
    · have hf := hf.2 c_99
      refine nw_iconst (pc := 102) (v := 0) h dX4_fitsWake_102 (by decide) ?_
      exact nw_zret (pc := 103) h he dX4_fitsWake_103 (Or.inl rfl) ⟨_, rfl, hf⟩
  have hB_18 : ∀ (H_18 : nw_ST → Int32 → Int32 → Int32 → Prop) (hH_18 : (∀ (σ : nw_ST) (x2 : Int32) (x3 : Int32) (x4 : Int32), H_18 σ x2 x3 x4 → nw_G P X 7 σ [(0, .ref (P.2.1 0)), (1, .ref (P.2.1 19)), (2, .int x2), (3, .int x3), (4, .int x4)] 18 [])), ∀ (σ : nw_ST) (x2 : Int32) (x3 : Int32) (x4 : Int32), b4_fitsWake_18 K H_18 σ x2 x3 x4 → nw_G P X 7 σ [(0, .ref (P.2.1 0)), (1, .ref (P.2.1 19)), (2, .int x2), (3, .int x3), (4, .int x4)] 18 [] := by
    intro H_18 hH_18 σ x2 x3 x4 hf
    unfold b4_fitsWake_18 at hf
    refine nw_iload (pc := 18) h dX4_fitsWake_18 4 rfl ?_
    refine nw_aload_n (pc := 20) h dX4_fitsWake_20 rfl 0 rfl ?_
    refine gf4_49 (pc := 21) (r := 16) h rfl rfl dX4_fitsWake_21 ?_
    refine gf4_127 (pc := 24) h rfl dX4_fitsWake_24 ?_
    refine nw_icmp_ge (pc := 27) (tgt := 110) h dX4_fitsWake_27 (by decide) (fun c_27 => ?_) (fun c_27 => ?_)
    · have hf := hf.1 c_27
      refine nw_iconst (pc := 110) (v := 1) h dX4_fitsWake_110 (by decide) ?_
      exact nw_zret (pc := 111) h he dX4_fitsWake_111 (Or.inr rfl) ⟨_, rfl, hf⟩
    · have hf := hf.2 c_27
      refine nw_aload_n (pc := 30) h dX4_fitsWake_30 rfl 0 rfl ?_
      refine gf4_49 (pc := 31) (r := 16) h rfl rfl dX4_fitsWake_31 ?_
      refine gf4_377 (pc := 34) (r := 17) h rfl rfl dX4_fitsWake_34 ?_
      refine nw_iload (pc := 37) h dX4_fitsWake_37 4 rfl ?_
      obtain ⟨h_39, hf⟩ := hf
      refine nw_iald (pc := 39) (n := 8) h rfl rfl h_39 dX4_fitsWake_39 ?_
      refine nw_istore (pc := 40) (lv' := [(5, .int (nw_gA σ 17 x4.toNatClampNeg)), (0, .ref (P.2.1 0)), (1, .ref (P.2.1 19)), (2, .int x2), (3, .int x3), (4, .int x4)]) h dX4_fitsWake_40 (by decide) rfl ?_
      refine nw_aload_n (pc := 42) h dX4_fitsWake_42 rfl 2 rfl ?_
      refine gf4_162 (pc := 43) (r := 23) h rfl rfl dX4_fitsWake_43 ?_
      refine nw_iload (pc := 46) h dX4_fitsWake_46 0 rfl ?_
      obtain ⟨h_48, hf⟩ := hf
      refine nw_iald (pc := 48) (n := 240) h rfl rfl h_48 dX4_fitsWake_48 ?_
      refine nw_istore (pc := 49) (lv' := [(6, .int (nw_gA σ 23 (nw_gA σ 17 x4.toNatClampNeg).toNatClampNeg)), (5, .int (nw_gA σ 17 x4.toNatClampNeg)), (0, .ref (P.2.1 0)), (1, .ref (P.2.1 19)), (2, .int x2), (3, .int x3), (4, .int x4)]) h dX4_fitsWake_49 (by decide) rfl ?_
      refine nw_iload_n (pc := 51) h dX4_fitsWake_51 rfl 5 rfl ?_
      refine nw_if_eq (pc := 52) (tgt := 82) h dX4_fitsWake_52 (by decide) (fun c_52 => ?_) (fun c_52 => ?_)
      · skip
        simp only [if_pos c_52] at hf
        refine nw_sub (lv' := [(0, .ref (P.2.1 0)), (1, .ref (P.2.1 19)), (2, .int x2), (3, .int x3), (4, .int x4), (6, .int (nw_gA σ 23 (nw_gA σ 17 x4.toNatClampNeg).toNatClampNeg))]) [2, 3, 4, 5, 6, 0] rfl ?_
        exact hL_82 H_18 hH_18 _ _ _ _ _ hf
      · skip
        refine nw_iload (pc := 55) h dX4_fitsWake_55 0 rfl ?_
        refine nw_if_le (pc := 57) (tgt := 82) h dX4_fitsWake_57 (by decide) (fun c_57 => ?_) (fun c_57 => ?_)
        · skip
          simp only [if_neg c_52, if_pos c_57] at hf
          refine nw_sub (lv' := [(0, .ref (P.2.1 0)), (1, .ref (P.2.1 19)), (2, .int x2), (3, .int x3), (4, .int x4), (6, .int (nw_gA σ 23 (nw_gA σ 17 x4.toNatClampNeg).toNatClampNeg))]) [2, 3, 4, 5, 6, 0] rfl ?_
          exact hL_82 H_18 hH_18 _ _ _ _ _ hf
        · skip
          refine nw_iload (pc := 60) h dX4_fitsWake_60 1 rfl ?_
          refine nw_iload_n (pc := 62) h dX4_fitsWake_62 rfl 4 rfl ?_
          refine nw_icmp_lt (pc := 63) (tgt := 82) h dX4_fitsWake_63 (by decide) (fun c_63 => ?_) (fun c_63 => ?_)
          · skip
            simp only [if_neg c_52, if_neg c_57, if_pos c_63] at hf
            refine nw_sub (lv' := [(0, .ref (P.2.1 0)), (1, .ref (P.2.1 19)), (2, .int x2), (3, .int x3), (4, .int x4), (6, .int (nw_gA σ 23 (nw_gA σ 17 x4.toNatClampNeg).toNatClampNeg))]) [2, 3, 4, 5, 6, 0] rfl ?_
            exact hL_82 H_18 hH_18 _ _ _ _ _ hf
          · skip
            refine nw_iload (pc := 66) h dX4_fitsWake_66 1 rfl ?_
            refine nw_iload_n (pc := 68) h dX4_fitsWake_68 rfl 4 rfl ?_
            refine nw_icmp_ne (pc := 69) (tgt := 76) h dX4_fitsWake_69 (by decide) (fun c_69 => ?_) (fun c_69 => ?_)
            · skip
              refine nw_iload (pc := 76) h dX4_fitsWake_76 0 rfl ?_
              refine nw_iconst (pc := 78) (v := 1) h dX4_fitsWake_78 (by decide) ?_
              refine nw_isub (pc := 79) h dX4_fitsWake_79 ?_
              refine nw_istore (pc := 80) (lv' := [(6, .int ((nw_gA σ 23 (nw_gA σ 17 x4.toNatClampNeg).toNatClampNeg) - (1 : Int32))), (5, .int (nw_gA σ 17 x4.toNatClampNeg)), (0, .ref (P.2.1 0)), (1, .ref (P.2.1 19)), (2, .int x2), (3, .int x3), (4, .int x4)]) h dX4_fitsWake_80 (by decide) rfl ?_
              simp only [if_neg c_52, if_neg c_57, if_neg c_63, if_neg c_69] at hf
              refine nw_sub (lv' := [(0, .ref (P.2.1 0)), (1, .ref (P.2.1 19)), (2, .int x2), (3, .int x3), (4, .int x4), (6, .int ((nw_gA σ 23 (nw_gA σ 17 x4.toNatClampNeg).toNatClampNeg) - (1 : Int32)))]) [2, 3, 4, 5, 6, 0] rfl ?_
              exact hL_82 H_18 hH_18 _ _ _ _ _ hf
            · skip
              refine nw_iconst (pc := 72) (v := 0) h dX4_fitsWake_72 (by decide) ?_
              refine nw_goto (pc := 73) (tgt := 80) h dX4_fitsWake_73 (by decide) ?_
              refine nw_istore (pc := 80) (lv' := [(6, .int (0 : Int32)), (5, .int (nw_gA σ 17 x4.toNatClampNeg)), (0, .ref (P.2.1 0)), (1, .ref (P.2.1 19)), (2, .int x2), (3, .int x3), (4, .int x4)]) h dX4_fitsWake_80 (by decide) rfl ?_
              simp only [if_neg c_52, if_neg c_57, if_neg c_63, if_pos c_69] at hf
              refine nw_sub (lv' := [(0, .ref (P.2.1 0)), (1, .ref (P.2.1 19)), (2, .int x2), (3, .int x3), (4, .int x4), (6, .int (0 : Int32))]) [2, 3, 4, 5, 6, 0] rfl ?_
              exact hL_82 H_18 hH_18 _ _ _ _ _ hf
  have hL_18 :  ∀ (n : Nat) (σ : nw_ST) (x2 : Int32) (x3 : Int32) (x4 : Int32), f4_fitsWake_18 K n σ x2 x3 x4 → nw_G P X 7 σ [(0, .ref (P.2.1 0)), (1, .ref (P.2.1 19)), (2, .int x2), (3, .int x3), (4, .int x4)] 18 [] := by
    intro n
    induction n with
    | zero => intro σ x2 x3 x4 hf; exact False.elim hf
    | succ n ih => exact hB_18 _ ih
  have hL_14 :  ∀ (σ : nw_ST) (x2 : Int32) (y0 : Int32), f4_fitsWake_14 K σ x2 y0 → nw_G P X 7 σ [(0, .ref (P.2.1 0)), (1, .ref (P.2.1 19)), (2, .int x2)] 14 [.int y0] := by
    intro σ x2 y0 hf
    unfold f4_fitsWake_14 at hf
    refine nw_istore_n (pc := 14) (lv' := [(3, .int y0), (0, .ref (P.2.1 0)), (1, .ref (P.2.1 19)), (2, .int x2)]) h dX4_fitsWake_14 rfl (by decide) rfl ?_
    refine nw_iconst (pc := 15) (v := 0) h dX4_fitsWake_15 (by decide) ?_
    refine nw_istore (pc := 16) (lv' := [(4, .int (0 : Int32)), (3, .int y0), (0, .ref (P.2.1 0)), (1, .ref (P.2.1 19)), (2, .int x2)]) h dX4_fitsWake_16 (by decide) rfl ?_
    obtain ⟨n_18, hf⟩ := hf
    refine nw_sub (lv' := [(0, .ref (P.2.1 0)), (1, .ref (P.2.1 19)), (2, .int x2), (3, .int y0), (4, .int (0 : Int32))]) [2, 3, 4, 1, 0] rfl ?_
    exact hL_18 n_18 _ _ _ _ hf
  unfold f4_fitsWake at hf
  refine nw_aload_n (pc := 0) h dX4_fitsWake_0 rfl 1 rfl ?_
  refine gf4_162 (pc := 1) (r := 23) h rfl rfl dX4_fitsWake_1 ?_
  refine nw_iload_n (pc := 4) h dX4_fitsWake_4 rfl 2 rfl ?_
  obtain ⟨h_5, hf⟩ := hf
  refine nw_iald (pc := 5) (n := 240) h rfl rfl h_5 dX4_fitsWake_5 ?_
  refine nw_if_le (pc := 6) (tgt := 13) h dX4_fitsWake_6 (by decide) (fun c_6 => ?_) (fun c_6 => ?_)
  · skip
    refine nw_iconst (pc := 13) (v := 0) h dX4_fitsWake_13 (by decide) ?_
    simp only [if_pos c_6] at hf
    exact hL_14 _ _ _ hf
  · skip
    refine nw_iconst (pc := 9) (v := 1) h dX4_fitsWake_9 (by decide) ?_
    refine nw_goto (pc := 10) (tgt := 14) h dX4_fitsWake_10 (by decide) ?_
    simp only [if_neg c_6] at hf
    exact hL_14 _ _ _ hf
theorem klX4_217 {P : nw_PT} {X : nw_EX} {cc : ByteArray} {nL : Nat} {σ : nw_ST} {lv : List (Nat × Value)} {pc : Nat} {rest : List Value} {a2 : Int32} (h : nw_ok P X cc RX4 nL) (hR : rm4_fitsWake.frames + 1 ≤ X.2.2.2.1.frames ∧ 8 + (7 + 11) + rm4_fitsWake.locals ≤ X.2.2.2.1.locals)  {K : Int32 → nw_ST → Prop} (hf : f4_fitsWake K σ a2) (hst : (rest.map fun v => v.category).sum ≤ 8) (hd : decode cc pc = .ok (.invokevirtual 217, 3)) (k : ∀ (r : Int32) (s2 : nw_ST), K r s2 → nw_G P X nL s2 lv (pc + 3) (.int r :: rest)) : nw_G P X nL σ lv pc (.int a2 :: .ref (P.2.1 19) :: .ref (P.2.1 0) :: rest) :=
  nw_callV (As := [.ref (P.2.1 19), .int a2]) (rest := rest) (C := RX4) (ci := 4) h (ct4_fitsWake _ P h.2.2 σ a2 K hf) (nw_goodV nw_w173 nw_w174 nw_w175 nw_w24 nw_w176) yd4_fitsWake rfl hR ⟨rfl, rfl⟩ rfl (by decide) rfl rfl hst rfl hd (fun v s2 z => by obtain ⟨r, rfl, z⟩ := z; exact k r s2 z)
def f4_voids_69 (K : Int32 → nw_ST → Prop) (σ : nw_ST) (y0 : Int32) : Prop := (K y0 σ)
def f4_voids_53 (K : Int32 → nw_ST → Prop) (H_24 : nw_ST → Int32 → Int32 → Int32 → Prop) (σ : nw_ST) (x1 : Int32) (x3 : Int32) (x4 : Int32) : Prop := (H_24 σ x1 x3 (x4 + (1 : Int32)))
def b4_voids_24 (K : Int32 → nw_ST → Prop) (H_24 : nw_ST → Int32 → Int32 → Int32 → Prop) (σ : nw_ST) (x1 : Int32) (x3 : Int32) (x4 : Int32) : Prop := ((((240 : Int32) ≤ x4) → (f4_voids_69 K σ (if (x1 = (-1 : Int32)) then x3 else (-1 : Int32)))) ∧ (¬ ((240 : Int32) ≤ x4) → (f4_fitsWake (fun (r_36 : Int32) (s_36 : nw_ST) => (((r_36 = 0) → (f4_voids_53 K H_24 s_36 x1 x3 x4)) ∧ (¬ (r_36 = 0) → (((x3 = x1) → (K x4 s_36)) ∧ (¬ (x3 = x1) → (f4_voids_53 K H_24 s_36 x1 (x3 + (1 : Int32)) x4)))))) σ x4)))
def f4_voids_24 (K : Int32 → nw_ST → Prop) : Nat → nw_ST → Int32 → Int32 → Int32 → Prop
  | 0 => fun _ _ _ _ => False
  | n + 1 => b4_voids_24 K (f4_voids_24 K n)
def f4_voids (K : Int32 → nw_ST → Prop) (σ : nw_ST) (a1 : Int32) : Prop := ((((v4_isFrom a1 (-1 : Int32) (239 : Int32)) = 0) → (K (-2 : Int32) σ)) ∧ (¬ ((v4_isFrom a1 (-1 : Int32) (239 : Int32)) = 0) → (f4_waves (fun (r_15 : Nat) (s_15 : nw_ST) => (∃ n, f4_voids_24 K n s_15 a1 (0 : Int32) (0 : Int32))) σ)))
def rm4_voids : Room := { frames := 4, cells := 0, slots := 0, locals := 91 }
theorem yd4_voids : yX4_voids.cls = RX4 ∧ yX4_voids.cls ≠ "java/lang/invoke/MethodHandle" ∧ yX4_voids.cls ≠ "java/lang/invoke/VarHandle" ∧ (parseMethodDescriptor yX4_voids.desc).map (fun d => d.parameters.length) = some 1 := by decide +kernel
set_option maxHeartbeats 4000000 in
set_option maxRecDepth 100000 in
theorem ct4_voids (l : Launch) (P : nw_PT) (hD : nw_D P) (σ : nw_ST) (a1 : Int32)  (K : Int32 → nw_ST → Prop) (hf : f4_voids K σ a1) : nw_MT l yX4_voids cX4_voids 5 (some .int) rm4_voids P [.ref (P.2.1 0), .int a1] σ (nw_Ki K) := by
  refine nw_enter (by decide) (by first | decide | exact Nat.le_of_ble_eq_true rfl) hD ?_
  intro X hl h he hR
  subst hl
  have h : nw_ok P X cX4_voids RX4 5 := h
  show nw_G P X 5 σ [(0, .ref (P.2.1 0)), (1, .int a1)] 0 []
  have hL_69 :  ∀ (σ : nw_ST) (y0 : Int32), f4_voids_69 K σ y0 → nw_G P X 5 σ [] 69 [.int y0] := by
    intro σ y0 hf
    unfold f4_voids_69 at hf
    exact nw_iret (pc := 69) h he dX4_voids_69 ⟨_, rfl, hf⟩
  have hL_53 : ∀ (H_24 : nw_ST → Int32 → Int32 → Int32 → Prop) (hH_24 : (∀ (σ : nw_ST) (x1 : Int32) (x3 : Int32) (x4 : Int32), H_24 σ x1 x3 x4 → nw_G P X 5 σ [(0, .ref (P.2.1 0)), (1, .int x1), (2, .ref (P.2.1 19)), (3, .int x3), (4, .int x4)] 24 [])), ∀ (σ : nw_ST) (x1 : Int32) (x3 : Int32) (x4 : Int32), f4_voids_53 K H_24 σ x1 x3 x4 → nw_G P X 5 σ [(0, .ref (P.2.1 0)), (1, .int x1), (2, .ref (P.2.1 19)), (3, .int x3), (4, .int x4)] 53 [] := by
    intro H_24 hH_24 σ x1 x3 x4 hf
    unfold f4_voids_53 at hf
    refine nw_iinc (pc := 53) (v := (x4 + (1 : Int32))) (lv' := [(4, .int (x4 + (1 : Int32))), (0, .ref (P.2.1 0)), (1, .int x1), (2, .ref (P.2.1 19)), (3, .int x3)]) h dX4_voids_53 (j := 4) rfl rfl (by decide) rfl ?_
    refine nw_goto (pc := 56) (tgt := 24) h dX4_voids_56 (by decide) ?_
    refine nw_sub (lv' := [(0, .ref (P.2.1 0)), (1, .int x1), (2, .ref (P.2.1 19)), (3, .int x3), (4, .int (x4 + (1 : Int32)))]) [1, 2, 3, 4, 0] rfl ?_
    exact hH_24 _ _ _ _ (hf)
  have hB_24 : ∀ (H_24 : nw_ST → Int32 → Int32 → Int32 → Prop) (hH_24 : (∀ (σ : nw_ST) (x1 : Int32) (x3 : Int32) (x4 : Int32), H_24 σ x1 x3 x4 → nw_G P X 5 σ [(0, .ref (P.2.1 0)), (1, .int x1), (2, .ref (P.2.1 19)), (3, .int x3), (4, .int x4)] 24 [])), ∀ (σ : nw_ST) (x1 : Int32) (x3 : Int32) (x4 : Int32), b4_voids_24 K H_24 σ x1 x3 x4 → nw_G P X 5 σ [(0, .ref (P.2.1 0)), (1, .int x1), (2, .ref (P.2.1 19)), (3, .int x3), (4, .int x4)] 24 [] := by
    intro H_24 hH_24 σ x1 x3 x4 hf
    unfold b4_voids_24 at hf
    refine nw_iload (pc := 24) h dX4_voids_24 4 rfl ?_
    refine nw_sipush (pc := 26) (v := 240) h dX4_voids_26 (by decide) ?_
    refine nw_icmp_ge (pc := 29) (tgt := 59) h dX4_voids_29 (by decide) (fun c_29 => ?_) (fun c_29 => ?_)
    · have hf := hf.1 c_29
      refine nw_iload_n (pc := 59) h dX4_voids_59 rfl 1 rfl ?_
      refine nw_iconst (pc := 60) (v := -1) h dX4_voids_60 (by decide) ?_
      refine nw_icmp_ne (pc := 61) (tgt := 68) h dX4_voids_61 (by decide) (fun c_61 => ?_) (fun c_61 => ?_)
      · skip
        refine nw_iconst (pc := 68) (v := -1) h dX4_voids_68 (by decide) ?_
        simp only [if_neg c_61] at hf
        refine nw_sub (lv' := []) [] rfl ?_
        exact hL_69 _ _ hf
      · skip
        refine nw_iload_n (pc := 64) h dX4_voids_64 rfl 3 rfl ?_
        refine nw_goto (pc := 65) (tgt := 69) h dX4_voids_65 (by decide) ?_
        simp only [if_pos c_61] at hf
        refine nw_sub (lv' := []) [] rfl ?_
        exact hL_69 _ _ hf
    · have hf := hf.2 c_29
      refine nw_aload_n (pc := 32) h dX4_voids_32 rfl 0 rfl ?_
      refine nw_aload_n (pc := 33) h dX4_voids_33 rfl 2 rfl ?_
      refine nw_iload (pc := 34) h dX4_voids_34 4 rfl ?_
      refine klX4_217 (pc := 36) h (by rw [hR]; decide) hf (Nat.le_of_ble_eq_true rfl) dX4_voids_36 (fun r_36 s_36 hf => ?_)
      refine nw_if_eq (pc := 39) (tgt := 53) h dX4_voids_39 (by decide) (fun c_39 => ?_) (fun c_39 => ?_)
      · have hf := hf.1 c_39
        exact hL_53 H_24 hH_24 _ _ _ _ (hf)
      · have hf := hf.2 c_39
        refine nw_iload_n (pc := 42) h dX4_voids_42 rfl 3 rfl ?_
        refine nw_iload_n (pc := 43) h dX4_voids_43 rfl 1 rfl ?_
        refine nw_icmp_ne (pc := 44) (tgt := 50) h dX4_voids_44 (by decide) (fun c_44 => ?_) (fun c_44 => ?_)
        · have hf := hf.2 c_44
          refine nw_iinc (pc := 50) (v := (x3 + (1 : Int32))) (lv' := [(3, .int (x3 + (1 : Int32))), (0, .ref (P.2.1 0)), (1, .int x1), (2, .ref (P.2.1 19)), (4, .int x4)]) h dX4_voids_50 (j := 3) rfl rfl (by decide) rfl ?_
          refine nw_sub (lv' := [(0, .ref (P.2.1 0)), (1, .int x1), (2, .ref (P.2.1 19)), (3, .int (x3 + (1 : Int32))), (4, .int x4)]) [1, 2, 3, 0, 4] rfl ?_
          exact hL_53 H_24 hH_24 _ _ _ _ (hf)
        · have hf := hf.1 c_44
          refine nw_iload (pc := 47) h dX4_voids_47 4 rfl ?_
          exact nw_iret (pc := 49) h he dX4_voids_49 ⟨_, rfl, hf⟩
  have hL_24 :  ∀ (n : Nat) (σ : nw_ST) (x1 : Int32) (x3 : Int32) (x4 : Int32), f4_voids_24 K n σ x1 x3 x4 → nw_G P X 5 σ [(0, .ref (P.2.1 0)), (1, .int x1), (2, .ref (P.2.1 19)), (3, .int x3), (4, .int x4)] 24 [] := by
    intro n
    induction n with
    | zero => intro σ x1 x3 x4 hf; exact False.elim hf
    | succ n ih => exact hB_24 _ ih
  unfold f4_voids at hf
  refine nw_iload_n (pc := 0) h dX4_voids_0 rfl 1 rfl ?_
  refine nw_iconst (pc := 1) (v := -1) h dX4_voids_1 (by decide) ?_
  refine nw_sipush (pc := 2) (v := 239) h dX4_voids_2 (by decide) ?_
  refine klX4_109 (pc := 5) h (by rw [hR]; decide) (Nat.le_of_ble_eq_true rfl) dX4_voids_5 ?_
  refine nw_if_ne (pc := 8) (tgt := 14) h dX4_voids_8 (by decide) (fun c_8 => ?_) (fun c_8 => ?_)
  · have hf := hf.2 c_8
    refine nw_aload_n (pc := 14) h dX4_voids_14 rfl 0 rfl ?_
    refine klX4_140 (pc := 15) h (by rw [hR]; decide) hf (Nat.le_of_ble_eq_true rfl) dX4_voids_15 (fun r_15 s_15 hcr hf => ?_)
    obtain rfl := nw_q3 hcr
    refine nw_astore_n (pc := 18) (lv' := [(2, .ref (P.2.1 19)), (0, .ref (P.2.1 0)), (1, .int a1)]) h dX4_voids_18 rfl (by decide) rfl ?_
    refine nw_iconst (pc := 19) (v := 0) h dX4_voids_19 (by decide) ?_
    refine nw_istore_n (pc := 20) (lv' := [(3, .int (0 : Int32)), (2, .ref (P.2.1 19)), (0, .ref (P.2.1 0)), (1, .int a1)]) h dX4_voids_20 rfl (by decide) rfl ?_
    refine nw_iconst (pc := 21) (v := 0) h dX4_voids_21 (by decide) ?_
    refine nw_istore (pc := 22) (lv' := [(4, .int (0 : Int32)), (3, .int (0 : Int32)), (2, .ref (P.2.1 19)), (0, .ref (P.2.1 0)), (1, .int a1)]) h dX4_voids_22 (by decide) rfl ?_
    obtain ⟨n_24, hf⟩ := hf
    refine nw_sub (lv' := [(0, .ref (P.2.1 0)), (1, .int a1), (2, .ref (P.2.1 19)), (3, .int (0 : Int32)), (4, .int (0 : Int32))]) [3, 4, 2, 1, 0] rfl ?_
    exact hL_24 n_24 _ _ _ _ hf
  · have hf := hf.1 c_8
    refine nw_bipush (pc := 11) (v := -2) h dX4_voids_11 (by decide) ?_
    exact nw_iret (pc := 13) h he dX4_voids_13 ⟨_, rfl, hf⟩
theorem gf4_66 {P : nw_PT} {X : nw_EX} {cc : ByteArray} {nL : Nat} {σ : nw_ST} {lv : List (Nat × Value)} {pc : Nat} {st : List Value} {q : Nat} (h : nw_ok P X cc RX4 nL) (hq : nw_cl q = 4) {r : Nat} (hr : nw_rf q 8 = r) (hd : decode cc pc = .ok (.getfield 66, 3)) (k : nw_G P X nL σ lv (pc + 3) (.ref (P.2.1 r) :: st)) : nw_G P X nL σ lv pc (.ref (P.2.1 q) :: st) := by
  subst hr; intro H locs ls h1 h2 h3
  exact va_get (D := P.1) (ci := 4) (C := RX4) (T := TX4) (N := 13) h.1.1 h.1.2.1 h.1.2.2.2.2 in_T4 h.1.2.2.2.1 h.2.1.1 h1 q (nw_at4 hq) rfl 8 (by decide) (h.1.2.2.2.2 _ nw_w177) (fun _ z => z) rfl hd (k H locs ls h1 h2 h3)
theorem klX4_383 {P : nw_PT} {X : nw_EX} {cc : ByteArray} {nL : Nat} {σ : nw_ST} {lv : List (Nat × Value)} {pc : Nat} {rest : List Value} {q1 : Nat} {a2 : Int32} (h : nw_ok P X cc RX4 nL) (hR : rmJ7_fill_53178.frames + 1 ≤ X.2.2.2.1.frames ∧ 8 + (4 + 11) + rmJ7_fill_53178.locals ≤ X.2.2.2.1.locals) (hc_q1 : nw_cl q1 = 10) {K : nw_ST → Prop} (hf : fJ7_fill_53178 K σ q1 a2) (hst : (rest.map fun v => v.category).sum ≤ 8) (hd : decode cc pc = .ok (.invokestatic 383, 3)) (k : ∀ (s2 : nw_ST), K s2 → nw_G P X nL s2 lv (pc + 3) rest) : nw_G P X nL σ lv pc (.int a2 :: .ref (P.2.1 q1) :: rest) :=
  nw_callS (As := [.ref (P.2.1 q1), .int a2]) (rest := rest) h (ctJ7_fill_53178 _ P h.2.2 σ q1 a2 hc_q1 K hf) (nw_goodS nw_w178 nw_w7 nw_w8 nw_w9) ydJ7_fill_53178.2 rfl hR ⟨rfl, rfl⟩ hst rfl hd (fun v s2 z => by obtain ⟨rfl, z⟩ := z; exact k s2 z)
def f4_markDueNumbers_77 (K : Int32 → nw_ST → Prop) (H_12 : nw_ST → Int32 → Int32 → Prop) (σ : nw_ST) (x1 : Int32) (x2 : Int32) (x3 : Int32) (y0 : Int32) (y1 : Int32) : Prop := ((vp_in y1 240) ∧ (H_12 (nw_sA σ 35 y1.toNatClampNeg y0) (if x1 < (x3 + (1 : Int32)) then (x3 + (1 : Int32)) else x1) (x2 + (1 : Int32))))
def b4_markDueNumbers_12 (K : Int32 → nw_ST → Prop) (H_12 : nw_ST → Int32 → Int32 → Prop) (σ : nw_ST) (x1 : Int32) (x2 : Int32) : Prop := ((((nw_gS σ 16 2) ≤ x2) → (K x1 σ)) ∧ (¬ ((nw_gS σ 16 2) ≤ x2) → ((vp_in x2 8) ∧ ((vp_in x2 8) ∧ ((vp_in (nw_gA σ 17 x2.toNatClampNeg) 240) ∧ (((((nw_gA σ 35 (nw_gA σ 17 x2.toNatClampNeg).toNatClampNeg) = (-1 : Int32)) → True) ∧ (¬ ((nw_gA σ 35 (nw_gA σ 17 x2.toNatClampNeg).toNatClampNeg) = (-1 : Int32)) → (vp_in (nw_gA σ 17 x2.toNatClampNeg) 240))) ∧ (f4_markDueNumbers_77 K H_12 σ x1 x2 (nw_gA σ 17 x2.toNatClampNeg) (if ((nw_gA σ 35 (nw_gA σ 17 x2.toNatClampNeg).toNatClampNeg) = (-1 : Int32)) then (nw_gA σ 18 x2.toNatClampNeg) else (if ((nw_gA σ 35 (nw_gA σ 17 x2.toNatClampNeg).toNatClampNeg) = (nw_gA σ 18 x2.toNatClampNeg)) then (nw_gA σ 18 x2.toNatClampNeg) else (-2 : Int32))) (nw_gA σ 17 x2.toNatClampNeg))))))))
def f4_markDueNumbers_12 (K : Int32 → nw_ST → Prop) : Nat → nw_ST → Int32 → Int32 → Prop
  | 0 => fun _ _ _ => False
  | n + 1 => b4_markDueNumbers_12 K (f4_markDueNumbers_12 K n)
def f4_markDueNumbers (K : Int32 → nw_ST → Prop) (σ : nw_ST)  : Prop := (fJ7_fill_53178 (fun (s_5 : nw_ST) => (∃ n, f4_markDueNumbers_12 K n s_5 (0 : Int32) (0 : Int32))) σ 35 (-1 : Int32))
def rm4_markDueNumbers : Room := { frames := 1, cells := 0, slots := 0, locals := 24 }
theorem yd4_markDueNumbers : yX4_markDueNumbers.cls = RX4 ∧ yX4_markDueNumbers.cls ≠ "java/lang/invoke/MethodHandle" ∧ yX4_markDueNumbers.cls ≠ "java/lang/invoke/VarHandle" ∧ (parseMethodDescriptor yX4_markDueNumbers.desc).map (fun d => d.parameters.length) = some 0 := by decide +kernel
set_option maxHeartbeats 4000000 in
set_option maxRecDepth 100000 in
theorem ct4_markDueNumbers (l : Launch) (P : nw_PT) (hD : nw_D P) (σ : nw_ST)   (K : Int32 → nw_ST → Prop) (hf : f4_markDueNumbers K σ ) : nw_MT l yX4_markDueNumbers cX4_markDueNumbers 5 (some .int) rm4_markDueNumbers P [.ref (P.2.1 0)] σ (nw_Ki K) := by
  refine nw_enter (by decide) (by first | decide | exact Nat.le_of_ble_eq_true rfl) hD ?_
  intro X hl h he hR
  subst hl
  have h : nw_ok P X cX4_markDueNumbers RX4 5 := h
  show nw_G P X 5 σ [(0, .ref (P.2.1 0))] 0 []
  have hL_77 : ∀ (H_12 : nw_ST → Int32 → Int32 → Prop) (hH_12 : (∀ (σ : nw_ST) (x1 : Int32) (x2 : Int32), H_12 σ x1 x2 → nw_G P X 5 σ [(0, .ref (P.2.1 0)), (1, .int x1), (2, .int x2)] 12 [])), ∀ (σ : nw_ST) (x1 : Int32) (x2 : Int32) (x3 : Int32) (y0 : Int32) (y1 : Int32), f4_markDueNumbers_77 K H_12 σ x1 x2 x3 y0 y1 → nw_G P X 5 σ [(0, .ref (P.2.1 0)), (1, .int x1), (2, .int x2), (3, .int x3)] 77 [.int y0, .int y1, .ref (P.2.1 35)] := by
    intro H_12 hH_12 σ x1 x2 x3 y0 y1 hf
    unfold f4_markDueNumbers_77 at hf
    obtain ⟨h_77, hf⟩ := hf
    refine nw_iast (pc := 77) (n := 240) h rfl rfl h_77 dX4_markDueNumbers_77 ?_
    refine nw_iload_n (pc := 78) h dX4_markDueNumbers_78 rfl 1 rfl ?_
    refine nw_iload_n (pc := 79) h dX4_markDueNumbers_79 rfl 3 rfl ?_
    refine nw_iconst (pc := 80) (v := 1) h dX4_markDueNumbers_80 (by decide) ?_
    refine nw_iadd (pc := 81) h dX4_markDueNumbers_81 ?_
    refine nw_mmax (pc := 82) h nw_w144 nw_w145 nw_w146 nw_w147 (by rw [hR]; decide) (by rw [hR]; exact Nat.le_of_ble_eq_true rfl) dX4_markDueNumbers_82 ?_
    refine nw_istore_n (pc := 85) (lv' := [(1, .int (if x1 < (x3 + (1 : Int32)) then (x3 + (1 : Int32)) else x1)), (0, .ref (P.2.1 0)), (2, .int x2), (3, .int x3)]) h dX4_markDueNumbers_85 rfl (by decide) rfl ?_
    refine nw_iinc (pc := 86) (v := (x2 + (1 : Int32))) (lv' := [(2, .int (x2 + (1 : Int32))), (1, .int (if x1 < (x3 + (1 : Int32)) then (x3 + (1 : Int32)) else x1)), (0, .ref (P.2.1 0)), (3, .int x3)]) h dX4_markDueNumbers_86 (j := 2) rfl rfl (by decide) rfl ?_
    refine nw_goto (pc := 89) (tgt := 12) h dX4_markDueNumbers_89 (by decide) ?_
    refine nw_sub (lv' := [(0, .ref (P.2.1 0)), (1, .int (if x1 < (x3 + (1 : Int32)) then (x3 + (1 : Int32)) else x1)), (2, .int (x2 + (1 : Int32)))]) [2, 1, 0] rfl ?_
    exact hH_12 _ _ _ (hf)
  have hB_12 : ∀ (H_12 : nw_ST → Int32 → Int32 → Prop) (hH_12 : (∀ (σ : nw_ST) (x1 : Int32) (x2 : Int32), H_12 σ x1 x2 → nw_G P X 5 σ [(0, .ref (P.2.1 0)), (1, .int x1), (2, .int x2)] 12 [])), ∀ (σ : nw_ST) (x1 : Int32) (x2 : Int32), b4_markDueNumbers_12 K H_12 σ x1 x2 → nw_G P X 5 σ [(0, .ref (P.2.1 0)), (1, .int x1), (2, .int x2)] 12 [] := by
    intro H_12 hH_12 σ x1 x2 hf
    unfold b4_markDueNumbers_12 at hf
    refine nw_iload_n (pc := 12) h dX4_markDueNumbers_12 rfl 2 rfl ?_
    refine nw_aload_n (pc := 13) h dX4_markDueNumbers_13 rfl 0 rfl ?_
    refine gf4_49 (pc := 14) (r := 16) h rfl rfl dX4_markDueNumbers_14 ?_
    refine gf4_127 (pc := 17) h rfl dX4_markDueNumbers_17 ?_
    refine nw_icmp_ge (pc := 20) (tgt := 92) h dX4_markDueNumbers_20 (by decide) (fun c_20 => ?_) (fun c_20 => ?_)
    · have hf := hf.1 c_20
      refine nw_iload_n (pc := 92) h dX4_markDueNumbers_92 rfl 1 rfl ?_
      exact nw_iret (pc := 93) h he dX4_markDueNumbers_93 ⟨_, rfl, hf⟩
    · have hf := hf.2 c_20
      refine nw_aload_n (pc := 23) h dX4_markDueNumbers_23 rfl 0 rfl ?_
      refine gf4_49 (pc := 24) (r := 16) h rfl rfl dX4_markDueNumbers_24 ?_
      refine gf4_377 (pc := 27) (r := 17) h rfl rfl dX4_markDueNumbers_27 ?_
      refine nw_iload_n (pc := 30) h dX4_markDueNumbers_30 rfl 2 rfl ?_
      obtain ⟨h_31, hf⟩ := hf
      refine nw_iald (pc := 31) (n := 8) h rfl rfl h_31 dX4_markDueNumbers_31 ?_
      refine nw_istore_n (pc := 32) (lv' := [(3, .int (nw_gA σ 17 x2.toNatClampNeg)), (0, .ref (P.2.1 0)), (1, .int x1), (2, .int x2)]) h dX4_markDueNumbers_32 rfl (by decide) rfl ?_
      refine nw_aload_n (pc := 33) h dX4_markDueNumbers_33 rfl 1 rfl ?_
      refine gf4_49 (pc := 34) (r := 16) h rfl rfl dX4_markDueNumbers_34 ?_
      refine gf4_172 (pc := 37) (r := 18) h rfl rfl dX4_markDueNumbers_37 ?_
      refine nw_iload_n (pc := 40) h dX4_markDueNumbers_40 rfl 3 rfl ?_
      obtain ⟨h_41, hf⟩ := hf
      refine nw_iald (pc := 41) (n := 8) h rfl rfl h_41 dX4_markDueNumbers_41 ?_
      refine nw_istore (pc := 42) (lv' := [(4, .int (nw_gA σ 18 x2.toNatClampNeg)), (3, .int (nw_gA σ 17 x2.toNatClampNeg)), (0, .ref (P.2.1 0)), (1, .int x1), (2, .int x2)]) h dX4_markDueNumbers_42 (by decide) rfl ?_
      refine nw_aload_n (pc := 44) h dX4_markDueNumbers_44 rfl 2 rfl ?_
      refine gf4_66 (pc := 45) (r := 35) h rfl rfl dX4_markDueNumbers_45 ?_
      refine nw_iload_n (pc := 48) h dX4_markDueNumbers_48 rfl 1 rfl ?_
      refine nw_aload_n (pc := 49) h dX4_markDueNumbers_49 rfl 2 rfl ?_
      refine gf4_66 (pc := 50) (r := 35) h rfl rfl dX4_markDueNumbers_50 ?_
      refine nw_iload_n (pc := 53) h dX4_markDueNumbers_53 rfl 1 rfl ?_
      obtain ⟨h_54, hf⟩ := hf
      refine nw_iald (pc := 54) (n := 240) h rfl rfl h_54 dX4_markDueNumbers_54 ?_
      refine nw_iconst (pc := 55) (v := -1) h dX4_markDueNumbers_55 (by decide) ?_
      obtain ⟨ho, hf⟩ := hf
      refine nw_icmp_eq (pc := 56) (tgt := 70) h dX4_markDueNumbers_56 (by decide) (fun c_56 => ?_) (fun c_56 => ?_)
      · skip
        have ho := ho.1 c_56
        refine nw_iload (pc := 70) h dX4_markDueNumbers_70 0 rfl ?_
        refine nw_goto (pc := 72) (tgt := 77) h dX4_markDueNumbers_72 (by decide) ?_
        simp only [if_pos c_56] at hf
        refine nw_sub (lv' := [(0, .ref (P.2.1 0)), (1, .int x1), (2, .int x2), (3, .int (nw_gA σ 17 x2.toNatClampNeg))]) [2, 3, 4, 1] rfl ?_
        exact hL_77 H_12 hH_12 _ _ _ _ _ _ hf
      · skip
        have ho := ho.2 c_56
        refine nw_aload_n (pc := 59) h dX4_markDueNumbers_59 rfl 2 rfl ?_
        refine gf4_66 (pc := 60) (r := 35) h rfl rfl dX4_markDueNumbers_60 ?_
        refine nw_iload_n (pc := 63) h dX4_markDueNumbers_63 rfl 1 rfl ?_
        have h_64 := ho
        refine nw_iald (pc := 64) (n := 240) h rfl rfl h_64 dX4_markDueNumbers_64 ?_
        refine nw_iload (pc := 65) h dX4_markDueNumbers_65 0 rfl ?_
        refine nw_icmp_ne (pc := 67) (tgt := 75) h dX4_markDueNumbers_67 (by decide) (fun c_67 => ?_) (fun c_67 => ?_)
        · skip
          refine nw_bipush (pc := 75) (v := -2) h dX4_markDueNumbers_75 (by decide) ?_
          simp only [if_neg c_56, if_neg c_67] at hf
          refine nw_sub (lv' := [(0, .ref (P.2.1 0)), (1, .int x1), (2, .int x2), (3, .int (nw_gA σ 17 x2.toNatClampNeg))]) [2, 3, 4, 1] rfl ?_
          exact hL_77 H_12 hH_12 _ _ _ _ _ _ hf
        · skip
          refine nw_iload (pc := 70) h dX4_markDueNumbers_70 0 rfl ?_
          refine nw_goto (pc := 72) (tgt := 77) h dX4_markDueNumbers_72 (by decide) ?_
          simp only [if_neg c_56, if_pos c_67] at hf
          refine nw_sub (lv' := [(0, .ref (P.2.1 0)), (1, .int x1), (2, .int x2), (3, .int (nw_gA σ 17 x2.toNatClampNeg))]) [2, 3, 4, 1] rfl ?_
          exact hL_77 H_12 hH_12 _ _ _ _ _ _ hf
  have hL_12 :  ∀ (n : Nat) (σ : nw_ST) (x1 : Int32) (x2 : Int32), f4_markDueNumbers_12 K n σ x1 x2 → nw_G P X 5 σ [(0, .ref (P.2.1 0)), (1, .int x1), (2, .int x2)] 12 [] := by
    intro n
    induction n with
    | zero => intro σ x1 x2 hf; exact False.elim hf
    | succ n ih => exact hB_12 _ ih
  unfold f4_markDueNumbers at hf
  refine nw_aload_n (pc := 0) h dX4_markDueNumbers_0 rfl 0 rfl ?_
  refine gf4_66 (pc := 1) (r := 35) h rfl rfl dX4_markDueNumbers_1 ?_
  refine nw_iconst (pc := 4) (v := -1) h dX4_markDueNumbers_4 (by decide) ?_
  refine klX4_383 (pc := 5) h (by rw [hR]; decide) rfl hf (Nat.le_of_ble_eq_true rfl) dX4_markDueNumbers_5 (fun s_5 hf => ?_)
  refine nw_iconst (pc := 8) (v := 0) h dX4_markDueNumbers_8 (by decide) ?_
  refine nw_istore_n (pc := 9) (lv' := [(1, .int (0 : Int32)), (0, .ref (P.2.1 0))]) h dX4_markDueNumbers_9 rfl (by decide) rfl ?_
  refine nw_iconst (pc := 10) (v := 0) h dX4_markDueNumbers_10 (by decide) ?_
  refine nw_istore_n (pc := 11) (lv' := [(2, .int (0 : Int32)), (1, .int (0 : Int32)), (0, .ref (P.2.1 0))]) h dX4_markDueNumbers_11 rfl (by decide) rfl ?_
  obtain ⟨n_12, hf⟩ := hf
  refine nw_sub (lv' := [(0, .ref (P.2.1 0)), (1, .int (0 : Int32)), (2, .int (0 : Int32))]) [2, 1, 0] rfl ?_
  exact hL_12 n_12 _ _ _ hf
theorem gf4_386 {P : nw_PT} {X : nw_EX} {cc : ByteArray} {nL : Nat} {σ : nw_ST} {lv : List (Nat × Value)} {pc : Nat} {st : List Value} {q : Nat} (h : nw_ok P X cc RX4 nL) (hq : nw_cl q = 3) {r : Nat} (hr : nw_rf q 2 = r) (hd : decode cc pc = .ok (.getfield 386, 3)) (k : nw_G P X nL σ lv (pc + 3) (.ref (P.2.1 r) :: st)) : nw_G P X nL σ lv pc (.ref (P.2.1 q) :: st) := by
  subst hr; intro H locs ls h1 h2 h3
  exact va_getN (D := P.1) (ci := 3) (C := RX3) (T := TX3) (N := 7) h.1.1 h.1.2.1 h.1.2.2.2.2 in_T3 h.1.2.2.2.1 h.2.1.1 h1 q (nw_at3 hq) rfl 2 (by decide) (va_Nw.use rfl (h.2.1.2.1 ("NumberedWaves", 386, "NumberedWaves$Waves", "voided", "[Z", "NumberedWaves") (by decide +kernel))) (fun _ z => z) rfl hd (k H locs ls h1 h2 h3)
def f4_fitsPeriod_162 (K : Int32 → nw_ST → Prop) (H_39 : nw_ST → Int32 → Int32 → Int32 → Int32 → Int32 → Int32 → Int32 → Prop) (σ : nw_ST) (x3 : Int32) (x4 : Int32) (x5 : Int32) (x6 : Int32) (x7 : Int32) (x8 : Int32) (x9 : Int32) : Prop := (H_39 σ x3 x4 x5 x6 x7 x8 (x9 + (1 : Int32)))
def f4_fitsPeriod_137 (K : Int32 → nw_ST → Prop) (H_39 : nw_ST → Int32 → Int32 → Int32 → Int32 → Int32 → Int32 → Int32 → Prop) (σ : nw_ST) (x3 : Int32) (x4 : Int32) (x5 : Int32) (x6 : Int32) (x7 : Int32) (x8 : Int32) (x9 : Int32) (x11 : Int32) : Prop := ((vp_in x9 240) ∧ ((((nw_gA σ 35 x9.toNatClampNeg) = (-1 : Int32)) → (f4_fitsPeriod_162 K H_39 σ x3 x4 x5 x6 x7 x8 x9)) ∧ (¬ ((nw_gA σ 35 x9.toNatClampNeg) = (-1 : Int32)) → ((vp_in x9 240) ∧ ((((nw_gA σ 35 x9.toNatClampNeg) = x11) → (f4_fitsPeriod_162 K H_39 σ x3 x4 x5 x6 x7 x8 x9)) ∧ (¬ ((nw_gA σ 35 x9.toNatClampNeg) = x11) → (K (0 : Int32) σ)))))))
def f4_fitsPeriod_97 (K : Int32 → nw_ST → Prop) (H_39 : nw_ST → Int32 → Int32 → Int32 → Int32 → Int32 → Int32 → Int32 → Prop) (σ : nw_ST) (x3 : Int32) (x4 : Int32) (x5 : Int32) (x6 : Int32) (x7 : Int32) (x8 : Int32) (x9 : Int32) (y0 : Int32) (y1 : Int32) : Prop := (((((v4_breaksAt (y1 + y0) (nw_gS σ 0 10)) = 0) → True) ∧ (¬ ((v4_breaksAt (y1 + y0) (nw_gS σ 0 10)) = 0) → ((vp_in x9 240) ∧ ((((nw_gA σ 22 x9.toNatClampNeg) = 0) → (vp_in (x8 + (1 : Int32)) 241)) ∧ (¬ ((nw_gA σ 22 x9.toNatClampNeg) = 0) → True))))) ∧ (f4_fitsPeriod_137 K H_39 σ x3 x4 x5 x6 x7 (if ((v4_breaksAt (y1 + y0) (nw_gS σ 0 10)) = 0) then x8 else (if ((nw_gA σ 22 x9.toNatClampNeg) = 0) then (x8 + (1 : Int32)) else x8)) x9 (if ((v4_breaksAt (y1 + y0) (nw_gS σ 0 10)) = 0) then (0 : Int32) else (if ((nw_gA σ 22 x9.toNatClampNeg) = 0) then (nw_gA σ 24 (x8 + (1 : Int32)).toNatClampNeg) else (0 : Int32)))))
def f4_fitsPeriod_75 (K : Int32 → nw_ST → Prop) (H_39 : nw_ST → Int32 → Int32 → Int32 → Int32 → Int32 → Int32 → Int32 → Prop) (σ : nw_ST) (x3 : Int32) (x4 : Int32) (x5 : Int32) (x6 : Int32) (x7 : Int32) (x8 : Int32) (x9 : Int32) (y0 : Int32) (y1 : Int32) : Prop := ((o4_isCrest x9 x7 x3) ∧ (f4_fitsPeriod_97 K H_39 σ x3 x4 x5 x6 x7 x8 x9 (if ((v4_isCrest x9 x7 x3) = 0) then (0 : Int32) else x5) (y1 - y0)))
def b4_fitsPeriod_39 (K : Int32 → nw_ST → Prop) (H_39 : nw_ST → Int32 → Int32 → Int32 → Int32 → Int32 → Int32 → Int32 → Prop) (σ : nw_ST) (x3 : Int32) (x4 : Int32) (x5 : Int32) (x6 : Int32) (x7 : Int32) (x8 : Int32) (x9 : Int32) : Prop := (((x4 ≤ x9) → (K (1 : Int32) σ)) ∧ (¬ (x4 ≤ x9) → ((vp_in x9 240) ∧ ((o4_isCrest x9 x7 x6) ∧ (f4_fitsPeriod_75 K H_39 σ x3 x4 x5 x6 x7 x8 x9 (if ((v4_isCrest x9 x7 x6) = 0) then (0 : Int32) else x5) (nw_gA σ 20 x9.toNatClampNeg))))))
def f4_fitsPeriod_39 (K : Int32 → nw_ST → Prop) : Nat → nw_ST → Int32 → Int32 → Int32 → Int32 → Int32 → Int32 → Int32 → Prop
  | 0 => fun _ _ _ _ _ _ _ _ => False
  | n + 1 => b4_fitsPeriod_39 K (f4_fitsPeriod_39 K n)
def f4_fitsPeriod (K : Int32 → nw_ST → Prop) (σ : nw_ST) (a2 : Int32) (a3 : Int32) (a4 : Int32) : Prop := ((o2_part σ 1 a2 (0 : Int32)) ∧ ((o2_part σ 1 a2 (1 : Int32)) ∧ ((o2_part σ 1 a2 (2 : Int32)) ∧ (∃ n, f4_fitsPeriod_39 K n σ a3 a4 (v2_part σ 1 a2 (0 : Int32)) (v2_part σ 1 a2 (1 : Int32)) (v2_part σ 1 a2 (2 : Int32)) (0 : Int32) (0 : Int32)))))
def rm4_fitsPeriod : Room := { frames := 1, cells := 0, slots := 0, locals := 22 }
theorem yd4_fitsPeriod : yX4_fitsPeriod.cls = RX4 ∧ yX4_fitsPeriod.cls ≠ "java/lang/invoke/MethodHandle" ∧ yX4_fitsPeriod.cls ≠ "java/lang/invoke/VarHandle" ∧ (parseMethodDescriptor yX4_fitsPeriod.desc).map (fun d => d.parameters.length) = some 4 := by decide +kernel
set_option maxHeartbeats 4000000 in
set_option maxRecDepth 100000 in
theorem ct4_fitsPeriod (l : Launch) (P : nw_PT) (hD : nw_D P) (σ : nw_ST) (a2 : Int32) (a3 : Int32) (a4 : Int32)  (K : Int32 → nw_ST → Prop) (hf : f4_fitsPeriod K σ a2 a3 a4) : nw_MT l yX4_fitsPeriod cX4_fitsPeriod 12 (some .boolean) rm4_fitsPeriod P [.ref (P.2.1 0), .ref (P.2.1 19), .int a2, .int a3, .int a4] σ (nw_Ki K) := by
  refine nw_enter (by decide) (by first | decide | exact Nat.le_of_ble_eq_true rfl) hD ?_
  intro X hl h he hR
  subst hl
  have h : nw_ok P X cX4_fitsPeriod RX4 12 := h
  show nw_G P X 12 σ [(0, .ref (P.2.1 0)), (1, .ref (P.2.1 19)), (2, .int a2), (3, .int a3), (4, .int a4)] 0 []
  have hL_162 : ∀ (H_39 : nw_ST → Int32 → Int32 → Int32 → Int32 → Int32 → Int32 → Int32 → Prop) (hH_39 : (∀ (σ : nw_ST) (x3 : Int32) (x4 : Int32) (x5 : Int32) (x6 : Int32) (x7 : Int32) (x8 : Int32) (x9 : Int32), H_39 σ x3 x4 x5 x6 x7 x8 x9 → nw_G P X 12 σ [(0, .ref (P.2.1 0)), (1, .ref (P.2.1 19)), (3, .int x3), (4, .int x4), (5, .int x5), (6, .int x6), (7, .int x7), (8, .int x8), (9, .int x9)] 39 [])), ∀ (σ : nw_ST) (x3 : Int32) (x4 : Int32) (x5 : Int32) (x6 : Int32) (x7 : Int32) (x8 : Int32) (x9 : Int32), f4_fitsPeriod_162 K H_39 σ x3 x4 x5 x6 x7 x8 x9 → nw_G P X 12 σ [(0, .ref (P.2.1 0)), (1, .ref (P.2.1 19)), (3, .int x3), (4, .int x4), (5, .int x5), (6, .int x6), (7, .int x7), (8, .int x8), (9, .int x9)] 162 [] := by
    intro H_39 hH_39 σ x3 x4 x5 x6 x7 x8 x9 hf
    unfold f4_fitsPeriod_162 at hf
    refine nw_iinc (pc := 162) (v := (x9 + (1 : Int32))) (lv' := [(9, .int (x9 + (1 : Int32))), (0, .ref (P.2.1 0)), (1, .ref (P.2.1 19)), (3, .int x3), (4, .int x4), (5, .int x5), (6, .int x6), (7, .int x7), (8, .int x8)]) h dX4_fitsPeriod_162 (j := 8) rfl rfl (by decide) rfl ?_
    refine nw_goto (pc := 165) (tgt := 39) h dX4_fitsPeriod_165 (by decide) ?_
    refine nw_sub (lv' := [(0, .ref (P.2.1 0)), (1, .ref (P.2.1 19)), (3, .int x3), (4, .int x4), (5, .int x5), (6, .int x6), (7, .int x7), (8, .int x8), (9, .int (x9 + (1 : Int32)))]) [1, 2, 3, 4, 5, 6, 7, 8, 0] rfl ?_
    exact hH_39 _ _ _ _ _ _ _ _ (hf)
  have hL_137 : ∀ (H_39 : nw_ST → Int32 → Int32 → Int32 → Int32 → Int32 → Int32 → Int32 → Prop) (hH_39 : (∀ (σ : nw_ST) (x3 : Int32) (x4 : Int32) (x5 : Int32) (x6 : Int32) (x7 : Int32) (x8 : Int32) (x9 : Int32), H_39 σ x3 x4 x5 x6 x7 x8 x9 → nw_G P X 12 σ [(0, .ref (P.2.1 0)), (1, .ref (P.2.1 19)), (3, .int x3), (4, .int x4), (5, .int x5), (6, .int x6), (7, .int x7), (8, .int x8), (9, .int x9)] 39 [])), ∀ (σ : nw_ST) (x3 : Int32) (x4 : Int32) (x5 : Int32) (x6 : Int32) (x7 : Int32) (x8 : Int32) (x9 : Int32) (x11 : Int32), f4_fitsPeriod_137 K H_39 σ x3 x4 x5 x6 x7 x8 x9 x11 → nw_G P X 12 σ [(0, .ref (P.2.1 0)), (1, .ref (P.2.1 19)), (3, .int x3), (4, .int x4), (5, .int x5), (6, .int x6), (7, .int x7), (8, .int x8), (9, .int x9), (11, .int x11)] 137 [] := by
    intro H_39 hH_39 σ x3 x4 x5 x6 x7 x8 x9 x11 hf
    unfold f4_fitsPeriod_137 at hf
    refine nw_aload_n (pc := 137) h dX4_fitsPeriod_137 rfl 0 rfl ?_
    refine gf4_66 (pc := 138) (r := 35) h rfl rfl dX4_fitsPeriod_138 ?_
    refine nw_iload (pc := 141) h dX4_fitsPeriod_141 8 rfl ?_
    obtain ⟨h_143, hf⟩ := hf
    refine nw_iald (pc := 143) (n := 240) h rfl rfl h_143 dX4_fitsPeriod_143 ?_
    refine nw_iconst (pc := 144) (v := -1) h dX4_fitsPeriod_144 (by decide) ?_
    refine nw_icmp_eq (pc := 145) (tgt := 162) h dX4_fitsPeriod_145 (by decide) (fun c_145 => ?_) (fun c_145 => ?_)
    · have hf := hf.1 c_145
      refine nw_sub (lv' := [(0, .ref (P.2.1 0)), (1, .ref (P.2.1 19)), (3, .int x3), (4, .int x4), (5, .int x5), (6, .int x6), (7, .int x7), (8, .int x8), (9, .int x9)]) [0, 1, 2, 3, 4, 5, 6, 7, 8] rfl ?_
      exact hL_162 H_39 hH_39 _ _ _ _ _ _ _ _ (hf)
    · have hf := hf.2 c_145
      refine nw_aload_n (pc := 148) h dX4_fitsPeriod_148 rfl 0 rfl ?_
      refine gf4_66 (pc := 149) (r := 35) h rfl rfl dX4_fitsPeriod_149 ?_
      refine nw_iload (pc := 152) h dX4_fitsPeriod_152 8 rfl ?_
      obtain ⟨h_154, hf⟩ := hf
      refine nw_iald (pc := 154) (n := 240) h rfl rfl h_154 dX4_fitsPeriod_154 ?_
      refine nw_iload (pc := 155) h dX4_fitsPeriod_155 9 rfl ?_
      refine nw_icmp_eq (pc := 157) (tgt := 162) h dX4_fitsPeriod_157 (by decide) (fun c_157 => ?_) (fun c_157 => ?_)
      · have hf := hf.1 c_157
        refine nw_sub (lv' := [(0, .ref (P.2.1 0)), (1, .ref (P.2.1 19)), (3, .int x3), (4, .int x4), (5, .int x5), (6, .int x6), (7, .int x7), (8, .int x8), (9, .int x9)]) [0, 1, 2, 3, 4, 5, 6, 7, 8] rfl ?_
        exact hL_162 H_39 hH_39 _ _ _ _ _ _ _ _ (hf)
      · have hf := hf.2 c_157
        refine nw_iconst (pc := 160) (v := 0) h dX4_fitsPeriod_160 (by decide) ?_
        exact nw_zret (pc := 161) h he dX4_fitsPeriod_161 (Or.inl rfl) ⟨_, rfl, hf⟩
  have hL_97 : ∀ (H_39 : nw_ST → Int32 → Int32 → Int32 → Int32 → Int32 → Int32 → Int32 → Prop) (hH_39 : (∀ (σ : nw_ST) (x3 : Int32) (x4 : Int32) (x5 : Int32) (x6 : Int32) (x7 : Int32) (x8 : Int32) (x9 : Int32), H_39 σ x3 x4 x5 x6 x7 x8 x9 → nw_G P X 12 σ [(0, .ref (P.2.1 0)), (1, .ref (P.2.1 19)), (3, .int x3), (4, .int x4), (5, .int x5), (6, .int x6), (7, .int x7), (8, .int x8), (9, .int x9)] 39 [])), ∀ (σ : nw_ST) (x3 : Int32) (x4 : Int32) (x5 : Int32) (x6 : Int32) (x7 : Int32) (x8 : Int32) (x9 : Int32) (y0 : Int32) (y1 : Int32), f4_fitsPeriod_97 K H_39 σ x3 x4 x5 x6 x7 x8 x9 y0 y1 → nw_G P X 12 σ [(0, .ref (P.2.1 0)), (1, .ref (P.2.1 19)), (3, .int x3), (4, .int x4), (5, .int x5), (6, .int x6), (7, .int x7), (8, .int x8), (9, .int x9)] 97 [.int y0, .int y1] := by
    intro H_39 hH_39 σ x3 x4 x5 x6 x7 x8 x9 y0 y1 hf
    unfold f4_fitsPeriod_97 at hf
    refine nw_iadd (pc := 97) h dX4_fitsPeriod_97 ?_
    refine nw_istore (pc := 98) (lv' := [(10, .int (y1 + y0)), (0, .ref (P.2.1 0)), (1, .ref (P.2.1 19)), (3, .int x3), (4, .int x4), (5, .int x5), (6, .int x6), (7, .int x7), (8, .int x8), (9, .int x9)]) h dX4_fitsPeriod_98 (by decide) rfl ?_
    refine nw_iconst (pc := 100) (v := 0) h dX4_fitsPeriod_100 (by decide) ?_
    refine nw_istore (pc := 101) (lv' := [(11, .int (0 : Int32)), (10, .int (y1 + y0)), (0, .ref (P.2.1 0)), (1, .ref (P.2.1 19)), (3, .int x3), (4, .int x4), (5, .int x5), (6, .int x6), (7, .int x7), (8, .int x8), (9, .int x9)]) h dX4_fitsPeriod_101 (by decide) rfl ?_
    refine nw_iload (pc := 103) h dX4_fitsPeriod_103 1 rfl ?_
    refine nw_aload_n (pc := 105) h dX4_fitsPeriod_105 rfl 2 rfl ?_
    refine gf4_73 (pc := 106) h rfl dX4_fitsPeriod_106 ?_
    refine klX4_147 (pc := 109) h (by rw [hR]; decide) (Nat.le_of_ble_eq_true rfl) dX4_fitsPeriod_109 ?_
    obtain ⟨ho, hf⟩ := hf
    refine nw_if_eq (pc := 112) (tgt := 137) h dX4_fitsPeriod_112 (by decide) (fun c_112 => ?_) (fun c_112 => ?_)
    · skip
      have ho := ho.1 c_112
      simp only [if_pos c_112] at hf
      refine nw_sub (lv' := [(0, .ref (P.2.1 0)), (1, .ref (P.2.1 19)), (3, .int x3), (4, .int x4), (5, .int x5), (6, .int x6), (7, .int x7), (8, .int x8), (9, .int x9), (11, .int (0 : Int32))]) [2, 3, 4, 5, 6, 7, 8, 9, 10, 0] rfl ?_
      exact hL_137 H_39 hH_39 _ _ _ _ _ _ _ _ _ hf
    · skip
      have ho := ho.2 c_112
      refine nw_aload_n (pc := 115) h dX4_fitsPeriod_115 rfl 3 rfl ?_
      refine gf4_386 (pc := 116) (r := 22) h rfl rfl dX4_fitsPeriod_116 ?_
      refine nw_iload (pc := 119) h dX4_fitsPeriod_119 10 rfl ?_
      obtain ⟨h_121, ho⟩ := ho
      refine nw_zald (pc := 121) (n := 240) h rfl rfl h_121 dX4_fitsPeriod_121 ?_
      refine nw_if_ne (pc := 122) (tgt := 137) h dX4_fitsPeriod_122 (by decide) (fun c_122 => ?_) (fun c_122 => ?_)
      · skip
        have ho := ho.2 c_122
        simp only [if_neg c_112, if_neg c_122] at hf
        refine nw_sub (lv' := [(0, .ref (P.2.1 0)), (1, .ref (P.2.1 19)), (3, .int x3), (4, .int x4), (5, .int x5), (6, .int x6), (7, .int x7), (8, .int x8), (9, .int x9), (11, .int (0 : Int32))]) [2, 3, 4, 5, 6, 7, 8, 9, 10, 0] rfl ?_
        exact hL_137 H_39 hH_39 _ _ _ _ _ _ _ _ _ hf
      · skip
        have ho := ho.1 c_122
        refine nw_iinc (pc := 125) (v := (x8 + (1 : Int32))) (lv' := [(8, .int (x8 + (1 : Int32))), (11, .int (0 : Int32)), (10, .int (y1 + y0)), (0, .ref (P.2.1 0)), (1, .ref (P.2.1 19)), (3, .int x3), (4, .int x4), (5, .int x5), (6, .int x6), (7, .int x7), (9, .int x9)]) h dX4_fitsPeriod_125 (j := 9) rfl rfl (by decide) rfl ?_
        refine nw_aload_n (pc := 128) h dX4_fitsPeriod_128 rfl 4 rfl ?_
        refine gf4_380 (pc := 129) (r := 24) h rfl rfl dX4_fitsPeriod_129 ?_
        refine nw_iload (pc := 132) h dX4_fitsPeriod_132 0 rfl ?_
        have h_134 := ho
        refine nw_iald (pc := 134) (n := 241) h rfl rfl h_134 dX4_fitsPeriod_134 ?_
        refine nw_istore (pc := 135) (lv' := [(11, .int (nw_gA σ 24 (x8 + (1 : Int32)).toNatClampNeg)), (8, .int (x8 + (1 : Int32))), (10, .int (y1 + y0)), (0, .ref (P.2.1 0)), (1, .ref (P.2.1 19)), (3, .int x3), (4, .int x4), (5, .int x5), (6, .int x6), (7, .int x7), (9, .int x9)]) h dX4_fitsPeriod_135 (by decide) rfl ?_
        simp only [if_neg c_112, if_pos c_122] at hf
        refine nw_sub (lv' := [(0, .ref (P.2.1 0)), (1, .ref (P.2.1 19)), (3, .int x3), (4, .int x4), (5, .int x5), (6, .int x6), (7, .int x7), (8, .int (x8 + (1 : Int32))), (9, .int x9), (11, .int (nw_gA σ 24 (x8 + (1 : Int32)).toNatClampNeg))]) [3, 4, 5, 6, 7, 8, 9, 1, 10, 0] rfl ?_
        exact hL_137 H_39 hH_39 _ _ _ _ _ _ _ _ _ hf
  have hL_75 : ∀ (H_39 : nw_ST → Int32 → Int32 → Int32 → Int32 → Int32 → Int32 → Int32 → Prop) (hH_39 : (∀ (σ : nw_ST) (x3 : Int32) (x4 : Int32) (x5 : Int32) (x6 : Int32) (x7 : Int32) (x8 : Int32) (x9 : Int32), H_39 σ x3 x4 x5 x6 x7 x8 x9 → nw_G P X 12 σ [(0, .ref (P.2.1 0)), (1, .ref (P.2.1 19)), (3, .int x3), (4, .int x4), (5, .int x5), (6, .int x6), (7, .int x7), (8, .int x8), (9, .int x9)] 39 [])), ∀ (σ : nw_ST) (x3 : Int32) (x4 : Int32) (x5 : Int32) (x6 : Int32) (x7 : Int32) (x8 : Int32) (x9 : Int32) (y0 : Int32) (y1 : Int32), f4_fitsPeriod_75 K H_39 σ x3 x4 x5 x6 x7 x8 x9 y0 y1 → nw_G P X 12 σ [(0, .ref (P.2.1 0)), (1, .ref (P.2.1 19)), (3, .int x3), (4, .int x4), (5, .int x5), (6, .int x6), (7, .int x7), (8, .int x8), (9, .int x9)] 75 [.int y0, .int y1] := by
    intro H_39 hH_39 σ x3 x4 x5 x6 x7 x8 x9 y0 y1 hf
    unfold f4_fitsPeriod_75 at hf
    refine nw_isub (pc := 75) h dX4_fitsPeriod_75 ?_
    refine nw_istore (pc := 76) (lv' := [(10, .int (y1 - y0)), (0, .ref (P.2.1 0)), (1, .ref (P.2.1 19)), (3, .int x3), (4, .int x4), (5, .int x5), (6, .int x6), (7, .int x7), (8, .int x8), (9, .int x9)]) h dX4_fitsPeriod_76 (by decide) rfl ?_
    refine nw_iload (pc := 78) h dX4_fitsPeriod_78 0 rfl ?_
    refine nw_iload (pc := 80) h dX4_fitsPeriod_80 9 rfl ?_
    refine nw_iload (pc := 82) h dX4_fitsPeriod_82 7 rfl ?_
    refine nw_iload_n (pc := 84) h dX4_fitsPeriod_84 rfl 3 rfl ?_
    obtain ⟨h_85, hf⟩ := hf
    refine klX4_193 (pc := 85) h (by rw [hR]; decide) h_85 (Nat.le_of_ble_eq_true rfl) dX4_fitsPeriod_85 ?_
    refine nw_if_eq (pc := 88) (tgt := 96) h dX4_fitsPeriod_88 (by decide) (fun c_88 => ?_) (fun c_88 => ?_)
    · skip
      refine nw_iconst (pc := 96) (v := 0) h dX4_fitsPeriod_96 (by decide) ?_
      simp only [if_pos c_88] at hf
      refine nw_sub (lv' := [(0, .ref (P.2.1 0)), (1, .ref (P.2.1 19)), (3, .int x3), (4, .int x4), (5, .int x5), (6, .int x6), (7, .int x7), (8, .int x8), (9, .int x9)]) [1, 2, 3, 4, 5, 6, 7, 8, 9] rfl ?_
      exact hL_97 H_39 hH_39 _ _ _ _ _ _ _ _ _ _ hf
    · skip
      refine nw_iload (pc := 91) h dX4_fitsPeriod_91 5 rfl ?_
      refine nw_goto (pc := 93) (tgt := 97) h dX4_fitsPeriod_93 (by decide) ?_
      simp only [if_neg c_88] at hf
      refine nw_sub (lv' := [(0, .ref (P.2.1 0)), (1, .ref (P.2.1 19)), (3, .int x3), (4, .int x4), (5, .int x5), (6, .int x6), (7, .int x7), (8, .int x8), (9, .int x9)]) [1, 2, 3, 4, 5, 6, 7, 8, 9] rfl ?_
      exact hL_97 H_39 hH_39 _ _ _ _ _ _ _ _ _ _ hf
  have hB_39 : ∀ (H_39 : nw_ST → Int32 → Int32 → Int32 → Int32 → Int32 → Int32 → Int32 → Prop) (hH_39 : (∀ (σ : nw_ST) (x3 : Int32) (x4 : Int32) (x5 : Int32) (x6 : Int32) (x7 : Int32) (x8 : Int32) (x9 : Int32), H_39 σ x3 x4 x5 x6 x7 x8 x9 → nw_G P X 12 σ [(0, .ref (P.2.1 0)), (1, .ref (P.2.1 19)), (3, .int x3), (4, .int x4), (5, .int x5), (6, .int x6), (7, .int x7), (8, .int x8), (9, .int x9)] 39 [])), ∀ (σ : nw_ST) (x3 : Int32) (x4 : Int32) (x5 : Int32) (x6 : Int32) (x7 : Int32) (x8 : Int32) (x9 : Int32), b4_fitsPeriod_39 K H_39 σ x3 x4 x5 x6 x7 x8 x9 → nw_G P X 12 σ [(0, .ref (P.2.1 0)), (1, .ref (P.2.1 19)), (3, .int x3), (4, .int x4), (5, .int x5), (6, .int x6), (7, .int x7), (8, .int x8), (9, .int x9)] 39 [] := by
    intro H_39 hH_39 σ x3 x4 x5 x6 x7 x8 x9 hf
    unfold b4_fitsPeriod_39 at hf
    refine nw_iload (pc := 39) h dX4_fitsPeriod_39 8 rfl ?_
    refine nw_iload (pc := 41) h dX4_fitsPeriod_41 3 rfl ?_
    refine nw_icmp_ge (pc := 43) (tgt := 168) h dX4_fitsPeriod_43 (by decide) (fun c_43 => ?_) (fun c_43 => ?_)
    · have hf := hf.1 c_43
      refine nw_iconst (pc := 168) (v := 1) h dX4_fitsPeriod_168 (by decide) ?_
      exact nw_zret (pc := 169) h he dX4_fitsPeriod_169 (Or.inr rfl) ⟨_, rfl, hf⟩
    · have hf := hf.2 c_43
      refine nw_aload_n (pc := 46) h dX4_fitsPeriod_46 rfl 1 rfl ?_
      refine gf4_144 (pc := 47) (r := 20) h rfl rfl dX4_fitsPeriod_47 ?_
      refine nw_iload (pc := 50) h dX4_fitsPeriod_50 8 rfl ?_
      obtain ⟨h_52, hf⟩ := hf
      refine nw_iald (pc := 52) (n := 240) h rfl rfl h_52 dX4_fitsPeriod_52 ?_
      refine nw_istore (pc := 53) (lv' := [(10, .int (nw_gA σ 20 x9.toNatClampNeg)), (0, .ref (P.2.1 0)), (1, .ref (P.2.1 19)), (3, .int x3), (4, .int x4), (5, .int x5), (6, .int x6), (7, .int x7), (8, .int x8), (9, .int x9)]) h dX4_fitsPeriod_53 (by decide) rfl ?_
      refine nw_iload (pc := 55) h dX4_fitsPeriod_55 0 rfl ?_
      refine nw_iload (pc := 57) h dX4_fitsPeriod_57 9 rfl ?_
      refine nw_iload (pc := 59) h dX4_fitsPeriod_59 7 rfl ?_
      refine nw_iload (pc := 61) h dX4_fitsPeriod_61 6 rfl ?_
      obtain ⟨h_63, hf⟩ := hf
      refine klX4_193 (pc := 63) h (by rw [hR]; decide) h_63 (Nat.le_of_ble_eq_true rfl) dX4_fitsPeriod_63 ?_
      refine nw_if_eq (pc := 66) (tgt := 74) h dX4_fitsPeriod_66 (by decide) (fun c_66 => ?_) (fun c_66 => ?_)
      · skip
        refine nw_iconst (pc := 74) (v := 0) h dX4_fitsPeriod_74 (by decide) ?_
        simp only [if_pos c_66] at hf
        refine nw_sub (lv' := [(0, .ref (P.2.1 0)), (1, .ref (P.2.1 19)), (3, .int x3), (4, .int x4), (5, .int x5), (6, .int x6), (7, .int x7), (8, .int x8), (9, .int x9)]) [1, 2, 3, 4, 5, 6, 7, 8, 9] rfl ?_
        exact hL_75 H_39 hH_39 _ _ _ _ _ _ _ _ _ _ hf
      · skip
        refine nw_iload (pc := 69) h dX4_fitsPeriod_69 5 rfl ?_
        refine nw_goto (pc := 71) (tgt := 75) h dX4_fitsPeriod_71 (by decide) ?_
        simp only [if_neg c_66] at hf
        refine nw_sub (lv' := [(0, .ref (P.2.1 0)), (1, .ref (P.2.1 19)), (3, .int x3), (4, .int x4), (5, .int x5), (6, .int x6), (7, .int x7), (8, .int x8), (9, .int x9)]) [1, 2, 3, 4, 5, 6, 7, 8, 9] rfl ?_
        exact hL_75 H_39 hH_39 _ _ _ _ _ _ _ _ _ _ hf
  have hL_39 :  ∀ (n : Nat) (σ : nw_ST) (x3 : Int32) (x4 : Int32) (x5 : Int32) (x6 : Int32) (x7 : Int32) (x8 : Int32) (x9 : Int32), f4_fitsPeriod_39 K n σ x3 x4 x5 x6 x7 x8 x9 → nw_G P X 12 σ [(0, .ref (P.2.1 0)), (1, .ref (P.2.1 19)), (3, .int x3), (4, .int x4), (5, .int x5), (6, .int x6), (7, .int x7), (8, .int x8), (9, .int x9)] 39 [] := by
    intro n
    induction n with
    | zero => intro σ x3 x4 x5 x6 x7 x8 x9 hf; exact False.elim hf
    | succ n ih => exact hB_39 _ ih
  unfold f4_fitsPeriod at hf
  refine nw_aload_n (pc := 0) h dX4_fitsPeriod_0 rfl 0 rfl ?_
  refine gf4_21 (pc := 1) (r := 1) h rfl rfl dX4_fitsPeriod_1 ?_
  refine nw_iload_n (pc := 4) h dX4_fitsPeriod_4 rfl 2 rfl ?_
  refine nw_iconst (pc := 5) (v := 0) h dX4_fitsPeriod_5 (by decide) ?_
  obtain ⟨h_6, hf⟩ := hf
  refine klX4_181 (pc := 6) h (by rw [hR]; decide) rfl h_6 (Nat.le_of_ble_eq_true rfl) dX4_fitsPeriod_6 ?_
  refine nw_istore (pc := 9) (lv' := [(5, .int (v2_part σ 1 a2 (0 : Int32))), (0, .ref (P.2.1 0)), (1, .ref (P.2.1 19)), (2, .int a2), (3, .int a3), (4, .int a4)]) h dX4_fitsPeriod_9 (by decide) rfl ?_
  refine nw_aload_n (pc := 11) h dX4_fitsPeriod_11 rfl 1 rfl ?_
  refine gf4_21 (pc := 12) (r := 1) h rfl rfl dX4_fitsPeriod_12 ?_
  refine nw_iload_n (pc := 15) h dX4_fitsPeriod_15 rfl 3 rfl ?_
  refine nw_iconst (pc := 16) (v := 1) h dX4_fitsPeriod_16 (by decide) ?_
  obtain ⟨h_17, hf⟩ := hf
  refine klX4_181 (pc := 17) h (by rw [hR]; decide) rfl h_17 (Nat.le_of_ble_eq_true rfl) dX4_fitsPeriod_17 ?_
  refine nw_istore (pc := 20) (lv' := [(6, .int (v2_part σ 1 a2 (1 : Int32))), (5, .int (v2_part σ 1 a2 (0 : Int32))), (0, .ref (P.2.1 0)), (1, .ref (P.2.1 19)), (2, .int a2), (3, .int a3), (4, .int a4)]) h dX4_fitsPeriod_20 (by decide) rfl ?_
  refine nw_aload_n (pc := 22) h dX4_fitsPeriod_22 rfl 2 rfl ?_
  refine gf4_21 (pc := 23) (r := 1) h rfl rfl dX4_fitsPeriod_23 ?_
  refine nw_iload_n (pc := 26) h dX4_fitsPeriod_26 rfl 4 rfl ?_
  refine nw_iconst (pc := 27) (v := 2) h dX4_fitsPeriod_27 (by decide) ?_
  obtain ⟨h_28, hf⟩ := hf
  refine klX4_181 (pc := 28) h (by rw [hR]; decide) rfl h_28 (Nat.le_of_ble_eq_true rfl) dX4_fitsPeriod_28 ?_
  refine nw_istore (pc := 31) (lv' := [(7, .int (v2_part σ 1 a2 (2 : Int32))), (6, .int (v2_part σ 1 a2 (1 : Int32))), (5, .int (v2_part σ 1 a2 (0 : Int32))), (0, .ref (P.2.1 0)), (1, .ref (P.2.1 19)), (2, .int a2), (3, .int a3), (4, .int a4)]) h dX4_fitsPeriod_31 (by decide) rfl ?_
  refine nw_iconst (pc := 33) (v := 0) h dX4_fitsPeriod_33 (by decide) ?_
  refine nw_istore (pc := 34) (lv' := [(8, .int (0 : Int32)), (7, .int (v2_part σ 1 a2 (2 : Int32))), (6, .int (v2_part σ 1 a2 (1 : Int32))), (5, .int (v2_part σ 1 a2 (0 : Int32))), (0, .ref (P.2.1 0)), (1, .ref (P.2.1 19)), (2, .int a2), (3, .int a3), (4, .int a4)]) h dX4_fitsPeriod_34 (by decide) rfl ?_
  refine nw_iconst (pc := 36) (v := 0) h dX4_fitsPeriod_36 (by decide) ?_
  refine nw_istore (pc := 37) (lv' := [(9, .int (0 : Int32)), (8, .int (0 : Int32)), (7, .int (v2_part σ 1 a2 (2 : Int32))), (6, .int (v2_part σ 1 a2 (1 : Int32))), (5, .int (v2_part σ 1 a2 (0 : Int32))), (0, .ref (P.2.1 0)), (1, .ref (P.2.1 19)), (2, .int a2), (3, .int a3), (4, .int a4)]) h dX4_fitsPeriod_37 (by decide) rfl ?_
  obtain ⟨n_39, hf⟩ := hf
  refine nw_sub (lv' := [(0, .ref (P.2.1 0)), (1, .ref (P.2.1 19)), (3, .int a3), (4, .int a4), (5, .int (v2_part σ 1 a2 (0 : Int32))), (6, .int (v2_part σ 1 a2 (1 : Int32))), (7, .int (v2_part σ 1 a2 (2 : Int32))), (8, .int (0 : Int32)), (9, .int (0 : Int32))]) [5, 6, 8, 9, 4, 3, 2, 1, 0] rfl ?_
  exact hL_39 n_39 _ _ _ _ _ _ _ _ hf
theorem klX4_221 {P : nw_PT} {X : nw_EX} {cc : ByteArray} {nL : Nat} {σ : nw_ST} {lv : List (Nat × Value)} {pc : Nat} {rest : List Value}  (h : nw_ok P X cc RX4 nL) (hR : rm4_markDueNumbers.frames + 1 ≤ X.2.2.2.1.frames ∧ 8 + (5 + 11) + rm4_markDueNumbers.locals ≤ X.2.2.2.1.locals)  {K : Int32 → nw_ST → Prop} (hf : f4_markDueNumbers K σ) (hst : (rest.map fun v => v.category).sum ≤ 8) (hd : decode cc pc = .ok (.invokevirtual 221, 3)) (k : ∀ (r : Int32) (s2 : nw_ST), K r s2 → nw_G P X nL s2 lv (pc + 3) (.int r :: rest)) : nw_G P X nL σ lv pc (.ref (P.2.1 0) :: rest) :=
  nw_callV (As := []) (rest := rest) (C := RX4) (ci := 4) h (ct4_markDueNumbers _ P h.2.2 σ  K hf) (nw_goodV nw_w179 nw_w180 nw_w181 nw_w24 nw_w182) yd4_markDueNumbers rfl hR ⟨rfl, rfl⟩ rfl (by decide) rfl rfl hst rfl hd (fun v s2 z => by obtain ⟨r, rfl, z⟩ := z; exact k r s2 z)
theorem klX4_224 {P : nw_PT} {X : nw_EX} {cc : ByteArray} {nL : Nat} {σ : nw_ST} {lv : List (Nat × Value)} {pc : Nat} {rest : List Value} {a2 : Int32} {a3 : Int32} {a4 : Int32} (h : nw_ok P X cc RX4 nL) (hR : rm4_fitsPeriod.frames + 1 ≤ X.2.2.2.1.frames ∧ 8 + (12 + 11) + rm4_fitsPeriod.locals ≤ X.2.2.2.1.locals)  {K : Int32 → nw_ST → Prop} (hf : f4_fitsPeriod K σ a2 a3 a4) (hst : (rest.map fun v => v.category).sum ≤ 8) (hd : decode cc pc = .ok (.invokevirtual 224, 3)) (k : ∀ (r : Int32) (s2 : nw_ST), K r s2 → nw_G P X nL s2 lv (pc + 3) (.int r :: rest)) : nw_G P X nL σ lv pc (.int a4 :: .int a3 :: .int a2 :: .ref (P.2.1 19) :: .ref (P.2.1 0) :: rest) :=
  nw_callV (As := [.ref (P.2.1 19), .int a2, .int a3, .int a4]) (rest := rest) (C := RX4) (ci := 4) h (ct4_fitsPeriod _ P h.2.2 σ a2 a3 a4 K hf) (nw_goodV nw_w183 nw_w184 nw_w185 nw_w24 nw_w186) yd4_fitsPeriod rfl hR ⟨rfl, rfl⟩ rfl (by decide) rfl rfl hst rfl hd (fun v s2 z => by obtain ⟨r, rfl, z⟩ := z; exact k r s2 z)
def f4_often_24 (K : Int32 → nw_ST → Prop) (σ : nw_ST) : Prop := (K (-2 : Int32) σ)
def f4_often_93 (K : Int32 → nw_ST → Prop) (σ : nw_ST) (y0 : Int32) : Prop := (K y0 σ)
def f4_often_76 (K : Int32 → nw_ST → Prop) (H_44 : nw_ST → Int32 → Int32 → Int32 → Int32 → Int32 → Prop) (σ : nw_ST) (x1 : Int32) (x2 : Int32) (x4 : Int32) (x5 : Int32) (x6 : Int32) : Prop := (H_44 σ x1 x2 x4 x5 (x6 + (1 : Int32)))
def b4_often_44 (K : Int32 → nw_ST → Prop) (H_44 : nw_ST → Int32 → Int32 → Int32 → Int32 → Int32 → Prop) (σ : nw_ST) (x1 : Int32) (x2 : Int32) (x4 : Int32) (x5 : Int32) (x6 : Int32) : Prop := ((((99 : Int32) < x6) → (f4_often_93 K σ (if (x2 = (-1 : Int32)) then x5 else (-1 : Int32)))) ∧ (¬ ((99 : Int32) < x6) → (f4_fitsPeriod (fun (r_58 : Int32) (s_58 : nw_ST) => (((r_58 = 0) → (f4_often_76 K H_44 s_58 x1 x2 x4 x5 x6)) ∧ (¬ (r_58 = 0) → (((x5 = x2) → (K x6 s_58)) ∧ (¬ (x5 = x2) → (f4_often_76 K H_44 s_58 x1 x2 x4 (x5 + (1 : Int32)) x6)))))) σ x1 x6 x4)))
def f4_often_44 (K : Int32 → nw_ST → Prop) : Nat → nw_ST → Int32 → Int32 → Int32 → Int32 → Int32 → Prop
  | 0 => fun _ _ _ _ _ _ => False
  | n + 1 => b4_often_44 K (f4_often_44 K n)
def f4_often (K : Int32 → nw_ST → Prop) (σ : nw_ST) (a1 : Int32) (a2 : Int32) : Prop := ((((v4_isBelow a1 (nw_gS σ 1 6)) = 0) → (f4_often_24 K σ)) ∧ (¬ ((v4_isBelow a1 (nw_gS σ 1 6)) = 0) → ((((v4_isFrom a2 (-1 : Int32) (97 : Int32)) = 0) → (f4_often_24 K σ)) ∧ (¬ ((v4_isFrom a2 (-1 : Int32) (97 : Int32)) = 0) → (f4_waves (fun (r_28 : Nat) (s_28 : nw_ST) => (f4_markDueNumbers (fun (r_33 : Int32) (s_33 : nw_ST) => (∃ n, f4_often_44 K n s_33 a1 a2 r_33 (0 : Int32) (2 : Int32))) s_28)) σ)))))
def rm4_often : Room := { frames := 4, cells := 0, slots := 0, locals := 91 }
theorem yd4_often : yX4_often.cls = RX4 ∧ yX4_often.cls ≠ "java/lang/invoke/MethodHandle" ∧ yX4_often.cls ≠ "java/lang/invoke/VarHandle" ∧ (parseMethodDescriptor yX4_often.desc).map (fun d => d.parameters.length) = some 2 := by decide +kernel
set_option maxHeartbeats 4000000 in
set_option maxRecDepth 100000 in
theorem ct4_often (l : Launch) (P : nw_PT) (hD : nw_D P) (σ : nw_ST) (a1 : Int32) (a2 : Int32)  (K : Int32 → nw_ST → Prop) (hf : f4_often K σ a1 a2) : nw_MT l yX4_often cX4_often 7 (some .int) rm4_often P [.ref (P.2.1 0), .int a1, .int a2] σ (nw_Ki K) := by
  refine nw_enter (by decide) (by first | decide | exact Nat.le_of_ble_eq_true rfl) hD ?_
  intro X hl h he hR
  subst hl
  have h : nw_ok P X cX4_often RX4 7 := h
  show nw_G P X 7 σ [(0, .ref (P.2.1 0)), (1, .int a1), (2, .int a2)] 0 []
  have hL_24 :  ∀ (σ : nw_ST), f4_often_24 K σ → nw_G P X 7 σ [] 24 [] := by
    intro σ hf
    unfold f4_often_24 at hf
    refine nw_bipush (pc := 24) (v := -2) h dX4_often_24 (by decide) ?_
    exact nw_iret (pc := 26) h he dX4_often_26 ⟨_, rfl, hf⟩
  have hL_93 :  ∀ (σ : nw_ST) (y0 : Int32), f4_often_93 K σ y0 → nw_G P X 7 σ [] 93 [.int y0] := by
    intro σ y0 hf
    unfold f4_often_93 at hf
    exact nw_iret (pc := 93) h he dX4_often_93 ⟨_, rfl, hf⟩
  have hL_76 : ∀ (H_44 : nw_ST → Int32 → Int32 → Int32 → Int32 → Int32 → Prop) (hH_44 : (∀ (σ : nw_ST) (x1 : Int32) (x2 : Int32) (x4 : Int32) (x5 : Int32) (x6 : Int32), H_44 σ x1 x2 x4 x5 x6 → nw_G P X 7 σ [(0, .ref (P.2.1 0)), (1, .int x1), (2, .int x2), (3, .ref (P.2.1 19)), (4, .int x4), (5, .int x5), (6, .int x6)] 44 [])), ∀ (σ : nw_ST) (x1 : Int32) (x2 : Int32) (x4 : Int32) (x5 : Int32) (x6 : Int32), f4_often_76 K H_44 σ x1 x2 x4 x5 x6 → nw_G P X 7 σ [(0, .ref (P.2.1 0)), (1, .int x1), (2, .int x2), (3, .ref (P.2.1 19)), (4, .int x4), (5, .int x5), (6, .int x6)] 76 [] := by
    intro H_44 hH_44 σ x1 x2 x4 x5 x6 hf
    unfold f4_often_76 at hf
    refine nw_iinc (pc := 76) (v := (x6 + (1 : Int32))) (lv' := [(6, .int (x6 + (1 : Int32))), (0, .ref (P.2.1 0)), (1, .int x1), (2, .int x2), (3, .ref (P.2.1 19)), (4, .int x4), (5, .int x5)]) h dX4_often_76 (j := 6) rfl rfl (by decide) rfl ?_
    refine nw_goto (pc := 79) (tgt := 44) h dX4_often_79 (by decide) ?_
    refine nw_sub (lv' := [(0, .ref (P.2.1 0)), (1, .int x1), (2, .int x2), (3, .ref (P.2.1 19)), (4, .int x4), (5, .int x5), (6, .int (x6 + (1 : Int32)))]) [1, 2, 3, 4, 5, 6, 0] rfl ?_
    exact hH_44 _ _ _ _ _ _ (hf)
  have hB_44 : ∀ (H_44 : nw_ST → Int32 → Int32 → Int32 → Int32 → Int32 → Prop) (hH_44 : (∀ (σ : nw_ST) (x1 : Int32) (x2 : Int32) (x4 : Int32) (x5 : Int32) (x6 : Int32), H_44 σ x1 x2 x4 x5 x6 → nw_G P X 7 σ [(0, .ref (P.2.1 0)), (1, .int x1), (2, .int x2), (3, .ref (P.2.1 19)), (4, .int x4), (5, .int x5), (6, .int x6)] 44 [])), ∀ (σ : nw_ST) (x1 : Int32) (x2 : Int32) (x4 : Int32) (x5 : Int32) (x6 : Int32), b4_often_44 K H_44 σ x1 x2 x4 x5 x6 → nw_G P X 7 σ [(0, .ref (P.2.1 0)), (1, .int x1), (2, .int x2), (3, .ref (P.2.1 19)), (4, .int x4), (5, .int x5), (6, .int x6)] 44 [] := by
    intro H_44 hH_44 σ x1 x2 x4 x5 x6 hf
    unfold b4_often_44 at hf
    refine nw_iload (pc := 44) h dX4_often_44 6 rfl ?_
    refine nw_bipush (pc := 46) (v := 99) h dX4_often_46 (by decide) ?_
    refine nw_icmp_gt (pc := 48) (tgt := 82) h dX4_often_48 (by decide) (fun c_48 => ?_) (fun c_48 => ?_)
    · have hf := hf.1 c_48
      refine nw_iload_n (pc := 82) h dX4_often_82 rfl 2 rfl ?_
      refine nw_iconst (pc := 83) (v := -1) h dX4_often_83 (by decide) ?_
      refine nw_icmp_ne (pc := 84) (tgt := 92) h dX4_often_84 (by decide) (fun c_84 => ?_) (fun c_84 => ?_)
      · skip
        refine nw_iconst (pc := 92) (v := -1) h dX4_often_92 (by decide) ?_
        simp only [if_neg c_84] at hf
        refine nw_sub (lv' := []) [] rfl ?_
        exact hL_93 _ _ hf
      · skip
        refine nw_iload (pc := 87) h dX4_often_87 5 rfl ?_
        refine nw_goto (pc := 89) (tgt := 93) h dX4_often_89 (by decide) ?_
        simp only [if_pos c_84] at hf
        refine nw_sub (lv' := []) [] rfl ?_
        exact hL_93 _ _ hf
    · have hf := hf.2 c_48
      refine nw_aload_n (pc := 51) h dX4_often_51 rfl 0 rfl ?_
      refine nw_aload_n (pc := 52) h dX4_often_52 rfl 3 rfl ?_
      refine nw_iload_n (pc := 53) h dX4_often_53 rfl 1 rfl ?_
      refine nw_iload (pc := 54) h dX4_often_54 6 rfl ?_
      refine nw_iload (pc := 56) h dX4_often_56 4 rfl ?_
      refine klX4_224 (pc := 58) h (by rw [hR]; decide) hf (Nat.le_of_ble_eq_true rfl) dX4_often_58 (fun r_58 s_58 hf => ?_)
      refine nw_if_eq (pc := 61) (tgt := 76) h dX4_often_61 (by decide) (fun c_61 => ?_) (fun c_61 => ?_)
      · have hf := hf.1 c_61
        exact hL_76 H_44 hH_44 _ _ _ _ _ _ (hf)
      · have hf := hf.2 c_61
        refine nw_iload (pc := 64) h dX4_often_64 5 rfl ?_
        refine nw_iload_n (pc := 66) h dX4_often_66 rfl 2 rfl ?_
        refine nw_icmp_ne (pc := 67) (tgt := 73) h dX4_often_67 (by decide) (fun c_67 => ?_) (fun c_67 => ?_)
        · have hf := hf.2 c_67
          refine nw_iinc (pc := 73) (v := (x5 + (1 : Int32))) (lv' := [(5, .int (x5 + (1 : Int32))), (0, .ref (P.2.1 0)), (1, .int x1), (2, .int x2), (3, .ref (P.2.1 19)), (4, .int x4), (6, .int x6)]) h dX4_often_73 (j := 5) rfl rfl (by decide) rfl ?_
          refine nw_sub (lv' := [(0, .ref (P.2.1 0)), (1, .int x1), (2, .int x2), (3, .ref (P.2.1 19)), (4, .int x4), (5, .int (x5 + (1 : Int32))), (6, .int x6)]) [1, 2, 3, 4, 5, 0, 6] rfl ?_
          exact hL_76 H_44 hH_44 _ _ _ _ _ _ (hf)
        · have hf := hf.1 c_67
          refine nw_iload (pc := 70) h dX4_often_70 6 rfl ?_
          exact nw_iret (pc := 72) h he dX4_often_72 ⟨_, rfl, hf⟩
  have hL_44 :  ∀ (n : Nat) (σ : nw_ST) (x1 : Int32) (x2 : Int32) (x4 : Int32) (x5 : Int32) (x6 : Int32), f4_often_44 K n σ x1 x2 x4 x5 x6 → nw_G P X 7 σ [(0, .ref (P.2.1 0)), (1, .int x1), (2, .int x2), (3, .ref (P.2.1 19)), (4, .int x4), (5, .int x5), (6, .int x6)] 44 [] := by
    intro n
    induction n with
    | zero => intro σ x1 x2 x4 x5 x6 hf; exact False.elim hf
    | succ n ih => exact hB_44 _ ih
  unfold f4_often at hf
  refine nw_iload_n (pc := 0) h dX4_often_0 rfl 1 rfl ?_
  refine nw_aload_n (pc := 1) h dX4_often_1 rfl 0 rfl ?_
  refine gf4_21 (pc := 2) (r := 1) h rfl rfl dX4_often_2 ?_
  refine gf4_178 (pc := 5) h rfl dX4_often_5 ?_
  refine klX4_84 (pc := 8) h (by rw [hR]; decide) (Nat.le_of_ble_eq_true rfl) dX4_often_8 ?_
  refine nw_if_eq (pc := 11) (tgt := 24) h dX4_often_11 (by decide) (fun c_11 => ?_) (fun c_11 => ?_)
  · have hf := hf.1 c_11
    refine nw_sub (lv' := []) [] rfl ?_
    exact hL_24 _ (hf)
  · have hf := hf.2 c_11
    refine nw_iload_n (pc := 14) h dX4_often_14 rfl 2 rfl ?_
    refine nw_iconst (pc := 15) (v := -1) h dX4_often_15 (by decide) ?_
    refine nw_bipush (pc := 16) (v := 97) h dX4_often_16 (by decide) ?_
    refine klX4_109 (pc := 18) h (by rw [hR]; decide) (Nat.le_of_ble_eq_true rfl) dX4_often_18 ?_
    refine nw_if_ne (pc := 21) (tgt := 27) h dX4_often_21 (by decide) (fun c_21 => ?_) (fun c_21 => ?_)
    · have hf := hf.2 c_21
      refine nw_aload_n (pc := 27) h dX4_often_27 rfl 0 rfl ?_
      refine klX4_140 (pc := 28) h (by rw [hR]; decide) hf (Nat.le_of_ble_eq_true rfl) dX4_often_28 (fun r_28 s_28 hcr hf => ?_)
      obtain rfl := nw_q3 hcr
      refine nw_astore_n (pc := 31) (lv' := [(3, .ref (P.2.1 19)), (0, .ref (P.2.1 0)), (1, .int a1), (2, .int a2)]) h dX4_often_31 rfl (by decide) rfl ?_
      refine nw_aload_n (pc := 32) h dX4_often_32 rfl 1 rfl ?_
      refine klX4_221 (pc := 33) h (by rw [hR]; decide) hf (Nat.le_of_ble_eq_true rfl) dX4_often_33 (fun r_33 s_33 hf => ?_)
      refine nw_istore (pc := 36) (lv' := [(4, .int r_33), (3, .ref (P.2.1 19)), (0, .ref (P.2.1 0)), (1, .int a1), (2, .int a2)]) h dX4_often_36 (by decide) rfl ?_
      refine nw_iconst (pc := 38) (v := 0) h dX4_often_38 (by decide) ?_
      refine nw_istore (pc := 39) (lv' := [(5, .int (0 : Int32)), (4, .int r_33), (3, .ref (P.2.1 19)), (0, .ref (P.2.1 0)), (1, .int a1), (2, .int a2)]) h dX4_often_39 (by decide) rfl ?_
      refine nw_iconst (pc := 41) (v := 2) h dX4_often_41 (by decide) ?_
      refine nw_istore (pc := 42) (lv' := [(6, .int (2 : Int32)), (5, .int (0 : Int32)), (4, .int r_33), (3, .ref (P.2.1 19)), (0, .ref (P.2.1 0)), (1, .int a1), (2, .int a2)]) h dX4_often_42 (by decide) rfl ?_
      obtain ⟨n_44, hf⟩ := hf
      refine nw_sub (lv' := [(0, .ref (P.2.1 0)), (1, .int a1), (2, .int a2), (3, .ref (P.2.1 19)), (4, .int r_33), (5, .int (0 : Int32)), (6, .int (2 : Int32))]) [4, 5, 6, 3, 2, 1, 0] rfl ?_
      exact hL_44 n_44 _ _ _ _ _ _ hf
    · have hf := hf.1 c_21
      refine nw_sub (lv' := []) [] rfl ?_
      exact hL_24 _ (hf)
def bJ7_fill_d0a16_6 (K : nw_ST → Prop) (H_6 : nw_ST → Nat → Int64 → Int32 → Int32 → Prop) (σ : nw_ST) (x0 : Nat) (x1 : Int64) (x3 : Int32) (x4 : Int32) : Prop := (((x4 ≤ x3) → (K σ)) ∧ (¬ (x4 ≤ x3) → ((vp_in x3 (nw_len x0)) ∧ (H_6 (nw_sL σ x0 x3.toNatClampNeg x1) x0 x1 (x3 + (1 : Int32)) x4))))
def fJ7_fill_d0a16_6 (K : nw_ST → Prop) : Nat → nw_ST → Nat → Int64 → Int32 → Int32 → Prop
  | 0 => fun _ _ _ _ _ => False
  | n + 1 => bJ7_fill_d0a16_6 K (fJ7_fill_d0a16_6 K n)
def fJ7_fill_d0a16 (K : nw_ST → Prop) (σ : nw_ST) (q1 : Nat) (a2 : Int64) : Prop := (∃ n, fJ7_fill_d0a16_6 K n σ q1 a2 (0 : Int32) (Int32.ofNat (nw_len q1)))
def rmJ7_fill_d0a16 : Room := { frames := 0, cells := 0, slots := 0, locals := 0 }
theorem ydJ7_fill_d0a16 : yJ7_fill_d0a16.cls = RJ7 ∧ yJ7_fill_d0a16.cls ≠ "java/lang/invoke/MethodHandle" ∧ yJ7_fill_d0a16.cls ≠ "java/lang/invoke/VarHandle" ∧ (parseMethodDescriptor yJ7_fill_d0a16.desc).map (fun d => d.parameters.length) = some 2 := by decide +kernel
set_option maxHeartbeats 4000000 in
set_option maxRecDepth 100000 in
theorem ctJ7_fill_d0a16 (l : Launch) (P : nw_PT) (hD : nw_D P) (σ : nw_ST) (q1 : Nat) (a2 : Int64) (hc_q1 : nw_cl q1 = 11) (K : nw_ST → Prop) (hf : fJ7_fill_d0a16 K σ q1 a2) : nw_MT l yJ7_fill_d0a16 cJ7_fill_d0a16 5 none rmJ7_fill_d0a16 P [.ref (P.2.1 q1), .long a2] σ (nw_Kv K) := by
  refine nw_enter (by decide) (by first | decide | exact Nat.le_of_ble_eq_true rfl) hD ?_
  intro X hl h he hR
  subst hl
  have h : nw_ok P X cJ7_fill_d0a16 RJ7 5 := h
  show nw_G P X 5 σ [(0, .ref (P.2.1 q1)), (1, .long a2)] 0 []
  have hB_6 : ∀ (H_6 : nw_ST → Nat → Int64 → Int32 → Int32 → Prop) (hH_6 : (∀ (σ : nw_ST) (x0 : Nat) (x1 : Int64) (x3 : Int32) (x4 : Int32), nw_cl x0 = 11 → H_6 σ x0 x1 x3 x4 → nw_G P X 5 σ [(0, .ref (P.2.1 x0)), (1, .long x1), (3, .int x3), (4, .int x4)] 6 [])), ∀ (σ : nw_ST) (x0 : Nat) (x1 : Int64) (x3 : Int32) (x4 : Int32), nw_cl x0 = 11 → bJ7_fill_d0a16_6 K H_6 σ x0 x1 x3 x4 → nw_G P X 5 σ [(0, .ref (P.2.1 x0)), (1, .long x1), (3, .int x3), (4, .int x4)] 6 [] := by
    intro H_6 hH_6 σ x0 x1 x3 x4 hc_x0 hf
    unfold bJ7_fill_d0a16_6 at hf
    refine nw_iload_n (pc := 6) h dJ7_fill_d0a16_6 rfl 2 rfl ?_
    refine nw_iload (pc := 7) h dJ7_fill_d0a16_7 3 rfl ?_
    refine nw_icmp_ge (pc := 9) (tgt := 22) h dJ7_fill_d0a16_9 (by decide) (fun c_9 => ?_) (fun c_9 => ?_)
    · have hf := hf.1 c_9
      exact nw_vret (pc := 22) h he dJ7_fill_d0a16_22 ⟨rfl, hf⟩
    · have hf := hf.2 c_9
      refine nw_aload_n (pc := 12) h dJ7_fill_d0a16_12 rfl 0 rfl ?_
      refine nw_iload_n (pc := 13) h dJ7_fill_d0a16_13 rfl 2 rfl ?_
      refine nw_lload_n (pc := 14) h dJ7_fill_d0a16_14 rfl 1 rfl ?_
      obtain ⟨h_15, hf⟩ := hf
      refine nw_last (pc := 15) (n := (nw_len x0)) h hc_x0 rfl h_15 dJ7_fill_d0a16_15 ?_
      refine nw_iinc (pc := 16) (v := (x3 + (1 : Int32))) (lv' := [(3, .int (x3 + (1 : Int32))), (0, .ref (P.2.1 x0)), (1, .long x1), (4, .int x4)]) h dJ7_fill_d0a16_16 (j := 2) rfl rfl (by decide) rfl ?_
      refine nw_goto (pc := 19) (tgt := 6) h dJ7_fill_d0a16_19 (by decide) ?_
      refine nw_sub (lv' := [(0, .ref (P.2.1 x0)), (1, .long x1), (3, .int (x3 + (1 : Int32))), (4, .int x4)]) [1, 2, 0, 3] rfl ?_
      exact hH_6 _ _ _ _ _ hc_x0 (hf)
  have hL_6 :  ∀ (n : Nat) (σ : nw_ST) (x0 : Nat) (x1 : Int64) (x3 : Int32) (x4 : Int32), nw_cl x0 = 11 → fJ7_fill_d0a16_6 K n σ x0 x1 x3 x4 → nw_G P X 5 σ [(0, .ref (P.2.1 x0)), (1, .long x1), (3, .int x3), (4, .int x4)] 6 [] := by
    intro n
    induction n with
    | zero => intro σ x0 x1 x3 x4 hc_x0 hf; exact False.elim hf
    | succ n ih => exact hB_6 _ ih
  unfold fJ7_fill_d0a16 at hf
  refine nw_iconst (pc := 0) (v := 0) h dJ7_fill_d0a16_0 (by decide) ?_
  refine nw_istore_n (pc := 1) (lv' := [(3, .int (0 : Int32)), (0, .ref (P.2.1 q1)), (1, .long a2)]) h dJ7_fill_d0a16_1 rfl (by decide) rfl ?_
  refine nw_aload_n (pc := 2) h dJ7_fill_d0a16_2 rfl 1 rfl ?_
  refine nw_llen (pc := 3) (n := (nw_len q1)) (v := (Int32.ofNat (nw_len q1))) h hc_q1 rfl rfl dJ7_fill_d0a16_3 ?_
  refine nw_istore (pc := 4) (lv' := [(4, .int (Int32.ofNat (nw_len q1))), (3, .int (0 : Int32)), (0, .ref (P.2.1 q1)), (1, .long a2)]) h dJ7_fill_d0a16_4 (by decide) rfl ?_
  obtain ⟨n_6, hf⟩ := hf
  refine nw_sub (lv' := [(0, .ref (P.2.1 q1)), (1, .long a2), (3, .int (0 : Int32)), (4, .int (Int32.ofNat (nw_len q1)))]) [2, 3, 1, 0] rfl ?_
  exact hL_6 n_6 _ _ _ _ _ hc_q1 hf
theorem gf4_69 {P : nw_PT} {X : nw_EX} {cc : ByteArray} {nL : Nat} {σ : nw_ST} {lv : List (Nat × Value)} {pc : Nat} {st : List Value} {q : Nat} (h : nw_ok P X cc RX4 nL) (hq : nw_cl q = 4) {r : Nat} (hr : nw_rf q 9 = r) (hd : decode cc pc = .ok (.getfield 69, 3)) (k : nw_G P X nL σ lv (pc + 3) (.ref (P.2.1 r) :: st)) : nw_G P X nL σ lv pc (.ref (P.2.1 q) :: st) := by
  subst hr; intro H locs ls h1 h2 h3
  exact va_get (D := P.1) (ci := 4) (C := RX4) (T := TX4) (N := 13) h.1.1 h.1.2.1 h.1.2.2.2.2 in_T4 h.1.2.2.2.1 h.2.1.1 h1 q (nw_at4 hq) rfl 9 (by decide) (h.1.2.2.2.2 _ nw_w187) (fun _ z => z) rfl hd (k H locs ls h1 h2 h3)
def f4_stepWays_42 (K : nw_ST → Prop) (H_3 : nw_ST → Int32 → Int32 → Prop) (σ : nw_ST) (x1 : Int32) (x2 : Int32) (x3 : Int64) (y0 : Int64) : Prop := ((vp_in x2 13) ∧ (H_3 (nw_sL σ 36 x2.toNatClampNeg (((Int32.toInt64 ((16 : Int32) - x1)) * x3) + ((Int32.toInt64 x1) * y0))) x1 (x2 + (-1 : Int32))))
def f4_stepWays_24 (K : nw_ST → Prop) (H_3 : nw_ST → Int32 → Int32 → Prop) (σ : nw_ST) (x1 : Int32) (x2 : Int32) (y0 : Int64) : Prop := ((((x2 < (2 : Int32)) → True) ∧ (¬ (x2 < (2 : Int32)) → (vp_in (x2 - (2 : Int32)) 13))) ∧ (f4_stepWays_42 K H_3 σ x1 x2 y0 (if (x2 < (2 : Int32)) then (0 : Int64) else (nw_gL σ 36 (x2 - (2 : Int32)).toNatClampNeg))))
def b4_stepWays_3 (K : nw_ST → Prop) (H_3 : nw_ST → Int32 → Int32 → Prop) (σ : nw_ST) (x1 : Int32) (x2 : Int32) : Prop := (((x2 < 0) → (K σ)) ∧ (¬ (x2 < 0) → ((((x2 < (1 : Int32)) → True) ∧ (¬ (x2 < (1 : Int32)) → (vp_in (x2 - (1 : Int32)) 13))) ∧ (f4_stepWays_24 K H_3 σ x1 x2 (if (x2 < (1 : Int32)) then (0 : Int64) else (nw_gL σ 36 (x2 - (1 : Int32)).toNatClampNeg))))))
def f4_stepWays_3 (K : nw_ST → Prop) : Nat → nw_ST → Int32 → Int32 → Prop
  | 0 => fun _ _ _ => False
  | n + 1 => b4_stepWays_3 K (f4_stepWays_3 K n)
def f4_stepWays (K : nw_ST → Prop) (σ : nw_ST) (a1 : Int32) : Prop := (∃ n, f4_stepWays_3 K n σ a1 (12 : Int32))
def rm4_stepWays : Room := { frames := 0, cells := 0, slots := 0, locals := 0 }
theorem yd4_stepWays : yX4_stepWays.cls = RX4 ∧ yX4_stepWays.cls ≠ "java/lang/invoke/MethodHandle" ∧ yX4_stepWays.cls ≠ "java/lang/invoke/VarHandle" ∧ (parseMethodDescriptor yX4_stepWays.desc).map (fun d => d.parameters.length) = some 1 := by decide +kernel
set_option maxHeartbeats 4000000 in
set_option maxRecDepth 100000 in
theorem ct4_stepWays (l : Launch) (P : nw_PT) (hD : nw_D P) (σ : nw_ST) (a1 : Int32)  (K : nw_ST → Prop) (hf : f4_stepWays K σ a1) : nw_MT l yX4_stepWays cX4_stepWays 7 none rm4_stepWays P [.ref (P.2.1 0), .int a1] σ (nw_Kv K) := by
  refine nw_enter (by decide) (by first | decide | exact Nat.le_of_ble_eq_true rfl) hD ?_
  intro X hl h he hR
  subst hl
  have h : nw_ok P X cX4_stepWays RX4 7 := h
  show nw_G P X 7 σ [(0, .ref (P.2.1 0)), (1, .int a1)] 0 []
  have hL_42 : ∀ (H_3 : nw_ST → Int32 → Int32 → Prop) (hH_3 : (∀ (σ : nw_ST) (x1 : Int32) (x2 : Int32), H_3 σ x1 x2 → nw_G P X 7 σ [(0, .ref (P.2.1 0)), (1, .int x1), (2, .int x2)] 3 [])), ∀ (σ : nw_ST) (x1 : Int32) (x2 : Int32) (x3 : Int64) (y0 : Int64), f4_stepWays_42 K H_3 σ x1 x2 x3 y0 → nw_G P X 7 σ [(0, .ref (P.2.1 0)), (1, .int x1), (2, .int x2), (3, .long x3)] 42 [.long y0] := by
    intro H_3 hH_3 σ x1 x2 x3 y0 hf
    unfold f4_stepWays_42 at hf
    refine nw_lstore (pc := 42) (lv' := [(5, .long y0), (0, .ref (P.2.1 0)), (1, .int x1), (2, .int x2), (3, .long x3)]) h dX4_stepWays_42 (by decide) rfl ?_
    refine nw_aload_n (pc := 44) h dX4_stepWays_44 rfl 1 rfl ?_
    refine gf4_69 (pc := 45) (r := 36) h rfl rfl dX4_stepWays_45 ?_
    refine nw_iload_n (pc := 48) h dX4_stepWays_48 rfl 3 rfl ?_
    refine nw_bipush (pc := 49) (v := 16) h dX4_stepWays_49 (by decide) ?_
    refine nw_iload_n (pc := 51) h dX4_stepWays_51 rfl 2 rfl ?_
    refine nw_isub (pc := 52) h dX4_stepWays_52 ?_
    refine nw_i2l (pc := 53) h dX4_stepWays_53 ?_
    refine nw_lload_n (pc := 54) h dX4_stepWays_54 rfl 4 rfl ?_
    refine nw_lmul (pc := 55) h dX4_stepWays_55 ?_
    refine nw_iload_n (pc := 56) h dX4_stepWays_56 rfl 2 rfl ?_
    refine nw_i2l (pc := 57) h dX4_stepWays_57 ?_
    refine nw_lload (pc := 58) h dX4_stepWays_58 0 rfl ?_
    refine nw_lmul (pc := 60) h dX4_stepWays_60 ?_
    refine nw_ladd (pc := 61) h dX4_stepWays_61 ?_
    obtain ⟨h_62, hf⟩ := hf
    refine nw_last (pc := 62) (n := 13) h rfl rfl h_62 dX4_stepWays_62 ?_
    refine nw_iinc (pc := 63) (v := (x2 + (-1 : Int32))) (lv' := [(2, .int (x2 + (-1 : Int32))), (5, .long y0), (0, .ref (P.2.1 0)), (1, .int x1), (3, .long x3)]) h dX4_stepWays_63 (j := 3) rfl rfl (by decide) rfl ?_
    refine nw_goto (pc := 66) (tgt := 3) h dX4_stepWays_66 (by decide) ?_
    refine nw_sub (lv' := [(0, .ref (P.2.1 0)), (1, .int x1), (2, .int (x2 + (-1 : Int32)))]) [2, 3, 0] rfl ?_
    exact hH_3 _ _ _ (hf)
  have hL_24 : ∀ (H_3 : nw_ST → Int32 → Int32 → Prop) (hH_3 : (∀ (σ : nw_ST) (x1 : Int32) (x2 : Int32), H_3 σ x1 x2 → nw_G P X 7 σ [(0, .ref (P.2.1 0)), (1, .int x1), (2, .int x2)] 3 [])), ∀ (σ : nw_ST) (x1 : Int32) (x2 : Int32) (y0 : Int64), f4_stepWays_24 K H_3 σ x1 x2 y0 → nw_G P X 7 σ [(0, .ref (P.2.1 0)), (1, .int x1), (2, .int x2)] 24 [.long y0] := by
    intro H_3 hH_3 σ x1 x2 y0 hf
    unfold f4_stepWays_24 at hf
    refine nw_lstore_n (pc := 24) (lv' := [(3, .long y0), (0, .ref (P.2.1 0)), (1, .int x1), (2, .int x2)]) h dX4_stepWays_24 rfl (by decide) rfl ?_
    refine nw_iload_n (pc := 25) h dX4_stepWays_25 rfl 3 rfl ?_
    refine nw_iconst (pc := 26) (v := 2) h dX4_stepWays_26 (by decide) ?_
    obtain ⟨ho, hf⟩ := hf
    refine nw_icmp_lt (pc := 27) (tgt := 41) h dX4_stepWays_27 (by decide) (fun c_27 => ?_) (fun c_27 => ?_)
    · skip
      have ho := ho.1 c_27
      refine nw_lconst (pc := 41) (vl := 0) h dX4_stepWays_41 (by decide) ?_
      simp only [if_pos c_27] at hf
      refine nw_sub (lv' := [(0, .ref (P.2.1 0)), (1, .int x1), (2, .int x2), (3, .long y0)]) [1, 2, 3, 0] rfl ?_
      exact hL_42 H_3 hH_3 _ _ _ _ _ hf
    · skip
      have ho := ho.2 c_27
      refine nw_aload_n (pc := 30) h dX4_stepWays_30 rfl 1 rfl ?_
      refine gf4_69 (pc := 31) (r := 36) h rfl rfl dX4_stepWays_31 ?_
      refine nw_iload_n (pc := 34) h dX4_stepWays_34 rfl 3 rfl ?_
      refine nw_iconst (pc := 35) (v := 2) h dX4_stepWays_35 (by decide) ?_
      refine nw_isub (pc := 36) h dX4_stepWays_36 ?_
      have h_37 := ho
      refine nw_lald (pc := 37) (n := 13) h rfl rfl h_37 dX4_stepWays_37 ?_
      refine nw_goto (pc := 38) (tgt := 42) h dX4_stepWays_38 (by decide) ?_
      simp only [if_neg c_27] at hf
      refine nw_sub (lv' := [(0, .ref (P.2.1 0)), (1, .int x1), (2, .int x2), (3, .long y0)]) [1, 2, 3, 0] rfl ?_
      exact hL_42 H_3 hH_3 _ _ _ _ _ hf
  have hB_3 : ∀ (H_3 : nw_ST → Int32 → Int32 → Prop) (hH_3 : (∀ (σ : nw_ST) (x1 : Int32) (x2 : Int32), H_3 σ x1 x2 → nw_G P X 7 σ [(0, .ref (P.2.1 0)), (1, .int x1), (2, .int x2)] 3 [])), ∀ (σ : nw_ST) (x1 : Int32) (x2 : Int32), b4_stepWays_3 K H_3 σ x1 x2 → nw_G P X 7 σ [(0, .ref (P.2.1 0)), (1, .int x1), (2, .int x2)] 3 [] := by
    intro H_3 hH_3 σ x1 x2 hf
    unfold b4_stepWays_3 at hf
    refine nw_iload_n (pc := 3) h dX4_stepWays_3 rfl 2 rfl ?_
    refine nw_if_lt (pc := 4) (tgt := 69) h dX4_stepWays_4 (by decide) (fun c_4 => ?_) (fun c_4 => ?_)
    · have hf := hf.1 c_4
      exact nw_vret (pc := 69) h he dX4_stepWays_69 ⟨rfl, hf⟩
    · have hf := hf.2 c_4
      refine nw_iload_n (pc := 7) h dX4_stepWays_7 rfl 2 rfl ?_
      refine nw_iconst (pc := 8) (v := 1) h dX4_stepWays_8 (by decide) ?_
      obtain ⟨ho, hf⟩ := hf
      refine nw_icmp_lt (pc := 9) (tgt := 23) h dX4_stepWays_9 (by decide) (fun c_9 => ?_) (fun c_9 => ?_)
      · skip
        have ho := ho.1 c_9
        refine nw_lconst (pc := 23) (vl := 0) h dX4_stepWays_23 (by decide) ?_
        simp only [if_pos c_9] at hf
        exact hL_24 H_3 hH_3 _ _ _ _ hf
      · skip
        have ho := ho.2 c_9
        refine nw_aload_n (pc := 12) h dX4_stepWays_12 rfl 0 rfl ?_
        refine gf4_69 (pc := 13) (r := 36) h rfl rfl dX4_stepWays_13 ?_
        refine nw_iload_n (pc := 16) h dX4_stepWays_16 rfl 2 rfl ?_
        refine nw_iconst (pc := 17) (v := 1) h dX4_stepWays_17 (by decide) ?_
        refine nw_isub (pc := 18) h dX4_stepWays_18 ?_
        have h_19 := ho
        refine nw_lald (pc := 19) (n := 13) h rfl rfl h_19 dX4_stepWays_19 ?_
        refine nw_goto (pc := 20) (tgt := 24) h dX4_stepWays_20 (by decide) ?_
        simp only [if_neg c_9] at hf
        exact hL_24 H_3 hH_3 _ _ _ _ hf
  have hL_3 :  ∀ (n : Nat) (σ : nw_ST) (x1 : Int32) (x2 : Int32), f4_stepWays_3 K n σ x1 x2 → nw_G P X 7 σ [(0, .ref (P.2.1 0)), (1, .int x1), (2, .int x2)] 3 [] := by
    intro n
    induction n with
    | zero => intro σ x1 x2 hf; exact False.elim hf
    | succ n ih => exact hB_3 _ ih
  unfold f4_stepWays at hf
  refine nw_bipush (pc := 0) (v := 12) h dX4_stepWays_0 (by decide) ?_
  refine nw_istore_n (pc := 2) (lv' := [(2, .int (12 : Int32)), (0, .ref (P.2.1 0)), (1, .int a1)]) h dX4_stepWays_2 rfl (by decide) rfl ?_
  obtain ⟨n_3, hf⟩ := hf
  refine nw_sub (lv' := [(0, .ref (P.2.1 0)), (1, .int a1), (2, .int (12 : Int32))]) [1, 2, 0] rfl ?_
  exact hL_3 n_3 _ _ _ hf
def f4_sharedTwos_29 (K : Int32 → nw_ST → Prop) (σ : nw_ST) (x4 : Int32) : Prop := (K x4 σ)
def b4_sharedTwos_3 (K : Int32 → nw_ST → Prop) (H_3 : nw_ST → Int64 → Int64 → Int32 → Prop) (σ : nw_ST) (x0 : Int64) (x2 : Int64) (x4 : Int32) : Prop := ((((63 : Int32) ≤ x4) → (f4_sharedTwos_29 K σ x4)) ∧ (¬ ((63 : Int32) ≤ x4) → ((((lg_cmp ((nw_lshr (x0 ||| x2) x4) &&& (1 : Int64)) (0 : Int64)) = 0) → (H_3 σ x0 x2 (x4 + (1 : Int32)))) ∧ (¬ ((lg_cmp ((nw_lshr (x0 ||| x2) x4) &&& (1 : Int64)) (0 : Int64)) = 0) → (f4_sharedTwos_29 K σ x4)))))
def f4_sharedTwos_3 (K : Int32 → nw_ST → Prop) : Nat → nw_ST → Int64 → Int64 → Int32 → Prop
  | 0 => fun _ _ _ _ => False
  | n + 1 => b4_sharedTwos_3 K (f4_sharedTwos_3 K n)
def f4_sharedTwos (K : Int32 → nw_ST → Prop) (σ : nw_ST) (a1 : Int64) (a2 : Int64) : Prop := (∃ n, f4_sharedTwos_3 K n σ a1 a2 (0 : Int32))
def rm4_sharedTwos : Room := { frames := 0, cells := 0, slots := 0, locals := 0 }
theorem yd4_sharedTwos : yX4_sharedTwos.cls = RX4 ∧ yX4_sharedTwos.cls ≠ "java/lang/invoke/MethodHandle" ∧ yX4_sharedTwos.cls ≠ "java/lang/invoke/VarHandle" ∧ (parseMethodDescriptor yX4_sharedTwos.desc).map (fun d => d.parameters.length) = some 2 := by decide +kernel
set_option maxHeartbeats 4000000 in
set_option maxRecDepth 100000 in
theorem ct4_sharedTwos (l : Launch) (P : nw_PT) (hD : nw_D P) (σ : nw_ST) (a1 : Int64) (a2 : Int64)  (K : Int32 → nw_ST → Prop) (hf : f4_sharedTwos K σ a1 a2) : nw_MT l yX4_sharedTwos cX4_sharedTwos 5 (some .int) rm4_sharedTwos P [.long a1, .long a2] σ (nw_Ki K) := by
  refine nw_enter (by decide) (by first | decide | exact Nat.le_of_ble_eq_true rfl) hD ?_
  intro X hl h he hR
  subst hl
  have h : nw_ok P X cX4_sharedTwos RX4 5 := h
  show nw_G P X 5 σ [(0, .long a1), (2, .long a2)] 0 []
  have hL_29 :  ∀ (σ : nw_ST) (x4 : Int32), f4_sharedTwos_29 K σ x4 → nw_G P X 5 σ [(4, .int x4)] 29 [] := by
    intro σ x4 hf
    unfold f4_sharedTwos_29 at hf
    refine nw_iload (pc := 29) h dX4_sharedTwos_29 0 rfl ?_
    exact nw_iret (pc := 31) h he dX4_sharedTwos_31 ⟨_, rfl, hf⟩
  have hB_3 : ∀ (H_3 : nw_ST → Int64 → Int64 → Int32 → Prop) (hH_3 : (∀ (σ : nw_ST) (x0 : Int64) (x2 : Int64) (x4 : Int32), H_3 σ x0 x2 x4 → nw_G P X 5 σ [(0, .long x0), (2, .long x2), (4, .int x4)] 3 [])), ∀ (σ : nw_ST) (x0 : Int64) (x2 : Int64) (x4 : Int32), b4_sharedTwos_3 K H_3 σ x0 x2 x4 → nw_G P X 5 σ [(0, .long x0), (2, .long x2), (4, .int x4)] 3 [] := by
    intro H_3 hH_3 σ x0 x2 x4 hf
    unfold b4_sharedTwos_3 at hf
    refine nw_iload (pc := 3) h dX4_sharedTwos_3 2 rfl ?_
    refine nw_bipush (pc := 5) (v := 63) h dX4_sharedTwos_5 (by decide) ?_
    refine nw_icmp_ge (pc := 7) (tgt := 29) h dX4_sharedTwos_7 (by decide) (fun c_7 => ?_) (fun c_7 => ?_)
    · have hf := hf.1 c_7
      refine nw_sub (lv' := [(4, .int x4)]) [2] rfl ?_
      exact hL_29 _ _ (hf)
    · have hf := hf.2 c_7
      refine nw_lload_n (pc := 10) h dX4_sharedTwos_10 rfl 0 rfl ?_
      refine nw_lload_n (pc := 11) h dX4_sharedTwos_11 rfl 1 rfl ?_
      refine nw_lor (pc := 12) h dX4_sharedTwos_12 ?_
      refine nw_iload (pc := 13) h dX4_sharedTwos_13 2 rfl ?_
      refine nw_lshr_ (pc := 15) h dX4_sharedTwos_15 ?_
      refine nw_lconst (pc := 16) (vl := 1) h dX4_sharedTwos_16 (by decide) ?_
      refine nw_land (pc := 17) h dX4_sharedTwos_17 ?_
      refine nw_lconst (pc := 18) (vl := 0) h dX4_sharedTwos_18 (by decide) ?_
      refine nw_lcmp (pc := 19) h dX4_sharedTwos_19 ?_
      refine nw_if_ne (pc := 20) (tgt := 29) h dX4_sharedTwos_20 (by decide) (fun c_20 => ?_) (fun c_20 => ?_)
      · have hf := hf.2 c_20
        refine nw_sub (lv' := [(4, .int x4)]) [2] rfl ?_
        exact hL_29 _ _ (hf)
      · have hf := hf.1 c_20
        refine nw_iinc (pc := 23) (v := (x4 + (1 : Int32))) (lv' := [(4, .int (x4 + (1 : Int32))), (0, .long x0), (2, .long x2)]) h dX4_sharedTwos_23 (j := 2) rfl rfl (by decide) rfl ?_
        refine nw_goto (pc := 26) (tgt := 3) h dX4_sharedTwos_26 (by decide) ?_
        refine nw_sub (lv' := [(0, .long x0), (2, .long x2), (4, .int (x4 + (1 : Int32)))]) [1, 2, 0] rfl ?_
        exact hH_3 _ _ _ _ (hf)
  have hL_3 :  ∀ (n : Nat) (σ : nw_ST) (x0 : Int64) (x2 : Int64) (x4 : Int32), f4_sharedTwos_3 K n σ x0 x2 x4 → nw_G P X 5 σ [(0, .long x0), (2, .long x2), (4, .int x4)] 3 [] := by
    intro n
    induction n with
    | zero => intro σ x0 x2 x4 hf; exact False.elim hf
    | succ n ih => exact hB_3 _ ih
  unfold f4_sharedTwos at hf
  refine nw_iconst (pc := 0) (v := 0) h dX4_sharedTwos_0 (by decide) ?_
  refine nw_istore (pc := 1) (lv' := [(4, .int (0 : Int32)), (0, .long a1), (2, .long a2)]) h dX4_sharedTwos_1 (by decide) rfl ?_
  obtain ⟨n_3, hf⟩ := hf
  refine nw_sub (lv' := [(0, .long a1), (2, .long a2), (4, .int (0 : Int32))]) [1, 2, 0] rfl ?_
  exact hL_3 n_3 _ _ _ _ hf
theorem klX4_230 {P : nw_PT} {X : nw_EX} {cc : ByteArray} {nL : Nat} {σ : nw_ST} {lv : List (Nat × Value)} {pc : Nat} {rest : List Value} {q1 : Nat} {a2 : Int64} (h : nw_ok P X cc RX4 nL) (hR : rmJ7_fill_d0a16.frames + 1 ≤ X.2.2.2.1.frames ∧ 8 + (5 + 11) + rmJ7_fill_d0a16.locals ≤ X.2.2.2.1.locals) (hc_q1 : nw_cl q1 = 11) {K : nw_ST → Prop} (hf : fJ7_fill_d0a16 K σ q1 a2) (hst : (rest.map fun v => v.category).sum ≤ 8) (hd : decode cc pc = .ok (.invokestatic 230, 3)) (k : ∀ (s2 : nw_ST), K s2 → nw_G P X nL s2 lv (pc + 3) rest) : nw_G P X nL σ lv pc (.long a2 :: .ref (P.2.1 q1) :: rest) :=
  nw_callS (As := [.ref (P.2.1 q1), .long a2]) (rest := rest) h (ctJ7_fill_d0a16 _ P h.2.2 σ q1 a2 hc_q1 K hf) (nw_goodS nw_w189 nw_w190 nw_w8 nw_w191) ydJ7_fill_d0a16.2 rfl hR ⟨rfl, rfl⟩ hst rfl hd (fun v s2 z => by obtain ⟨rfl, z⟩ := z; exact k s2 z)
theorem gf4_236 {P : nw_PT} {X : nw_EX} {cc : ByteArray} {nL : Nat} {σ : nw_ST} {lv : List (Nat × Value)} {pc : Nat} {st : List Value} {q : Nat} (h : nw_ok P X cc RX4 nL) (hq : nw_cl q = 3) (hd : decode cc pc = .ok (.getfield 236, 3)) (k : nw_G P X nL σ lv (pc + 3) (.int (nw_gS σ q 6) :: st)) : nw_G P X nL σ lv pc (.ref (P.2.1 q) :: st) := by
  intro H locs ls h1 h2 h3
  exact va_getN (D := P.1) (ci := 3) (C := RX3) (T := TX3) (N := 7) h.1.1 h.1.2.1 h.1.2.2.2.2 in_T3 h.1.2.2.2.1 h.2.1.1 h1 q (nw_at3 hq) rfl 6 (by decide) (va_Nw.use rfl (h.2.1.2.1 ("NumberedWaves", 236, "NumberedWaves$Waves", "calls", "I", "NumberedWaves") (by decide +kernel))) (fun _ z => z) rfl hd (k H locs ls h1 h2 h3)
theorem klX4_247 {P : nw_PT} {X : nw_EX} {cc : ByteArray} {nL : Nat} {σ : nw_ST} {lv : List (Nat × Value)} {pc : Nat} {rest : List Value} {a1 : Int64} {a2 : Int64} (h : nw_ok P X cc RX4 nL) (hR : rm4_sharedTwos.frames + 1 ≤ X.2.2.2.1.frames ∧ 8 + (5 + 11) + rm4_sharedTwos.locals ≤ X.2.2.2.1.locals)  {K : Int32 → nw_ST → Prop} (hf : f4_sharedTwos K σ a1 a2) (hst : (rest.map fun v => v.category).sum ≤ 8) (hd : decode cc pc = .ok (.invokestatic 247, 3)) (k : ∀ (r : Int32) (s2 : nw_ST), K r s2 → nw_G P X nL s2 lv (pc + 3) (.int r :: rest)) : nw_G P X nL σ lv pc (.long a2 :: .long a1 :: rest) :=
  nw_callS (As := [.long a1, .long a2]) (rest := rest) h (ct4_sharedTwos _ P h.2.2 σ a1 a2 K hf) (nw_goodS nw_w195 nw_w196 nw_w24 nw_w197) yd4_sharedTwos.2 rfl hR ⟨rfl, rfl⟩ hst rfl hd (fun v s2 z => by obtain ⟨r, rfl, z⟩ := z; exact k r s2 z)
theorem klX4_242 {P : nw_PT} {X : nw_EX} {cc : ByteArray} {nL : Nat} {σ : nw_ST} {lv : List (Nat × Value)} {pc : Nat} {rest : List Value} {a1 : Int32} (h : nw_ok P X cc RX4 nL) (hR : rm4_stepWays.frames + 1 ≤ X.2.2.2.1.frames ∧ 8 + (7 + 11) + rm4_stepWays.locals ≤ X.2.2.2.1.locals)  {K : nw_ST → Prop} (hf : f4_stepWays K σ a1) (hst : (rest.map fun v => v.category).sum ≤ 8) (hd : decode cc pc = .ok (.invokevirtual 242, 3)) (k : ∀ (s2 : nw_ST), K s2 → nw_G P X nL s2 lv (pc + 3) rest) : nw_G P X nL σ lv pc (.int a1 :: .ref (P.2.1 0) :: rest) :=
  nw_callV (As := [.int a1]) (rest := rest) (C := RX4) (ci := 4) h (ct4_stepWays _ P h.2.2 σ a1 K hf) (nw_goodV nw_w198 nw_w199 nw_w200 nw_w24 nw_w201) yd4_stepWays rfl hR ⟨rfl, rfl⟩ rfl (by decide) rfl rfl hst rfl hd (fun v s2 z => by obtain ⟨rfl, z⟩ := z; exact k s2 z)
def f4_hoarse_28 (K : Int64 → nw_ST → Prop) (σ : nw_ST) : Prop := (K (-9223372036854775806 : Int64) σ)
def f4_hoarse_136 (K : Int64 → nw_ST → Prop) (σ : nw_ST) (y0 : Int64) : Prop := (K y0 σ)
def b4_hoarse_69 (K : Int64 → nw_ST → Prop) (H_69 : nw_ST → Int32 → Int32 → Int32 → Int64 → Int64 → Int32 → Int32 → Prop) (σ : nw_ST) (x1 : Int32) (x2 : Int32) (x3 : Int32) (x4 : Int64) (x6 : Int64) (x8 : Int32) (x9 : Int32) : Prop := (((x8 ≤ x9) → (f4_sharedTwos (fun (r_114 : Int32) (s_114 : nw_ST) => (f4_hoarse_136 K s_114 (if (x3 = 0) then (nw_lshr x4 r_114) else (nw_lshr x6 r_114)))) σ x4 x6)) ∧ (¬ (x8 ≤ x9) → (f4_stepWays (fun (s_78 : nw_ST) => ((vp_in x2 13) ∧ (H_69 s_78 x1 x2 x3 ((x4 * (16 : Int64)) + (nw_gL s_78 36 x2.toNatClampNeg)) (x6 * (16 : Int64)) x8 (x9 + (1 : Int32))))) σ x1)))
def f4_hoarse_69 (K : Int64 → nw_ST → Prop) : Nat → nw_ST → Int32 → Int32 → Int32 → Int64 → Int64 → Int32 → Int32 → Prop
  | 0 => fun _ _ _ _ _ _ _ _ => False
  | n + 1 => b4_hoarse_69 K (f4_hoarse_69 K n)
def f4_hoarse (K : Int64 → nw_ST → Prop) (σ : nw_ST) (a1 : Int32) (a2 : Int32) (a3 : Int32) : Prop := ((((v4_isFrom a1 (0 : Int32) (16 : Int32)) = 0) → (f4_hoarse_28 K σ)) ∧ (¬ ((v4_isFrom a1 (0 : Int32) (16 : Int32)) = 0) → ((((v4_isFrom a2 (1 : Int32) (12 : Int32)) = 0) → (f4_hoarse_28 K σ)) ∧ (¬ ((v4_isFrom a2 (1 : Int32) (12 : Int32)) = 0) → ((((v4_isBelow a3 (2 : Int32)) = 0) → (f4_hoarse_28 K σ)) ∧ (¬ ((v4_isBelow a3 (2 : Int32)) = 0) → (fJ7_fill_d0a16 (fun (s_37 : nw_ST) => ((vp_in (0 : Int32) 13) ∧ (f4_waves (fun (r_55 : Nat) (s_55 : nw_ST) => (∃ n, f4_hoarse_69 K n s_55 a1 a2 a3 (0 : Int64) (1 : Int64) (if (nw_gS s_55 19 6) < a2 then (nw_gS s_55 19 6) else a2) (0 : Int32))) (nw_sL s_37 36 (0 : Int32).toNatClampNeg (1 : Int64))))) σ 36 (0 : Int64))))))))
def rm4_hoarse : Room := { frames := 4, cells := 0, slots := 0, locals := 91 }
theorem yd4_hoarse : yX4_hoarse.cls = RX4 ∧ yX4_hoarse.cls ≠ "java/lang/invoke/MethodHandle" ∧ yX4_hoarse.cls ≠ "java/lang/invoke/VarHandle" ∧ (parseMethodDescriptor yX4_hoarse.desc).map (fun d => d.parameters.length) = some 3 := by decide +kernel
set_option maxHeartbeats 4000000 in
set_option maxRecDepth 100000 in
theorem ct4_hoarse (l : Launch) (P : nw_PT) (hD : nw_D P) (σ : nw_ST) (a1 : Int32) (a2 : Int32) (a3 : Int32)  (K : Int64 → nw_ST → Prop) (hf : f4_hoarse K σ a1 a2 a3) : nw_MT l yX4_hoarse cX4_hoarse 10 (some .long) rm4_hoarse P [.ref (P.2.1 0), .int a1, .int a2, .int a3] σ (nw_Kl K) := by
  refine nw_enter (by decide) (by first | decide | exact Nat.le_of_ble_eq_true rfl) hD ?_
  intro X hl h he hR
  subst hl
  have h : nw_ok P X cX4_hoarse RX4 10 := h
  show nw_G P X 10 σ [(0, .ref (P.2.1 0)), (1, .int a1), (2, .int a2), (3, .int a3)] 0 []
  have hL_28 :  ∀ (σ : nw_ST), f4_hoarse_28 K σ → nw_G P X 10 σ [] 28 [] := by
    intro σ hf
    unfold f4_hoarse_28 at hf
    refine nw_ldc2 (pc := 28) h nw_w188 dX4_hoarse_28 ?_
    exact nw_lret (pc := 31) h he dX4_hoarse_31 ⟨_, rfl, hf⟩
  have hL_136 :  ∀ (σ : nw_ST) (y0 : Int64), f4_hoarse_136 K σ y0 → nw_G P X 10 σ [] 136 [.long y0] := by
    intro σ y0 hf
    unfold f4_hoarse_136 at hf
    exact nw_lret (pc := 136) h he dX4_hoarse_136 ⟨_, rfl, hf⟩
  have hB_69 : ∀ (H_69 : nw_ST → Int32 → Int32 → Int32 → Int64 → Int64 → Int32 → Int32 → Prop) (hH_69 : (∀ (σ : nw_ST) (x1 : Int32) (x2 : Int32) (x3 : Int32) (x4 : Int64) (x6 : Int64) (x8 : Int32) (x9 : Int32), H_69 σ x1 x2 x3 x4 x6 x8 x9 → nw_G P X 10 σ [(0, .ref (P.2.1 0)), (1, .int x1), (2, .int x2), (3, .int x3), (4, .long x4), (6, .long x6), (8, .int x8), (9, .int x9)] 69 [])), ∀ (σ : nw_ST) (x1 : Int32) (x2 : Int32) (x3 : Int32) (x4 : Int64) (x6 : Int64) (x8 : Int32) (x9 : Int32), b4_hoarse_69 K H_69 σ x1 x2 x3 x4 x6 x8 x9 → nw_G P X 10 σ [(0, .ref (P.2.1 0)), (1, .int x1), (2, .int x2), (3, .int x3), (4, .long x4), (6, .long x6), (8, .int x8), (9, .int x9)] 69 [] := by
    intro H_69 hH_69 σ x1 x2 x3 x4 x6 x8 x9 hf
    unfold b4_hoarse_69 at hf
    refine nw_iload (pc := 69) h dX4_hoarse_69 7 rfl ?_
    refine nw_iload (pc := 71) h dX4_hoarse_71 6 rfl ?_
    refine nw_icmp_ge (pc := 73) (tgt := 110) h dX4_hoarse_73 (by decide) (fun c_73 => ?_) (fun c_73 => ?_)
    · have hf := hf.1 c_73
      refine nw_lload (pc := 110) h dX4_hoarse_110 4 rfl ?_
      refine nw_lload (pc := 112) h dX4_hoarse_112 5 rfl ?_
      refine klX4_247 (pc := 114) h (by rw [hR]; decide) hf (Nat.le_of_ble_eq_true rfl) dX4_hoarse_114 (fun r_114 s_114 hf => ?_)
      refine nw_istore (pc := 117) (lv' := [(9, .int r_114), (0, .ref (P.2.1 0)), (1, .int x1), (2, .int x2), (3, .int x3), (4, .long x4), (6, .long x6), (8, .int x8)]) h dX4_hoarse_117 (by decide) rfl ?_
      refine nw_iload_n (pc := 119) h dX4_hoarse_119 rfl 4 rfl ?_
      refine nw_if_ne (pc := 120) (tgt := 131) h dX4_hoarse_120 (by decide) (fun c_120 => ?_) (fun c_120 => ?_)
      · skip
        refine nw_lload (pc := 131) h dX4_hoarse_131 6 rfl ?_
        refine nw_iload (pc := 133) h dX4_hoarse_133 0 rfl ?_
        refine nw_lshr_ (pc := 135) h dX4_hoarse_135 ?_
        simp only [if_neg c_120] at hf
        refine nw_sub (lv' := []) [] rfl ?_
        exact hL_136 _ _ hf
      · skip
        refine nw_lload (pc := 123) h dX4_hoarse_123 5 rfl ?_
        refine nw_iload (pc := 125) h dX4_hoarse_125 0 rfl ?_
        refine nw_lshr_ (pc := 127) h dX4_hoarse_127 ?_
        refine nw_goto (pc := 128) (tgt := 136) h dX4_hoarse_128 (by decide) ?_
        simp only [if_pos c_120] at hf
        refine nw_sub (lv' := []) [] rfl ?_
        exact hL_136 _ _ hf
    · have hf := hf.2 c_73
      refine nw_aload_n (pc := 76) h dX4_hoarse_76 rfl 0 rfl ?_
      refine nw_iload_n (pc := 77) h dX4_hoarse_77 rfl 1 rfl ?_
      refine klX4_242 (pc := 78) h (by rw [hR]; decide) hf (Nat.le_of_ble_eq_true rfl) dX4_hoarse_78 (fun s_78 hf => ?_)
      refine nw_lload (pc := 81) h dX4_hoarse_81 4 rfl ?_
      refine nw_ldc2 (pc := 83) h nw_w202 dX4_hoarse_83 ?_
      refine nw_lmul (pc := 86) h dX4_hoarse_86 ?_
      refine nw_aload_n (pc := 87) h dX4_hoarse_87 rfl 0 rfl ?_
      refine gf4_69 (pc := 88) (r := 36) h rfl rfl dX4_hoarse_88 ?_
      refine nw_iload_n (pc := 91) h dX4_hoarse_91 rfl 2 rfl ?_
      obtain ⟨h_92, hf⟩ := hf
      refine nw_lald (pc := 92) (n := 13) h rfl rfl h_92 dX4_hoarse_92 ?_
      refine nw_ladd (pc := 93) h dX4_hoarse_93 ?_
      refine nw_lstore (pc := 94) (lv' := [(4, .long ((x4 * (16 : Int64)) + (nw_gL s_78 36 x2.toNatClampNeg))), (0, .ref (P.2.1 0)), (1, .int x1), (2, .int x2), (3, .int x3), (6, .long x6), (8, .int x8), (9, .int x9)]) h dX4_hoarse_94 (by decide) rfl ?_
      refine nw_lload (pc := 96) h dX4_hoarse_96 5 rfl ?_
      refine nw_ldc2 (pc := 98) h nw_w202 dX4_hoarse_98 ?_
      refine nw_lmul (pc := 101) h dX4_hoarse_101 ?_
      refine nw_lstore (pc := 102) (lv' := [(6, .long (x6 * (16 : Int64))), (4, .long ((x4 * (16 : Int64)) + (nw_gL s_78 36 x2.toNatClampNeg))), (0, .ref (P.2.1 0)), (1, .int x1), (2, .int x2), (3, .int x3), (8, .int x8), (9, .int x9)]) h dX4_hoarse_102 (by decide) rfl ?_
      refine nw_iinc (pc := 104) (v := (x9 + (1 : Int32))) (lv' := [(9, .int (x9 + (1 : Int32))), (6, .long (x6 * (16 : Int64))), (4, .long ((x4 * (16 : Int64)) + (nw_gL s_78 36 x2.toNatClampNeg))), (0, .ref (P.2.1 0)), (1, .int x1), (2, .int x2), (3, .int x3), (8, .int x8)]) h dX4_hoarse_104 (j := 7) rfl rfl (by decide) rfl ?_
      refine nw_goto (pc := 107) (tgt := 69) h dX4_hoarse_107 (by decide) ?_
      refine nw_sub (lv' := [(0, .ref (P.2.1 0)), (1, .int x1), (2, .int x2), (3, .int x3), (4, .long ((x4 * (16 : Int64)) + (nw_gL s_78 36 x2.toNatClampNeg))), (6, .long (x6 * (16 : Int64))), (8, .int x8), (9, .int (x9 + (1 : Int32)))]) [3, 4, 5, 6, 2, 1, 7, 0] rfl ?_
      exact hH_69 _ _ _ _ _ _ _ _ (hf)
  have hL_69 :  ∀ (n : Nat) (σ : nw_ST) (x1 : Int32) (x2 : Int32) (x3 : Int32) (x4 : Int64) (x6 : Int64) (x8 : Int32) (x9 : Int32), f4_hoarse_69 K n σ x1 x2 x3 x4 x6 x8 x9 → nw_G P X 10 σ [(0, .ref (P.2.1 0)), (1, .int x1), (2, .int x2), (3, .int x3), (4, .long x4), (6, .long x6), (8, .int x8), (9, .int x9)] 69 [] := by
    intro n
    induction n with
    | zero => intro σ x1 x2 x3 x4 x6 x8 x9 hf; exact False.elim hf
    | succ n ih => exact hB_69 _ ih
  unfold f4_hoarse at hf
  refine nw_iload_n (pc := 0) h dX4_hoarse_0 rfl 1 rfl ?_
  refine nw_iconst (pc := 1) (v := 0) h dX4_hoarse_1 (by decide) ?_
  refine nw_bipush (pc := 2) (v := 16) h dX4_hoarse_2 (by decide) ?_
  refine klX4_109 (pc := 4) h (by rw [hR]; decide) (Nat.le_of_ble_eq_true rfl) dX4_hoarse_4 ?_
  refine nw_if_eq (pc := 7) (tgt := 28) h dX4_hoarse_7 (by decide) (fun c_7 => ?_) (fun c_7 => ?_)
  · have hf := hf.1 c_7
    refine nw_sub (lv' := []) [] rfl ?_
    exact hL_28 _ (hf)
  · have hf := hf.2 c_7
    refine nw_iload_n (pc := 10) h dX4_hoarse_10 rfl 2 rfl ?_
    refine nw_iconst (pc := 11) (v := 1) h dX4_hoarse_11 (by decide) ?_
    refine nw_bipush (pc := 12) (v := 12) h dX4_hoarse_12 (by decide) ?_
    refine klX4_109 (pc := 14) h (by rw [hR]; decide) (Nat.le_of_ble_eq_true rfl) dX4_hoarse_14 ?_
    refine nw_if_eq (pc := 17) (tgt := 28) h dX4_hoarse_17 (by decide) (fun c_17 => ?_) (fun c_17 => ?_)
    · have hf := hf.1 c_17
      refine nw_sub (lv' := []) [] rfl ?_
      exact hL_28 _ (hf)
    · have hf := hf.2 c_17
      refine nw_iload_n (pc := 20) h dX4_hoarse_20 rfl 3 rfl ?_
      refine nw_iconst (pc := 21) (v := 2) h dX4_hoarse_21 (by decide) ?_
      refine klX4_84 (pc := 22) h (by rw [hR]; decide) (Nat.le_of_ble_eq_true rfl) dX4_hoarse_22 ?_
      refine nw_if_ne (pc := 25) (tgt := 32) h dX4_hoarse_25 (by decide) (fun c_25 => ?_) (fun c_25 => ?_)
      · have hf := hf.2 c_25
        refine nw_aload_n (pc := 32) h dX4_hoarse_32 rfl 0 rfl ?_
        refine gf4_69 (pc := 33) (r := 36) h rfl rfl dX4_hoarse_33 ?_
        refine nw_lconst (pc := 36) (vl := 0) h dX4_hoarse_36 (by decide) ?_
        refine klX4_230 (pc := 37) h (by rw [hR]; decide) rfl hf (Nat.le_of_ble_eq_true rfl) dX4_hoarse_37 (fun s_37 hf => ?_)
        refine nw_aload_n (pc := 40) h dX4_hoarse_40 rfl 0 rfl ?_
        refine gf4_69 (pc := 41) (r := 36) h rfl rfl dX4_hoarse_41 ?_
        refine nw_iconst (pc := 44) (v := 0) h dX4_hoarse_44 (by decide) ?_
        refine nw_lconst (pc := 45) (vl := 1) h dX4_hoarse_45 (by decide) ?_
        obtain ⟨h_46, hf⟩ := hf
        refine nw_last (pc := 46) (n := 13) h rfl rfl h_46 dX4_hoarse_46 ?_
        refine nw_lconst (pc := 47) (vl := 0) h dX4_hoarse_47 (by decide) ?_
        refine nw_lstore (pc := 48) (lv' := [(4, .long (0 : Int64)), (0, .ref (P.2.1 0)), (1, .int a1), (2, .int a2), (3, .int a3)]) h dX4_hoarse_48 (by decide) rfl ?_
        refine nw_lconst (pc := 50) (vl := 1) h dX4_hoarse_50 (by decide) ?_
        refine nw_lstore (pc := 51) (lv' := [(6, .long (1 : Int64)), (4, .long (0 : Int64)), (0, .ref (P.2.1 0)), (1, .int a1), (2, .int a2), (3, .int a3)]) h dX4_hoarse_51 (by decide) rfl ?_
        refine nw_iload_n (pc := 53) h dX4_hoarse_53 rfl 4 rfl ?_
        refine nw_aload_n (pc := 54) h dX4_hoarse_54 rfl 2 rfl ?_
        refine klX4_140 (pc := 55) h (by rw [hR]; decide) hf (Nat.le_of_ble_eq_true rfl) dX4_hoarse_55 (fun r_55 s_55 hcr hf => ?_)
        obtain rfl := nw_q3 hcr
        refine gf4_236 (pc := 58) h rfl dX4_hoarse_58 ?_
        refine nw_mmin (pc := 61) h nw_w192 nw_w193 nw_w146 nw_w194 (by rw [hR]; decide) (by rw [hR]; exact Nat.le_of_ble_eq_true rfl) dX4_hoarse_61 ?_
        refine nw_istore (pc := 64) (lv' := [(8, .int (if (nw_gS s_55 19 6) < a2 then (nw_gS s_55 19 6) else a2)), (6, .long (1 : Int64)), (4, .long (0 : Int64)), (0, .ref (P.2.1 0)), (1, .int a1), (2, .int a2), (3, .int a3)]) h dX4_hoarse_64 (by decide) rfl ?_
        refine nw_iconst (pc := 66) (v := 0) h dX4_hoarse_66 (by decide) ?_
        refine nw_istore (pc := 67) (lv' := [(9, .int (0 : Int32)), (8, .int (if (nw_gS s_55 19 6) < a2 then (nw_gS s_55 19 6) else a2)), (6, .long (1 : Int64)), (4, .long (0 : Int64)), (0, .ref (P.2.1 0)), (1, .int a1), (2, .int a2), (3, .int a3)]) h dX4_hoarse_67 (by decide) rfl ?_
        obtain ⟨n_69, hf⟩ := hf
        refine nw_sub (lv' := [(0, .ref (P.2.1 0)), (1, .int a1), (2, .int a2), (3, .int a3), (4, .long (0 : Int64)), (6, .long (1 : Int64)), (8, .int (if (nw_gS s_55 19 6) < a2 then (nw_gS s_55 19 6) else a2)), (9, .int (0 : Int32))]) [4, 5, 6, 7, 3, 2, 1, 0] rfl ?_
        exact hL_69 n_69 _ _ _ _ _ _ _ _ hf
      · have hf := hf.1 c_25
        refine nw_sub (lv' := []) [] rfl ?_
        exact hL_28 _ (hf)
