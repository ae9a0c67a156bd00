theorem gf5_58 {P : nw_PT} {X : nw_EX} {cc : ByteArray} {nL : Nat} {σ : nw_ST} {lv : List (Nat × Value)} {pc : Nat} {st : List Value} {q : Nat} (h : nw_ok P X cc RX5 nL) (hq : nw_cl q = 5) {r : Nat} (hr : nw_rf q 27 = r) (hd : decode cc pc = .ok (.getfield 58, 3)) (k : nw_G P X nL σ lv (pc + 3) (.ref (P.2.1 r) :: st)) : nw_G P X nL σ lv pc (.ref (P.2.1 q) :: st) := by
  subst hr; intro H locs ls h1 h2 h3
  exact va_get (D := P.1) (ci := 5) (C := RX5) (T := TX5) (N := 38) h.1.1 h.1.2.1 h.1.2.2.2.2 in_T5 h.1.2.2.2.1 h.2.1.1 h1 q (nw_at5 hq) rfl 27 (by decide) (h.1.2.2.2.2 _ nw_w514) (fun _ z => z) rfl hd (k H locs ls h1 h2 h3)
def f5_runOf_167 (K : Int32 → nw_ST → Prop) (σ : nw_ST) (y0 : Int32) : Prop := (K y0 σ)
def f5_runOf_149 (K : Int32 → nw_ST → Prop) (H_61 : nw_ST → Int32 → Int32 → Int32 → Int32 → Int32 → Prop) (σ : nw_ST) (x1 : Int32) (x2 : Int32) (x3 : Int32) (x5 : Int32) (y0 : Int32) : Prop := (H_61 σ x1 x2 x3 y0 (x5 + (1 : Int32)))
def f5_runOf_134 (K : Int32 → nw_ST → Prop) (H_61 : nw_ST → Int32 → Int32 → Int32 → Int32 → Int32 → Prop) (σ : nw_ST) (x1 : Int32) (x2 : Int32) (x4 : Int32) (x5 : Int32) (x6 : Int32) (y0 : Int32) : Prop := (f5_runOf_149 K H_61 σ x1 x2 y0 x5 (if (x6 ≤ x4) then x4 else x6))
def f5_runOf_112 (K : Int32 → nw_ST → Prop) (H_61 : nw_ST → Int32 → Int32 → Int32 → Int32 → Int32 → Prop) (H_81 : nw_ST → Int32 → Int32 → Int32 → Int32 → Int32 → Int32 → Int32 → Prop) (σ : nw_ST) (x1 : Int32) (x2 : Int32) (x3 : Int32) (x4 : Int32) (x5 : Int32) (x7 : Int32) (y0 : Int32) (y1 : Int32) : Prop := (H_81 σ x1 x2 x3 x4 x5 (y1 + y0) (x7 + (1 : Int32)))
def b5_runOf_81 (K : Int32 → nw_ST → Prop) (H_61 : nw_ST → Int32 → Int32 → Int32 → Int32 → Int32 → Prop) (H_81 : nw_ST → Int32 → Int32 → Int32 → Int32 → Int32 → Int32 → Int32 → Prop) (σ : nw_ST) (x1 : Int32) (x2 : Int32) (x3 : Int32) (x4 : Int32) (x5 : Int32) (x6 : Int32) (x7 : Int32) : Prop := ((((x5 + x1) ≤ x7) → (f5_runOf_134 K H_61 σ x1 x2 x4 x5 x6 (if (x6 ≤ x4) then x3 else x5))) ∧ (¬ ((x5 + x1) ≤ x7) → ((vp_in x7 401) ∧ ((((nw_gA σ 54 x7.toNatClampNeg) = 0) → (f5_runOf_112 K H_61 H_81 σ x1 x2 x3 x4 x5 x7 (0 : Int32) x6)) ∧ (¬ ((nw_gA σ 54 x7.toNatClampNeg) = 0) → (f5_bringsNow (fun (r_105 : Int32) (s_105 : nw_ST) => (f5_runOf_112 K H_61 H_81 s_105 x1 x2 x3 x4 x5 x7 r_105 x6)) σ x7))))))
def f5_runOf_81 (K : Int32 → nw_ST → Prop) (H_61 : nw_ST → Int32 → Int32 → Int32 → Int32 → Int32 → Prop) : Nat → nw_ST → Int32 → Int32 → Int32 → Int32 → Int32 → Int32 → Int32 → Prop
  | 0 => fun _ _ _ _ _ _ _ _ => False
  | n + 1 => b5_runOf_81 K H_61 (f5_runOf_81 K H_61 n)
def b5_runOf_61 (K : Int32 → nw_ST → Prop) (H_61 : nw_ST → Int32 → Int32 → Int32 → Int32 → Int32 → Prop) (σ : nw_ST) (x1 : Int32) (x2 : Int32) (x3 : Int32) (x4 : Int32) (x5 : Int32) : Prop := ((((nw_gS σ 37 26) < ((x5 + x1) - (1 : Int32))) → (f5_runOf_167 K σ (if (x2 = 0) then x3 else x4))) ∧ (¬ ((nw_gS σ 37 26) < ((x5 + x1) - (1 : Int32))) → (∃ n, f5_runOf_81 K H_61 n σ x1 x2 x3 x4 x5 (0 : Int32) x5)))
def f5_runOf_61 (K : Int32 → nw_ST → Prop) : Nat → nw_ST → Int32 → Int32 → Int32 → Int32 → Int32 → Prop
  | 0 => fun _ _ _ _ _ _ => False
  | n + 1 => b5_runOf_61 K (f5_runOf_61 K n)
def b5_runOf_28 (K : Int32 → nw_ST → Prop) (H_28 : nw_ST → Int32 → Int32 → Int32 → Prop) (σ : nw_ST) (x1 : Int32) (x2 : Int32) (x3 : Int32) : Prop := ((((240 : Int32) ≤ x3) → (∃ n, f5_runOf_61 K n σ x1 x2 (-1 : Int32) (-1 : Int32) (1 : Int32))) ∧ (¬ ((240 : Int32) ≤ x3) → ((vp_in x3 240) ∧ ((vp_in (nw_gA σ 53 x3.toNatClampNeg) 401) ∧ (H_28 (nw_sA σ 54 (nw_gA σ 53 x3.toNatClampNeg).toNatClampNeg (1 : Int32)) x1 x2 (x3 + (1 : Int32)))))))
def f5_runOf_28 (K : Int32 → nw_ST → Prop) : Nat → nw_ST → Int32 → Int32 → Int32 → Prop
  | 0 => fun _ _ _ _ => False
  | n + 1 => b5_runOf_28 K (f5_runOf_28 K n)
def b5_runOf_6 (K : Int32 → nw_ST → Prop) (H_6 : nw_ST → Int32 → Int32 → Int32 → Prop) (σ : nw_ST) (x1 : Int32) (x2 : Int32) (x3 : Int32) : Prop := ((((401 : Int32) ≤ x3) → (∃ n, f5_runOf_28 K n σ x1 x2 (0 : Int32))) ∧ (¬ ((401 : Int32) ≤ x3) → ((vp_in x3 401) ∧ (H_6 (nw_sA σ 54 x3.toNatClampNeg (0 : Int32)) x1 x2 (x3 + (1 : Int32))))))
def f5_runOf_6 (K : Int32 → nw_ST → Prop) : Nat → nw_ST → Int32 → Int32 → Int32 → Prop
  | 0 => fun _ _ _ _ => False
  | n + 1 => b5_runOf_6 K (f5_runOf_6 K n)
def f5_runOf (K : Int32 → nw_ST → Prop) (σ : nw_ST) (a1 : Int32) (a2 : Int32) : Prop := (f5_laysTold (fun (s_1 : nw_ST) => (∃ n, f5_runOf_6 K n s_1 a1 a2 (0 : Int32))) σ)
def rm5_runOf : Room := { frames := 8, cells := 0, slots := 0, locals := 180 }
theorem yd5_runOf : yX5_runOf.cls = RX5 ∧ yX5_runOf.cls ≠ "java/lang/invoke/MethodHandle" ∧ yX5_runOf.cls ≠ "java/lang/invoke/VarHandle" ∧ (parseMethodDescriptor yX5_runOf.desc).map (fun d => d.parameters.length) = some 2 := by decide +kernel
set_option maxHeartbeats 4000000 in
set_option maxRecDepth 100000 in
theorem ct5_runOf (l : Launch) (P : nw_PT) (hD : nw_D P) (σ : nw_ST) (a1 : Int32) (a2 : Int32)  (K : Int32 → nw_ST → Prop) (hf : f5_runOf K σ a1 a2) : nw_MT l yX5_runOf cX5_runOf 8 (some .int) rm5_runOf P [.ref (P.2.1 37), .int a1, .int a2] σ (nw_Ki K) := by
  refine nw_enter (by decide) (by first | decide | exact Nat.le_of_ble_eq_true rfl) hD ?_
  intro X hl h he hR
  subst hl
  have h : nw_ok P X cX5_runOf RX5 8 := h
  show nw_G P X 8 σ [(0, .ref (P.2.1 37)), (1, .int a1), (2, .int a2)] 0 []
  have hL_167 :  ∀ (σ : nw_ST) (y0 : Int32), f5_runOf_167 K σ y0 → nw_G P X 8 σ [] 167 [.int y0] := by
    intro σ y0 hf
    unfold f5_runOf_167 at hf
    exact nw_iret (pc := 167) h he dX5_runOf_167 ⟨_, rfl, hf⟩
  have hL_149 : ∀ (H_61 : nw_ST → Int32 → Int32 → Int32 → Int32 → Int32 → Prop) (hH_61 : (∀ (σ : nw_ST) (x1 : Int32) (x2 : Int32) (x3 : Int32) (x4 : Int32) (x5 : Int32), H_61 σ x1 x2 x3 x4 x5 → nw_G P X 8 σ [(0, .ref (P.2.1 37)), (1, .int x1), (2, .int x2), (3, .int x3), (4, .int x4), (5, .int x5)] 61 [])), ∀ (σ : nw_ST) (x1 : Int32) (x2 : Int32) (x3 : Int32) (x5 : Int32) (y0 : Int32), f5_runOf_149 K H_61 σ x1 x2 x3 x5 y0 → nw_G P X 8 σ [(0, .ref (P.2.1 37)), (1, .int x1), (2, .int x2), (3, .int x3), (5, .int x5)] 149 [.int y0] := by
    intro H_61 hH_61 σ x1 x2 x3 x5 y0 hf
    unfold f5_runOf_149 at hf
    refine nw_istore (pc := 149) (lv' := [(4, .int y0), (0, .ref (P.2.1 37)), (1, .int x1), (2, .int x2), (3, .int x3), (5, .int x5)]) h dX5_runOf_149 (by decide) rfl ?_
    refine nw_iinc (pc := 151) (v := (x5 + (1 : Int32))) (lv' := [(5, .int (x5 + (1 : Int32))), (4, .int y0), (0, .ref (P.2.1 37)), (1, .int x1), (2, .int x2), (3, .int x3)]) h dX5_runOf_151 (j := 5) rfl rfl (by decide) rfl ?_
    refine nw_goto (pc := 154) (tgt := 61) h dX5_runOf_154 (by decide) ?_
    refine nw_sub (lv' := [(0, .ref (P.2.1 37)), (1, .int x1), (2, .int x2), (3, .int x3), (4, .int y0), (5, .int (x5 + (1 : Int32)))]) [2, 3, 4, 5, 1, 0] rfl ?_
    exact hH_61 _ _ _ _ _ _ (hf)
  have hL_134 : ∀ (H_61 : nw_ST → Int32 → Int32 → Int32 → Int32 → Int32 → Prop) (hH_61 : (∀ (σ : nw_ST) (x1 : Int32) (x2 : Int32) (x3 : Int32) (x4 : Int32) (x5 : Int32), H_61 σ x1 x2 x3 x4 x5 → nw_G P X 8 σ [(0, .ref (P.2.1 37)), (1, .int x1), (2, .int x2), (3, .int x3), (4, .int x4), (5, .int x5)] 61 [])), ∀ (σ : nw_ST) (x1 : Int32) (x2 : Int32) (x4 : Int32) (x5 : Int32) (x6 : Int32) (y0 : Int32), f5_runOf_134 K H_61 σ x1 x2 x4 x5 x6 y0 → nw_G P X 8 σ [(0, .ref (P.2.1 37)), (1, .int x1), (2, .int x2), (4, .int x4), (5, .int x5), (6, .int x6)] 134 [.int y0] := by
    intro H_61 hH_61 σ x1 x2 x4 x5 x6 y0 hf
    unfold f5_runOf_134 at hf
    refine nw_istore_n (pc := 134) (lv' := [(3, .int y0), (0, .ref (P.2.1 37)), (1, .int x1), (2, .int x2), (4, .int x4), (5, .int x5), (6, .int x6)]) h dX5_runOf_134 rfl (by decide) rfl ?_
    refine nw_iload (pc := 135) h dX5_runOf_135 6 rfl ?_
    refine nw_iload (pc := 137) h dX5_runOf_137 4 rfl ?_
    refine nw_icmp_le (pc := 139) (tgt := 147) h dX5_runOf_139 (by decide) (fun c_139 => ?_) (fun c_139 => ?_)
    · skip
      refine nw_iload (pc := 147) h dX5_runOf_147 4 rfl ?_
      simp only [if_pos c_139] at hf
      refine nw_sub (lv' := [(0, .ref (P.2.1 37)), (1, .int x1), (2, .int x2), (3, .int y0), (5, .int x5)]) [1, 2, 3, 0, 5] rfl ?_
      exact hL_149 H_61 hH_61 _ _ _ _ _ _ hf
    · skip
      refine nw_iload (pc := 142) h dX5_runOf_142 6 rfl ?_
      refine nw_goto (pc := 144) (tgt := 149) h dX5_runOf_144 (by decide) ?_
      simp only [if_neg c_139] at hf
      refine nw_sub (lv' := [(0, .ref (P.2.1 37)), (1, .int x1), (2, .int x2), (3, .int y0), (5, .int x5)]) [1, 2, 3, 0, 5] rfl ?_
      exact hL_149 H_61 hH_61 _ _ _ _ _ _ hf
  have hL_112 : ∀ (H_61 : nw_ST → Int32 → Int32 → Int32 → Int32 → Int32 → Prop) (hH_61 : (∀ (σ : nw_ST) (x1 : Int32) (x2 : Int32) (x3 : Int32) (x4 : Int32) (x5 : Int32), H_61 σ x1 x2 x3 x4 x5 → nw_G P X 8 σ [(0, .ref (P.2.1 37)), (1, .int x1), (2, .int x2), (3, .int x3), (4, .int x4), (5, .int x5)] 61 [])) (H_81 : nw_ST → Int32 → Int32 → Int32 → Int32 → Int32 → Int32 → Int32 → Prop) (hH_81 : (∀ (σ : nw_ST) (x1 : Int32) (x2 : Int32) (x3 : Int32) (x4 : Int32) (x5 : Int32) (x6 : Int32) (x7 : Int32), H_81 σ x1 x2 x3 x4 x5 x6 x7 → nw_G P X 8 σ [(0, .ref (P.2.1 37)), (1, .int x1), (2, .int x2), (3, .int x3), (4, .int x4), (5, .int x5), (6, .int x6), (7, .int x7)] 81 [])), ∀ (σ : nw_ST) (x1 : Int32) (x2 : Int32) (x3 : Int32) (x4 : Int32) (x5 : Int32) (x7 : Int32) (y0 : Int32) (y1 : Int32), f5_runOf_112 K H_61 H_81 σ x1 x2 x3 x4 x5 x7 y0 y1 → nw_G P X 8 σ [(0, .ref (P.2.1 37)), (1, .int x1), (2, .int x2), (3, .int x3), (4, .int x4), (5, .int x5), (7, .int x7)] 112 [.int y0, .int y1] := by
    intro H_61 hH_61 H_81 hH_81 σ x1 x2 x3 x4 x5 x7 y0 y1 hf
    unfold f5_runOf_112 at hf
    refine nw_iadd (pc := 112) h dX5_runOf_112 ?_
    refine nw_istore (pc := 113) (lv' := [(6, .int (y1 + y0)), (0, .ref (P.2.1 37)), (1, .int x1), (2, .int x2), (3, .int x3), (4, .int x4), (5, .int x5), (7, .int x7)]) h dX5_runOf_113 (by decide) rfl ?_
    refine nw_iinc (pc := 115) (v := (x7 + (1 : Int32))) (lv' := [(7, .int (x7 + (1 : Int32))), (6, .int (y1 + y0)), (0, .ref (P.2.1 37)), (1, .int x1), (2, .int x2), (3, .int x3), (4, .int x4), (5, .int x5)]) h dX5_runOf_115 (j := 7) rfl rfl (by decide) rfl ?_
    refine nw_goto (pc := 118) (tgt := 81) h dX5_runOf_118 (by decide) ?_
    refine nw_sub (lv' := [(0, .ref (P.2.1 37)), (1, .int x1), (2, .int x2), (3, .int x3), (4, .int x4), (5, .int x5), (6, .int (y1 + y0)), (7, .int (x7 + (1 : Int32)))]) [2, 3, 4, 5, 6, 7, 1, 0] rfl ?_
    exact hH_81 _ _ _ _ _ _ _ _ (hf)
  have hB_81 : ∀ (H_61 : nw_ST → Int32 → Int32 → Int32 → Int32 → Int32 → Prop) (hH_61 : (∀ (σ : nw_ST) (x1 : Int32) (x2 : Int32) (x3 : Int32) (x4 : Int32) (x5 : Int32), H_61 σ x1 x2 x3 x4 x5 → nw_G P X 8 σ [(0, .ref (P.2.1 37)), (1, .int x1), (2, .int x2), (3, .int x3), (4, .int x4), (5, .int x5)] 61 [])) (H_81 : nw_ST → Int32 → Int32 → Int32 → Int32 → Int32 → Int32 → Int32 → Prop) (hH_81 : (∀ (σ : nw_ST) (x1 : Int32) (x2 : Int32) (x3 : Int32) (x4 : Int32) (x5 : Int32) (x6 : Int32) (x7 : Int32), H_81 σ x1 x2 x3 x4 x5 x6 x7 → nw_G P X 8 σ [(0, .ref (P.2.1 37)), (1, .int x1), (2, .int x2), (3, .int x3), (4, .int x4), (5, .int x5), (6, .int x6), (7, .int x7)] 81 [])), ∀ (σ : nw_ST) (x1 : Int32) (x2 : Int32) (x3 : Int32) (x4 : Int32) (x5 : Int32) (x6 : Int32) (x7 : Int32), b5_runOf_81 K H_61 H_81 σ x1 x2 x3 x4 x5 x6 x7 → nw_G P X 8 σ [(0, .ref (P.2.1 37)), (1, .int x1), (2, .int x2), (3, .int x3), (4, .int x4), (5, .int x5), (6, .int x6), (7, .int x7)] 81 [] := by
    intro H_61 hH_61 H_81 hH_81 σ x1 x2 x3 x4 x5 x6 x7 hf
    unfold b5_runOf_81 at hf
    refine nw_iload (pc := 81) h dX5_runOf_81 7 rfl ?_
    refine nw_iload (pc := 83) h dX5_runOf_83 5 rfl ?_
    refine nw_iload_n (pc := 85) h dX5_runOf_85 rfl 1 rfl ?_
    refine nw_iadd (pc := 86) h dX5_runOf_86 ?_
    refine nw_icmp_ge (pc := 87) (tgt := 121) h dX5_runOf_87 (by decide) (fun c_87 => ?_) (fun c_87 => ?_)
    · have hf := hf.1 c_87
      refine nw_iload (pc := 121) h dX5_runOf_121 6 rfl ?_
      refine nw_iload (pc := 123) h dX5_runOf_123 4 rfl ?_
      refine nw_icmp_le (pc := 125) (tgt := 133) h dX5_runOf_125 (by decide) (fun c_125 => ?_) (fun c_125 => ?_)
      · skip
        refine nw_iload_n (pc := 133) h dX5_runOf_133 rfl 3 rfl ?_
        simp only [if_pos c_125] at hf
        refine nw_sub (lv' := [(0, .ref (P.2.1 37)), (1, .int x1), (2, .int x2), (4, .int x4), (5, .int x5), (6, .int x6)]) [0, 1, 2, 4, 5, 6] rfl ?_
        exact hL_134 H_61 hH_61 _ _ _ _ _ _ _ hf
      · skip
        refine nw_iload (pc := 128) h dX5_runOf_128 5 rfl ?_
        refine nw_goto (pc := 130) (tgt := 134) h dX5_runOf_130 (by decide) ?_
        simp only [if_neg c_125] at hf
        refine nw_sub (lv' := [(0, .ref (P.2.1 37)), (1, .int x1), (2, .int x2), (4, .int x4), (5, .int x5), (6, .int x6)]) [0, 1, 2, 4, 5, 6] rfl ?_
        exact hL_134 H_61 hH_61 _ _ _ _ _ _ _ hf
    · have hf := hf.2 c_87
      refine nw_iload (pc := 90) h dX5_runOf_90 6 rfl ?_
      refine nw_aload_n (pc := 92) h dX5_runOf_92 rfl 0 rfl ?_
      refine gf5_58 (pc := 93) (r := 54) h rfl rfl dX5_runOf_93 ?_
      refine nw_iload (pc := 96) h dX5_runOf_96 7 rfl ?_
      obtain ⟨h_98, hf⟩ := hf
      refine nw_zald (pc := 98) (n := 401) h rfl rfl h_98 dX5_runOf_98 ?_
      refine nw_if_eq (pc := 99) (tgt := 111) h dX5_runOf_99 (by decide) (fun c_99 => ?_) (fun c_99 => ?_)
      · have hf := hf.1 c_99
        refine nw_iconst (pc := 111) (v := 0) h dX5_runOf_111 (by decide) ?_
        refine nw_sub (lv' := [(0, .ref (P.2.1 37)), (1, .int x1), (2, .int x2), (3, .int x3), (4, .int x4), (5, .int x5), (7, .int x7)]) [0, 1, 2, 3, 4, 5, 7] rfl ?_
        exact hL_112 H_61 hH_61 H_81 hH_81 _ _ _ _ _ _ _ _ _ (hf)
      · have hf := hf.2 c_99
        refine nw_aload_n (pc := 102) h dX5_runOf_102 rfl 0 rfl ?_
        refine nw_iload (pc := 103) h dX5_runOf_103 7 rfl ?_
        refine klX5_216 (pc := 105) h (by rw [hR]; decide) hf (Nat.le_of_ble_eq_true rfl) dX5_runOf_105 (fun r_105 s_105 hf => ?_)
        refine nw_goto (pc := 108) (tgt := 112) h dX5_runOf_108 (by decide) ?_
        refine nw_sub (lv' := [(0, .ref (P.2.1 37)), (1, .int x1), (2, .int x2), (3, .int x3), (4, .int x4), (5, .int x5), (7, .int x7)]) [0, 1, 2, 3, 4, 5, 7] rfl ?_
        exact hL_112 H_61 hH_61 H_81 hH_81 _ _ _ _ _ _ _ _ _ (hf)
  have hL_81 : ∀ (H_61 : nw_ST → Int32 → Int32 → Int32 → Int32 → Int32 → Prop) (hH_61 : (∀ (σ : nw_ST) (x1 : Int32) (x2 : Int32) (x3 : Int32) (x4 : Int32) (x5 : Int32), H_61 σ x1 x2 x3 x4 x5 → nw_G P X 8 σ [(0, .ref (P.2.1 37)), (1, .int x1), (2, .int x2), (3, .int x3), (4, .int x4), (5, .int x5)] 61 [])), ∀ (n : Nat) (σ : nw_ST) (x1 : Int32) (x2 : Int32) (x3 : Int32) (x4 : Int32) (x5 : Int32) (x6 : Int32) (x7 : Int32), f5_runOf_81 K H_61 n σ x1 x2 x3 x4 x5 x6 x7 → nw_G P X 8 σ [(0, .ref (P.2.1 37)), (1, .int x1), (2, .int x2), (3, .int x3), (4, .int x4), (5, .int x5), (6, .int x6), (7, .int x7)] 81 [] := by
    intro H_61 hH_61 n
    induction n with
    | zero => intro σ x1 x2 x3 x4 x5 x6 x7 hf; exact False.elim hf
    | succ n ih => exact hB_81 H_61 hH_61 _ ih
  have hB_61 : ∀ (H_61 : nw_ST → Int32 → Int32 → Int32 → Int32 → Int32 → Prop) (hH_61 : (∀ (σ : nw_ST) (x1 : Int32) (x2 : Int32) (x3 : Int32) (x4 : Int32) (x5 : Int32), H_61 σ x1 x2 x3 x4 x5 → nw_G P X 8 σ [(0, .ref (P.2.1 37)), (1, .int x1), (2, .int x2), (3, .int x3), (4, .int x4), (5, .int x5)] 61 [])), ∀ (σ : nw_ST) (x1 : Int32) (x2 : Int32) (x3 : Int32) (x4 : Int32) (x5 : Int32), b5_runOf_61 K H_61 σ x1 x2 x3 x4 x5 → nw_G P X 8 σ [(0, .ref (P.2.1 37)), (1, .int x1), (2, .int x2), (3, .int x3), (4, .int x4), (5, .int x5)] 61 [] := by
    intro H_61 hH_61 σ x1 x2 x3 x4 x5 hf
    unfold b5_runOf_61 at hf
    refine nw_iload (pc := 61) h dX5_runOf_61 5 rfl ?_
    refine nw_iload_n (pc := 63) h dX5_runOf_63 rfl 1 rfl ?_
    refine nw_iadd (pc := 64) h dX5_runOf_64 ?_
    refine nw_iconst (pc := 65) (v := 1) h dX5_runOf_65 (by decide) ?_
    refine nw_isub (pc := 66) h dX5_runOf_66 ?_
    refine nw_aload_n (pc := 67) h dX5_runOf_67 rfl 0 rfl ?_
    refine gf5_176 (pc := 68) h rfl dX5_runOf_68 ?_
    refine nw_icmp_gt (pc := 71) (tgt := 157) h dX5_runOf_71 (by decide) (fun c_71 => ?_) (fun c_71 => ?_)
    · have hf := hf.1 c_71
      refine nw_iload_n (pc := 157) h dX5_runOf_157 rfl 2 rfl ?_
      refine nw_if_ne (pc := 158) (tgt := 165) h dX5_runOf_158 (by decide) (fun c_158 => ?_) (fun c_158 => ?_)
      · skip
        refine nw_iload (pc := 165) h dX5_runOf_165 4 rfl ?_
        simp only [if_neg c_158] at hf
        refine nw_sub (lv' := []) [] rfl ?_
        exact hL_167 _ _ hf
      · skip
        refine nw_iload_n (pc := 161) h dX5_runOf_161 rfl 3 rfl ?_
        refine nw_goto (pc := 162) (tgt := 167) h dX5_runOf_162 (by decide) ?_
        simp only [if_pos c_158] at hf
        refine nw_sub (lv' := []) [] rfl ?_
        exact hL_167 _ _ hf
    · have hf := hf.2 c_71
      refine nw_iconst (pc := 74) (v := 0) h dX5_runOf_74 (by decide) ?_
      refine nw_istore (pc := 75) (lv' := [(6, .int (0 : Int32)), (0, .ref (P.2.1 37)), (1, .int x1), (2, .int x2), (3, .int x3), (4, .int x4), (5, .int x5)]) h dX5_runOf_75 (by decide) rfl ?_
      refine nw_iload (pc := 77) h dX5_runOf_77 6 rfl ?_
      refine nw_istore (pc := 79) (lv' := [(7, .int x5), (6, .int (0 : Int32)), (0, .ref (P.2.1 37)), (1, .int x1), (2, .int x2), (3, .int x3), (4, .int x4), (5, .int x5)]) h dX5_runOf_79 (by decide) rfl ?_
      obtain ⟨n_81, hf⟩ := hf
      refine nw_sub (lv' := [(0, .ref (P.2.1 37)), (1, .int x1), (2, .int x2), (3, .int x3), (4, .int x4), (5, .int x5), (6, .int (0 : Int32)), (7, .int x5)]) [2, 3, 4, 5, 6, 7, 1, 0] rfl ?_
      exact hL_81 H_61 hH_61 n_81 _ _ _ _ _ _ _ _ hf
  have hL_61 :  ∀ (n : Nat) (σ : nw_ST) (x1 : Int32) (x2 : Int32) (x3 : Int32) (x4 : Int32) (x5 : Int32), f5_runOf_61 K n σ x1 x2 x3 x4 x5 → nw_G P X 8 σ [(0, .ref (P.2.1 37)), (1, .int x1), (2, .int x2), (3, .int x3), (4, .int x4), (5, .int x5)] 61 [] := by
    intro n
    induction n with
    | zero => intro σ x1 x2 x3 x4 x5 hf; exact False.elim hf
    | succ n ih => exact hB_61 _ ih
  have hB_28 : ∀ (H_28 : nw_ST → Int32 → Int32 → Int32 → Prop) (hH_28 : (∀ (σ : nw_ST) (x1 : Int32) (x2 : Int32) (x3 : Int32), H_28 σ x1 x2 x3 → nw_G P X 8 σ [(0, .ref (P.2.1 37)), (1, .int x1), (2, .int x2), (3, .int x3)] 28 [])), ∀ (σ : nw_ST) (x1 : Int32) (x2 : Int32) (x3 : Int32), b5_runOf_28 K H_28 σ x1 x2 x3 → nw_G P X 8 σ [(0, .ref (P.2.1 37)), (1, .int x1), (2, .int x2), (3, .int x3)] 28 [] := by
    intro H_28 hH_28 σ x1 x2 x3 hf
    unfold b5_runOf_28 at hf
    refine nw_iload_n (pc := 28) h dX5_runOf_28 rfl 3 rfl ?_
    refine nw_sipush (pc := 29) (v := 240) h dX5_runOf_29 (by decide) ?_
    refine nw_icmp_ge (pc := 32) (tgt := 53) h dX5_runOf_32 (by decide) (fun c_32 => ?_) (fun c_32 => ?_)
    · have hf := hf.1 c_32
      refine nw_iconst (pc := 53) (v := -1) h dX5_runOf_53 (by decide) ?_
      refine nw_istore_n (pc := 54) (lv' := [(3, .int (-1 : Int32)), (0, .ref (P.2.1 37)), (1, .int x1), (2, .int x2)]) h dX5_runOf_54 rfl (by decide) rfl ?_
      refine nw_iconst (pc := 55) (v := -1) h dX5_runOf_55 (by decide) ?_
      refine nw_istore (pc := 56) (lv' := [(4, .int (-1 : Int32)), (3, .int (-1 : Int32)), (0, .ref (P.2.1 37)), (1, .int x1), (2, .int x2)]) h dX5_runOf_56 (by decide) rfl ?_
      refine nw_iconst (pc := 58) (v := 1) h dX5_runOf_58 (by decide) ?_
      refine nw_istore (pc := 59) (lv' := [(5, .int (1 : Int32)), (4, .int (-1 : Int32)), (3, .int (-1 : Int32)), (0, .ref (P.2.1 37)), (1, .int x1), (2, .int x2)]) h dX5_runOf_59 (by decide) rfl ?_
      obtain ⟨n_61, hf⟩ := hf
      refine nw_sub (lv' := [(0, .ref (P.2.1 37)), (1, .int x1), (2, .int x2), (3, .int (-1 : Int32)), (4, .int (-1 : Int32)), (5, .int (1 : Int32))]) [3, 4, 5, 2, 1, 0] rfl ?_
      exact hL_61 n_61 _ _ _ _ _ _ hf
    · have hf := hf.2 c_32
      refine nw_aload_n (pc := 35) h dX5_runOf_35 rfl 0 rfl ?_
      refine gf5_58 (pc := 36) (r := 54) h rfl rfl dX5_runOf_36 ?_
      refine nw_aload_n (pc := 39) h dX5_runOf_39 rfl 0 rfl ?_
      refine gf5_55 (pc := 40) (r := 53) h rfl rfl dX5_runOf_40 ?_
      refine nw_iload_n (pc := 43) h dX5_runOf_43 rfl 3 rfl ?_
      obtain ⟨h_44, hf⟩ := hf
      refine nw_iald (pc := 44) (n := 240) h rfl rfl h_44 dX5_runOf_44 ?_
      refine nw_iconst (pc := 45) (v := 1) h dX5_runOf_45 (by decide) ?_
      obtain ⟨h_46, hf⟩ := hf
      refine nw_zast (pc := 46) (n := 401) h rfl rfl h_46 (by decide) dX5_runOf_46 ?_
      refine nw_iinc (pc := 47) (v := (x3 + (1 : Int32))) (lv' := [(3, .int (x3 + (1 : Int32))), (0, .ref (P.2.1 37)), (1, .int x1), (2, .int x2)]) h dX5_runOf_47 (j := 3) rfl rfl (by decide) rfl ?_
      refine nw_goto (pc := 50) (tgt := 28) h dX5_runOf_50 (by decide) ?_
      refine nw_sub (lv' := [(0, .ref (P.2.1 37)), (1, .int x1), (2, .int x2), (3, .int (x3 + (1 : Int32)))]) [1, 2, 3, 0] rfl ?_
      exact hH_28 _ _ _ _ (hf)
  have hL_28 :  ∀ (n : Nat) (σ : nw_ST) (x1 : Int32) (x2 : Int32) (x3 : Int32), f5_runOf_28 K n σ x1 x2 x3 → nw_G P X 8 σ [(0, .ref (P.2.1 37)), (1, .int x1), (2, .int x2), (3, .int x3)] 28 [] := by
    intro n
    induction n with
    | zero => intro σ x1 x2 x3 hf; exact False.elim hf
    | succ n ih => exact hB_28 _ ih
  have hB_6 : ∀ (H_6 : nw_ST → Int32 → Int32 → Int32 → Prop) (hH_6 : (∀ (σ : nw_ST) (x1 : Int32) (x2 : Int32) (x3 : Int32), H_6 σ x1 x2 x3 → nw_G P X 8 σ [(0, .ref (P.2.1 37)), (1, .int x1), (2, .int x2), (3, .int x3)] 6 [])), ∀ (σ : nw_ST) (x1 : Int32) (x2 : Int32) (x3 : Int32), b5_runOf_6 K H_6 σ x1 x2 x3 → nw_G P X 8 σ [(0, .ref (P.2.1 37)), (1, .int x1), (2, .int x2), (3, .int x3)] 6 [] := by
    intro H_6 hH_6 σ x1 x2 x3 hf
    unfold b5_runOf_6 at hf
    refine nw_iload_n (pc := 6) h dX5_runOf_6 rfl 3 rfl ?_
    refine nw_sipush (pc := 7) (v := 401) h dX5_runOf_7 (by decide) ?_
    refine nw_icmp_ge (pc := 10) (tgt := 26) h dX5_runOf_10 (by decide) (fun c_10 => ?_) (fun c_10 => ?_)
    · have hf := hf.1 c_10
      refine nw_iconst (pc := 26) (v := 0) h dX5_runOf_26 (by decide) ?_
      refine nw_istore_n (pc := 27) (lv' := [(3, .int (0 : Int32)), (0, .ref (P.2.1 37)), (1, .int x1), (2, .int x2)]) h dX5_runOf_27 rfl (by decide) rfl ?_
      obtain ⟨n_28, hf⟩ := hf
      refine nw_sub (lv' := [(0, .ref (P.2.1 37)), (1, .int x1), (2, .int x2), (3, .int (0 : Int32))]) [1, 2, 3, 0] rfl ?_
      exact hL_28 n_28 _ _ _ _ hf
    · have hf := hf.2 c_10
      refine nw_aload_n (pc := 13) h dX5_runOf_13 rfl 0 rfl ?_
      refine gf5_58 (pc := 14) (r := 54) h rfl rfl dX5_runOf_14 ?_
      refine nw_iload_n (pc := 17) h dX5_runOf_17 rfl 3 rfl ?_
      refine nw_iconst (pc := 18) (v := 0) h dX5_runOf_18 (by decide) ?_
      obtain ⟨h_19, hf⟩ := hf
      refine nw_zast (pc := 19) (n := 401) h rfl rfl h_19 (by decide) dX5_runOf_19 ?_
      refine nw_iinc (pc := 20) (v := (x3 + (1 : Int32))) (lv' := [(3, .int (x3 + (1 : Int32))), (0, .ref (P.2.1 37)), (1, .int x1), (2, .int x2)]) h dX5_runOf_20 (j := 3) rfl rfl (by decide) rfl ?_
      refine nw_goto (pc := 23) (tgt := 6) h dX5_runOf_23 (by decide) ?_
      refine nw_sub (lv' := [(0, .ref (P.2.1 37)), (1, .int x1), (2, .int x2), (3, .int (x3 + (1 : Int32)))]) [1, 2, 3, 0] rfl ?_
      exact hH_6 _ _ _ _ (hf)
  have hL_6 :  ∀ (n : Nat) (σ : nw_ST) (x1 : Int32) (x2 : Int32) (x3 : Int32), f5_runOf_6 K n σ x1 x2 x3 → nw_G P X 8 σ [(0, .ref (P.2.1 37)), (1, .int x1), (2, .int x2), (3, .int x3)] 6 [] := by
    intro n
    induction n with
    | zero => intro σ x1 x2 x3 hf; exact False.elim hf
    | succ n ih => exact hB_6 _ ih
  unfold f5_runOf at hf
  refine nw_aload_n (pc := 0) h dX5_runOf_0 rfl 0 rfl ?_
  refine klX5_198 (pc := 1) h (by rw [hR]; decide) hf (Nat.le_of_ble_eq_true rfl) dX5_runOf_1 (fun s_1 hf => ?_)
  refine nw_iconst (pc := 4) (v := 0) h dX5_runOf_4 (by decide) ?_
  refine nw_istore_n (pc := 5) (lv' := [(3, .int (0 : Int32)), (0, .ref (P.2.1 37)), (1, .int a1), (2, .int a2)]) h dX5_runOf_5 rfl (by decide) rfl ?_
  obtain ⟨n_6, hf⟩ := hf
  refine nw_sub (lv' := [(0, .ref (P.2.1 37)), (1, .int a1), (2, .int a2), (3, .int (0 : Int32))]) [1, 2, 3, 0] rfl ?_
  exact hL_6 n_6 _ _ _ _ hf
theorem klX5_241 {P : nw_PT} {X : nw_EX} {cc : ByteArray} {nL : Nat} {σ : nw_ST} {lv : List (Nat × Value)} {pc : Nat} {rest : List Value} {a1 : Int32} {a2 : Int32} (h : nw_ok P X cc RX5 nL) (hR : rm5_runOf.frames + 1 ≤ X.2.2.2.1.frames ∧ 8 + (8 + 11) + rm5_runOf.locals ≤ X.2.2.2.1.locals)  {K : Int32 → nw_ST → Prop} (hf : f5_runOf K σ a1 a2) (hst : (rest.map fun v => v.category).sum ≤ 8) (hd : decode cc pc = .ok (.invokevirtual 241, 3)) (k : ∀ (r : Int32) (s2 : nw_ST), K r s2 → nw_G P X nL s2 lv (pc + 3) (.int r :: rest)) : nw_G P X nL σ lv pc (.int a2 :: .int a1 :: .ref (P.2.1 37) :: rest) :=
  nw_callV (As := [.int a1, .int a2]) (rest := rest) (C := RX5) (ci := 5) h (ct5_runOf _ P h.2.2 σ a1 a2 K hf) (nw_goodV nw_w515 nw_w516 nw_w517 nw_w342 nw_w518) yd5_runOf rfl hR ⟨rfl, rfl⟩ rfl (by decide) rfl rfl hst rfl hd (fun v s2 z => by obtain ⟨r, rfl, z⟩ := z; exact k r s2 z)
def f5_run_30 (K : Int32 → nw_ST → Prop) (σ : nw_ST) (y0 : Int32) : Prop := (K y0 σ)
def f5_run_28 (K : Int32 → nw_ST → Prop) (σ : nw_ST) : Prop := (f5_run_30 K σ (-2 : Int32))
def f5_run (K : Int32 → nw_ST → Prop) (σ : nw_ST) (a1 : Int32) (a2 : Int32) : Prop := ((((v5_in a1 (1 : Int32) (9 : Int32)) = 0) → (f5_run_28 K σ)) ∧ (¬ ((v5_in a1 (1 : Int32) (9 : Int32)) = 0) → ((((v5_in a2 (0 : Int32) (1 : Int32)) = 0) → (f5_run_28 K σ)) ∧ (¬ ((v5_in a2 (0 : Int32) (1 : Int32)) = 0) → (f5_runOf (fun (r_22 : Int32) (s_22 : nw_ST) => (f5_run_30 K s_22 r_22)) σ a1 a2)))))
def rm5_run : Room := { frames := 9, cells := 0, slots := 0, locals := 207 }
theorem yd5_run : yX5_run.cls = RX5 ∧ yX5_run.cls ≠ "java/lang/invoke/MethodHandle" ∧ yX5_run.cls ≠ "java/lang/invoke/VarHandle" ∧ (parseMethodDescriptor yX5_run.desc).map (fun d => d.parameters.length) = some 2 := by decide +kernel
set_option maxHeartbeats 4000000 in
set_option maxRecDepth 100000 in
theorem ct5_run (l : Launch) (P : nw_PT) (hD : nw_D P) (σ : nw_ST) (a1 : Int32) (a2 : Int32)  (K : Int32 → nw_ST → Prop) (hf : f5_run K σ a1 a2) : nw_MT l yX5_run cX5_run 3 (some .int) rm5_run P [.ref (P.2.1 37), .int a1, .int a2] σ (nw_Ki K) := by
  refine nw_enter (by decide) (by first | decide | exact Nat.le_of_ble_eq_true rfl) hD ?_
  intro X hl h he hR
  subst hl
  have h : nw_ok P X cX5_run RX5 3 := h
  show nw_G P X 3 σ [(0, .ref (P.2.1 37)), (1, .int a1), (2, .int a2)] 0 []
  have hL_30 :  ∀ (σ : nw_ST) (y0 : Int32), f5_run_30 K σ y0 → nw_G P X 3 σ [] 30 [.int y0] := by
    intro σ y0 hf
    unfold f5_run_30 at hf
    exact nw_iret (pc := 30) h he dX5_run_30 ⟨_, rfl, hf⟩
  have hL_28 :  ∀ (σ : nw_ST), f5_run_28 K σ → nw_G P X 3 σ [] 28 [] := by
    intro σ hf
    unfold f5_run_28 at hf
    refine nw_bipush (pc := 28) (v := -2) h dX5_run_28 (by decide) ?_
    exact hL_30 _ _ (hf)
  unfold f5_run at hf
  refine nw_iload_n (pc := 0) h dX5_run_0 rfl 1 rfl ?_
  refine nw_iconst (pc := 1) (v := 1) h dX5_run_1 (by decide) ?_
  refine nw_bipush (pc := 2) (v := 9) h dX5_run_2 (by decide) ?_
  refine klX5_89 (pc := 4) h (by rw [hR]; decide) (Nat.le_of_ble_eq_true rfl) dX5_run_4 ?_
  refine nw_if_eq (pc := 7) (tgt := 28) h dX5_run_7 (by decide) (fun c_7 => ?_) (fun c_7 => ?_)
  · have hf := hf.1 c_7
    refine nw_sub (lv' := []) [] rfl ?_
    exact hL_28 _ (hf)
  · have hf := hf.2 c_7
    refine nw_iload_n (pc := 10) h dX5_run_10 rfl 2 rfl ?_
    refine nw_iconst (pc := 11) (v := 0) h dX5_run_11 (by decide) ?_
    refine nw_iconst (pc := 12) (v := 1) h dX5_run_12 (by decide) ?_
    refine klX5_89 (pc := 13) h (by rw [hR]; decide) (Nat.le_of_ble_eq_true rfl) dX5_run_13 ?_
    refine nw_if_eq (pc := 16) (tgt := 28) h dX5_run_16 (by decide) (fun c_16 => ?_) (fun c_16 => ?_)
    · have hf := hf.1 c_16
      refine nw_sub (lv' := []) [] rfl ?_
      exact hL_28 _ (hf)
    · have hf := hf.2 c_16
      refine nw_aload_n (pc := 19) h dX5_run_19 rfl 0 rfl ?_
      refine nw_iload_n (pc := 20) h dX5_run_20 rfl 1 rfl ?_
      refine nw_iload_n (pc := 21) h dX5_run_21 rfl 2 rfl ?_
      refine klX5_241 (pc := 22) h (by rw [hR]; decide) hf (Nat.le_of_ble_eq_true rfl) dX5_run_22 (fun r_22 s_22 hf => ?_)
      refine nw_goto (pc := 25) (tgt := 30) h dX5_run_25 (by decide) ?_
      refine nw_sub (lv' := []) [] rfl ?_
      exact hL_30 _ _ (hf)
def f5_barOf_52 (K : Int32 → nw_ST → Prop) (H_6 : nw_ST → Int32 → Int32 → Prop) (H_17 : nw_ST → Int32 → Int32 → Int32 → Int32 → Prop) (σ : nw_ST) (x1 : Int32) (x2 : Int32) (x4 : Int32) (y0 : Int32) (y1 : Int32) : Prop := (H_17 σ x1 x2 (y1 + y0) (x4 + (1 : Int32)))
def b5_barOf_17 (K : Int32 → nw_ST → Prop) (H_6 : nw_ST → Int32 → Int32 → Prop) (H_17 : nw_ST → Int32 → Int32 → Int32 → Int32 → Prop) (σ : nw_ST) (x1 : Int32) (x2 : Int32) (x3 : Int32) (x4 : Int32) : Prop := ((((240 : Int32) ≤ x4) → (((x1 < x3) → (H_6 σ x1 (x2 + (1 : Int32)))) ∧ (¬ (x1 < x3) → (K x2 σ)))) ∧ (¬ ((240 : Int32) ≤ x4) → ((vp_in x4 240) ∧ (((((nw_gA σ 51 x4.toNatClampNeg) ≤ 0) → True) ∧ (¬ ((nw_gA σ 51 x4.toNatClampNeg) ≤ 0) → (vp_in x4 240))) ∧ (f5_barOf_52 K H_6 H_17 σ x1 x2 x4 (if ((nw_gA σ 51 x4.toNatClampNeg) ≤ 0) then (0 : Int32) else (if ((nw_gA σ 51 x4.toNatClampNeg) < x2) then (0 : Int32) else (1 : Int32))) x3)))))
def f5_barOf_17 (K : Int32 → nw_ST → Prop) (H_6 : nw_ST → Int32 → Int32 → Prop) : Nat → nw_ST → Int32 → Int32 → Int32 → Int32 → Prop
  | 0 => fun _ _ _ _ _ => False
  | n + 1 => b5_barOf_17 K H_6 (f5_barOf_17 K H_6 n)
def b5_barOf_6 (K : Int32 → nw_ST → Prop) (H_6 : nw_ST → Int32 → Int32 → Prop) (σ : nw_ST) (x1 : Int32) (x2 : Int32) : Prop := ((((55 : Int32) ≤ x2) → (K (55 : Int32) σ)) ∧ (¬ ((55 : Int32) ≤ x2) → (∃ n, f5_barOf_17 K H_6 n σ x1 x2 (0 : Int32) (0 : Int32))))
def f5_barOf_6 (K : Int32 → nw_ST → Prop) : Nat → nw_ST → Int32 → Int32 → Prop
  | 0 => fun _ _ _ => False
  | n + 1 => b5_barOf_6 K (f5_barOf_6 K n)
def f5_barOf (K : Int32 → nw_ST → Prop) (σ : nw_ST) (a1 : Int32) : Prop := (f5_laysTold (fun (s_1 : nw_ST) => (∃ n, f5_barOf_6 K n s_1 a1 (0 : Int32))) σ)
def rm5_barOf : Room := { frames := 8, cells := 0, slots := 0, locals := 180 }
theorem yd5_barOf : yX5_barOf.cls = RX5 ∧ yX5_barOf.cls ≠ "java/lang/invoke/MethodHandle" ∧ yX5_barOf.cls ≠ "java/lang/invoke/VarHandle" ∧ (parseMethodDescriptor yX5_barOf.desc).map (fun d => d.parameters.length) = some 1 := by decide +kernel
set_option maxHeartbeats 4000000 in
set_option maxRecDepth 100000 in
theorem ct5_barOf (l : Launch) (P : nw_PT) (hD : nw_D P) (σ : nw_ST) (a1 : Int32)  (K : Int32 → nw_ST → Prop) (hf : f5_barOf K σ a1) : nw_MT l yX5_barOf cX5_barOf 5 (some .int) rm5_barOf P [.ref (P.2.1 37), .int a1] σ (nw_Ki K) := by
  refine nw_enter (by decide) (by first | decide | exact Nat.le_of_ble_eq_true rfl) hD ?_
  intro X hl h he hR
  subst hl
  have h : nw_ok P X cX5_barOf RX5 5 := h
  show nw_G P X 5 σ [(0, .ref (P.2.1 37)), (1, .int a1)] 0 []
  have hL_52 : ∀ (H_6 : nw_ST → Int32 → Int32 → Prop) (hH_6 : (∀ (σ : nw_ST) (x1 : Int32) (x2 : Int32), H_6 σ x1 x2 → nw_G P X 5 σ [(0, .ref (P.2.1 37)), (1, .int x1), (2, .int x2)] 6 [])) (H_17 : nw_ST → Int32 → Int32 → Int32 → Int32 → Prop) (hH_17 : (∀ (σ : nw_ST) (x1 : Int32) (x2 : Int32) (x3 : Int32) (x4 : Int32), H_17 σ x1 x2 x3 x4 → nw_G P X 5 σ [(0, .ref (P.2.1 37)), (1, .int x1), (2, .int x2), (3, .int x3), (4, .int x4)] 17 [])), ∀ (σ : nw_ST) (x1 : Int32) (x2 : Int32) (x4 : Int32) (y0 : Int32) (y1 : Int32), f5_barOf_52 K H_6 H_17 σ x1 x2 x4 y0 y1 → nw_G P X 5 σ [(0, .ref (P.2.1 37)), (1, .int x1), (2, .int x2), (4, .int x4)] 52 [.int y0, .int y1] := by
    intro H_6 hH_6 H_17 hH_17 σ x1 x2 x4 y0 y1 hf
    unfold f5_barOf_52 at hf
    refine nw_iadd (pc := 52) h dX5_barOf_52 ?_
    refine nw_istore_n (pc := 53) (lv' := [(3, .int (y1 + y0)), (0, .ref (P.2.1 37)), (1, .int x1), (2, .int x2), (4, .int x4)]) h dX5_barOf_53 rfl (by decide) rfl ?_
    refine nw_iinc (pc := 54) (v := (x4 + (1 : Int32))) (lv' := [(4, .int (x4 + (1 : Int32))), (3, .int (y1 + y0)), (0, .ref (P.2.1 37)), (1, .int x1), (2, .int x2)]) h dX5_barOf_54 (j := 4) rfl rfl (by decide) rfl ?_
    refine nw_goto (pc := 57) (tgt := 17) h dX5_barOf_57 (by decide) ?_
    refine nw_sub (lv' := [(0, .ref (P.2.1 37)), (1, .int x1), (2, .int x2), (3, .int (y1 + y0)), (4, .int (x4 + (1 : Int32)))]) [2, 3, 4, 1, 0] rfl ?_
    exact hH_17 _ _ _ _ _ (hf)
  have hB_17 : ∀ (H_6 : nw_ST → Int32 → Int32 → Prop) (hH_6 : (∀ (σ : nw_ST) (x1 : Int32) (x2 : Int32), H_6 σ x1 x2 → nw_G P X 5 σ [(0, .ref (P.2.1 37)), (1, .int x1), (2, .int x2)] 6 [])) (H_17 : nw_ST → Int32 → Int32 → Int32 → Int32 → Prop) (hH_17 : (∀ (σ : nw_ST) (x1 : Int32) (x2 : Int32) (x3 : Int32) (x4 : Int32), H_17 σ x1 x2 x3 x4 → nw_G P X 5 σ [(0, .ref (P.2.1 37)), (1, .int x1), (2, .int x2), (3, .int x3), (4, .int x4)] 17 [])), ∀ (σ : nw_ST) (x1 : Int32) (x2 : Int32) (x3 : Int32) (x4 : Int32), b5_barOf_17 K H_6 H_17 σ x1 x2 x3 x4 → nw_G P X 5 σ [(0, .ref (P.2.1 37)), (1, .int x1), (2, .int x2), (3, .int x3), (4, .int x4)] 17 [] := by
    intro H_6 hH_6 H_17 hH_17 σ x1 x2 x3 x4 hf
    unfold b5_barOf_17 at hf
    refine nw_iload (pc := 17) h dX5_barOf_17 4 rfl ?_
    refine nw_sipush (pc := 19) (v := 240) h dX5_barOf_19 (by decide) ?_
    refine nw_icmp_ge (pc := 22) (tgt := 60) h dX5_barOf_22 (by decide) (fun c_22 => ?_) (fun c_22 => ?_)
    · have hf := hf.1 c_22
      refine nw_iload_n (pc := 60) h dX5_barOf_60 rfl 3 rfl ?_
      refine nw_iload_n (pc := 61) h dX5_barOf_61 rfl 1 rfl ?_
      refine nw_icmp_gt (pc := 62) (tgt := 67) h dX5_barOf_62 (by decide) (fun c_62 => ?_) (fun c_62 => ?_)
      · have hf := hf.1 c_62
        refine nw_iinc (pc := 67) (v := (x2 + (1 : Int32))) (lv' := [(2, .int (x2 + (1 : Int32))), (0, .ref (P.2.1 37)), (1, .int x1), (3, .int x3), (4, .int x4)]) h dX5_barOf_67 (j := 2) rfl rfl (by decide) rfl ?_
        refine nw_goto (pc := 70) (tgt := 6) h dX5_barOf_70 (by decide) ?_
        refine nw_sub (lv' := [(0, .ref (P.2.1 37)), (1, .int x1), (2, .int (x2 + (1 : Int32)))]) [1, 2, 0] rfl ?_
        exact hH_6 _ _ _ (hf)
      · have hf := hf.2 c_62
        refine nw_iload_n (pc := 65) h dX5_barOf_65 rfl 2 rfl ?_
        exact nw_iret (pc := 66) h he dX5_barOf_66 ⟨_, rfl, hf⟩
    · have hf := hf.2 c_22
      refine nw_iload_n (pc := 25) h dX5_barOf_25 rfl 3 rfl ?_
      refine nw_aload_n (pc := 26) h dX5_barOf_26 rfl 0 rfl ?_
      refine gf5_49 (pc := 27) (r := 51) h rfl rfl dX5_barOf_27 ?_
      refine nw_iload (pc := 30) h dX5_barOf_30 4 rfl ?_
      obtain ⟨h_32, hf⟩ := hf
      refine nw_iald (pc := 32) (n := 240) h rfl rfl h_32 dX5_barOf_32 ?_
      obtain ⟨ho, hf⟩ := hf
      refine nw_if_le (pc := 33) (tgt := 51) h dX5_barOf_33 (by decide) (fun c_33 => ?_) (fun c_33 => ?_)
      · skip
        have ho := ho.1 c_33
        refine nw_iconst (pc := 51) (v := 0) h dX5_barOf_51 (by decide) ?_
        simp only [if_pos c_33] at hf
        refine nw_sub (lv' := [(0, .ref (P.2.1 37)), (1, .int x1), (2, .int x2), (4, .int x4)]) [0, 1, 2, 4] rfl ?_
        exact hL_52 H_6 hH_6 H_17 hH_17 _ _ _ _ _ _ hf
      · skip
        have ho := ho.2 c_33
        refine nw_aload_n (pc := 36) h dX5_barOf_36 rfl 0 rfl ?_
        refine gf5_49 (pc := 37) (r := 51) h rfl rfl dX5_barOf_37 ?_
        refine nw_iload (pc := 40) h dX5_barOf_40 4 rfl ?_
        have h_42 := ho
        refine nw_iald (pc := 42) (n := 240) h rfl rfl h_42 dX5_barOf_42 ?_
        refine nw_iload_n (pc := 43) h dX5_barOf_43 rfl 2 rfl ?_
        refine nw_icmp_lt (pc := 44) (tgt := 51) h dX5_barOf_44 (by decide) (fun c_44 => ?_) (fun c_44 => ?_)
        · skip
          refine nw_iconst (pc := 51) (v := 0) h dX5_barOf_51 (by decide) ?_
          simp only [if_neg c_33, if_pos c_44] at hf
          refine nw_sub (lv' := [(0, .ref (P.2.1 37)), (1, .int x1), (2, .int x2), (4, .int x4)]) [0, 1, 2, 4] rfl ?_
          exact hL_52 H_6 hH_6 H_17 hH_17 _ _ _ _ _ _ hf
        · skip
          refine nw_iconst (pc := 47) (v := 1) h dX5_barOf_47 (by decide) ?_
          refine nw_goto (pc := 48) (tgt := 52) h dX5_barOf_48 (by decide) ?_
          simp only [if_neg c_33, if_neg c_44] at hf
          refine nw_sub (lv' := [(0, .ref (P.2.1 37)), (1, .int x1), (2, .int x2), (4, .int x4)]) [0, 1, 2, 4] rfl ?_
          exact hL_52 H_6 hH_6 H_17 hH_17 _ _ _ _ _ _ hf
  have hL_17 : ∀ (H_6 : nw_ST → Int32 → Int32 → Prop) (hH_6 : (∀ (σ : nw_ST) (x1 : Int32) (x2 : Int32), H_6 σ x1 x2 → nw_G P X 5 σ [(0, .ref (P.2.1 37)), (1, .int x1), (2, .int x2)] 6 [])), ∀ (n : Nat) (σ : nw_ST) (x1 : Int32) (x2 : Int32) (x3 : Int32) (x4 : Int32), f5_barOf_17 K H_6 n σ x1 x2 x3 x4 → nw_G P X 5 σ [(0, .ref (P.2.1 37)), (1, .int x1), (2, .int x2), (3, .int x3), (4, .int x4)] 17 [] := by
    intro H_6 hH_6 n
    induction n with
    | zero => intro σ x1 x2 x3 x4 hf; exact False.elim hf
    | succ n ih => exact hB_17 H_6 hH_6 _ ih
  have hB_6 : ∀ (H_6 : nw_ST → Int32 → Int32 → Prop) (hH_6 : (∀ (σ : nw_ST) (x1 : Int32) (x2 : Int32), H_6 σ x1 x2 → nw_G P X 5 σ [(0, .ref (P.2.1 37)), (1, .int x1), (2, .int x2)] 6 [])), ∀ (σ : nw_ST) (x1 : Int32) (x2 : Int32), b5_barOf_6 K H_6 σ x1 x2 → nw_G P X 5 σ [(0, .ref (P.2.1 37)), (1, .int x1), (2, .int x2)] 6 [] := by
    intro H_6 hH_6 σ x1 x2 hf
    unfold b5_barOf_6 at hf
    refine nw_iload_n (pc := 6) h dX5_barOf_6 rfl 2 rfl ?_
    refine nw_bipush (pc := 7) (v := 55) h dX5_barOf_7 (by decide) ?_
    refine nw_icmp_ge (pc := 9) (tgt := 73) h dX5_barOf_9 (by decide) (fun c_9 => ?_) (fun c_9 => ?_)
    · have hf := hf.1 c_9
      refine nw_bipush (pc := 73) (v := 55) h dX5_barOf_73 (by decide) ?_
      exact nw_iret (pc := 75) h he dX5_barOf_75 ⟨_, rfl, hf⟩
    · have hf := hf.2 c_9
      refine nw_iconst (pc := 12) (v := 0) h dX5_barOf_12 (by decide) ?_
      refine nw_istore_n (pc := 13) (lv' := [(3, .int (0 : Int32)), (0, .ref (P.2.1 37)), (1, .int x1), (2, .int x2)]) h dX5_barOf_13 rfl (by decide) rfl ?_
      refine nw_iconst (pc := 14) (v := 0) h dX5_barOf_14 (by decide) ?_
      refine nw_istore (pc := 15) (lv' := [(4, .int (0 : Int32)), (3, .int (0 : Int32)), (0, .ref (P.2.1 37)), (1, .int x1), (2, .int x2)]) h dX5_barOf_15 (by decide) rfl ?_
      obtain ⟨n_17, hf⟩ := hf
      refine nw_sub (lv' := [(0, .ref (P.2.1 37)), (1, .int x1), (2, .int x2), (3, .int (0 : Int32)), (4, .int (0 : Int32))]) [2, 3, 4, 1, 0] rfl ?_
      exact hL_17 H_6 hH_6 n_17 _ _ _ _ _ hf
  have hL_6 :  ∀ (n : Nat) (σ : nw_ST) (x1 : Int32) (x2 : Int32), f5_barOf_6 K n σ x1 x2 → nw_G P X 5 σ [(0, .ref (P.2.1 37)), (1, .int x1), (2, .int x2)] 6 [] := by
    intro n
    induction n with
    | zero => intro σ x1 x2 hf; exact False.elim hf
    | succ n ih => exact hB_6 _ ih
  unfold f5_barOf at hf
  refine nw_aload_n (pc := 0) h dX5_barOf_0 rfl 0 rfl ?_
  refine klX5_198 (pc := 1) h (by rw [hR]; decide) hf (Nat.le_of_ble_eq_true rfl) dX5_barOf_1 (fun s_1 hf => ?_)
  refine nw_iconst (pc := 4) (v := 0) h dX5_barOf_4 (by decide) ?_
  refine nw_istore_n (pc := 5) (lv' := [(2, .int (0 : Int32)), (0, .ref (P.2.1 37)), (1, .int a1)]) h dX5_barOf_5 rfl (by decide) rfl ?_
  obtain ⟨n_6, hf⟩ := hf
  refine nw_sub (lv' := [(0, .ref (P.2.1 37)), (1, .int a1), (2, .int (0 : Int32))]) [1, 2, 0] rfl ?_
  exact hL_6 n_6 _ _ _ hf
theorem klX5_244 {P : nw_PT} {X : nw_EX} {cc : ByteArray} {nL : Nat} {σ : nw_ST} {lv : List (Nat × Value)} {pc : Nat} {rest : List Value} {a1 : Int32} (h : nw_ok P X cc RX5 nL) (hR : rm5_barOf.frames + 1 ≤ X.2.2.2.1.frames ∧ 8 + (5 + 11) + rm5_barOf.locals ≤ X.2.2.2.1.locals)  {K : Int32 → nw_ST → Prop} (hf : f5_barOf K σ a1) (hst : (rest.map fun v => v.category).sum ≤ 8) (hd : decode cc pc = .ok (.invokevirtual 244, 3)) (k : ∀ (r : Int32) (s2 : nw_ST), K r s2 → nw_G P X nL s2 lv (pc + 3) (.int r :: rest)) : nw_G P X nL σ lv pc (.int a1 :: .ref (P.2.1 37) :: rest) :=
  nw_callV (As := [.int a1]) (rest := rest) (C := RX5) (ci := 5) h (ct5_barOf _ P h.2.2 σ a1 K hf) (nw_goodV nw_w519 nw_w520 nw_w521 nw_w342 nw_w522) yd5_barOf rfl hR ⟨rfl, rfl⟩ rfl (by decide) rfl rfl hst rfl hd (fun v s2 z => by obtain ⟨r, rfl, z⟩ := z; exact k r s2 z)
def f5_bar_21 (K : Int32 → nw_ST → Prop) (σ : nw_ST) (y0 : Int32) : Prop := (K y0 σ)
def f5_bar (K : Int32 → nw_ST → Prop) (σ : nw_ST) (a1 : Int32) : Prop := ((((v5_in a1 (0 : Int32) (240 : Int32)) = 0) → (f5_bar_21 K σ (-2 : Int32))) ∧ (¬ ((v5_in a1 (0 : Int32) (240 : Int32)) = 0) → (f5_barOf (fun (r_13 : Int32) (s_13 : nw_ST) => (f5_bar_21 K s_13 r_13)) σ a1)))
def rm5_bar : Room := { frames := 9, cells := 0, slots := 0, locals := 204 }
theorem yd5_bar : yX5_bar.cls = RX5 ∧ yX5_bar.cls ≠ "java/lang/invoke/MethodHandle" ∧ yX5_bar.cls ≠ "java/lang/invoke/VarHandle" ∧ (parseMethodDescriptor yX5_bar.desc).map (fun d => d.parameters.length) = some 1 := by decide +kernel
set_option maxHeartbeats 4000000 in
set_option maxRecDepth 100000 in
theorem ct5_bar (l : Launch) (P : nw_PT) (hD : nw_D P) (σ : nw_ST) (a1 : Int32)  (K : Int32 → nw_ST → Prop) (hf : f5_bar K σ a1) : nw_MT l yX5_bar cX5_bar 2 (some .int) rm5_bar P [.ref (P.2.1 37), .int a1] σ (nw_Ki K) := by
  refine nw_enter (by decide) (by first | decide | exact Nat.le_of_ble_eq_true rfl) hD ?_
  intro X hl h he hR
  subst hl
  have h : nw_ok P X cX5_bar RX5 2 := h
  show nw_G P X 2 σ [(0, .ref (P.2.1 37)), (1, .int a1)] 0 []
  have hL_21 :  ∀ (σ : nw_ST) (y0 : Int32), f5_bar_21 K σ y0 → nw_G P X 2 σ [] 21 [.int y0] := by
    intro σ y0 hf
    unfold f5_bar_21 at hf
    exact nw_iret (pc := 21) h he dX5_bar_21 ⟨_, rfl, hf⟩
  unfold f5_bar at hf
  refine nw_iload_n (pc := 0) h dX5_bar_0 rfl 1 rfl ?_
  refine nw_iconst (pc := 1) (v := 0) h dX5_bar_1 (by decide) ?_
  refine nw_sipush (pc := 2) (v := 240) h dX5_bar_2 (by decide) ?_
  refine klX5_89 (pc := 5) h (by rw [hR]; decide) (Nat.le_of_ble_eq_true rfl) dX5_bar_5 ?_
  refine nw_if_eq (pc := 8) (tgt := 19) h dX5_bar_8 (by decide) (fun c_8 => ?_) (fun c_8 => ?_)
  · have hf := hf.1 c_8
    refine nw_bipush (pc := 19) (v := -2) h dX5_bar_19 (by decide) ?_
    refine nw_sub (lv' := []) [] rfl ?_
    exact hL_21 _ _ (hf)
  · have hf := hf.2 c_8
    refine nw_aload_n (pc := 11) h dX5_bar_11 rfl 0 rfl ?_
    refine nw_iload_n (pc := 12) h dX5_bar_12 rfl 1 rfl ?_
    refine klX5_244 (pc := 13) h (by rw [hR]; decide) hf (Nat.le_of_ble_eq_true rfl) dX5_bar_13 (fun r_13 s_13 hf => ?_)
    refine nw_goto (pc := 16) (tgt := 21) h dX5_bar_16 (by decide) ?_
    refine nw_sub (lv' := []) [] rfl ?_
    exact hL_21 _ _ (hf)
def f5_earnOf_113 (K : Int32 → nw_ST → Prop) (σ : nw_ST) (y0 : Int32) : Prop := (K y0 σ)
def f5_earnOf_90 (K : Int32 → nw_ST → Prop) (H_36 : nw_ST → Int32 → Int32 → Int32 → Int32 → Int32 → Prop) (σ : nw_ST) (x1 : Int32) (x2 : Int32) (x3 : Int32) (x5 : Int32) (y0 : Int32) : Prop := (H_36 σ x1 x2 x3 y0 (x5 + (1 : Int32)))
def f5_earnOf_75 (K : Int32 → nw_ST → Prop) (H_36 : nw_ST → Int32 → Int32 → Int32 → Int32 → Int32 → Prop) (σ : nw_ST) (x1 : Int32) (x2 : Int32) (x4 : Int32) (x5 : Int32) (x6 : Int32) (y0 : Int32) : Prop := (f5_earnOf_90 K H_36 σ x1 x2 y0 x5 (if (x6 ≤ x4) then x4 else x6))
def b5_earnOf_36 (K : Int32 → nw_ST → Prop) (H_36 : nw_ST → Int32 → Int32 → Int32 → Int32 → Int32 → Prop) (σ : nw_ST) (x1 : Int32) (x2 : Int32) (x3 : Int32) (x4 : Int32) (x5 : Int32) : Prop := ((((401 : Int32) ≤ x5) → (f5_earnOf_113 K σ (if (x3 = (-1 : Int32)) then x3 else (if (x2 = 0) then x3 else x4)))) ∧ (¬ ((401 : Int32) ≤ x5) → ((vp_in (nw_gS σ 37 16) 13) ∧ (f5_claimsNow (fun (r_57 : Int32) (s_57 : nw_ST) => (f5_earnOf_75 K H_36 s_57 x1 x2 x4 x5 r_57 (if (r_57 ≤ x4) then x3 else x5))) (nw_sA σ 50 (nw_gS σ 37 16).toNatClampNeg x5) x1))))
def f5_earnOf_36 (K : Int32 → nw_ST → Prop) : Nat → nw_ST → Int32 → Int32 → Int32 → Int32 → Int32 → Prop
  | 0 => fun _ _ _ _ _ _ => False
  | n + 1 => b5_earnOf_36 K (f5_earnOf_36 K n)
def f5_earnOf (K : Int32 → nw_ST → Prop) (σ : nw_ST) (a1 : Int32) (a2 : Int32) : Prop := (f5_laysTold (fun (s_1 : nw_ST) => (f5_claimsNow (fun (r_8 : Int32) (s_8 : nw_ST) => ((vp_in (nw_gS s_8 37 16) 13) ∧ (∃ n, f5_earnOf_36 K n (nw_sS (nw_sA s_8 49 (nw_gS s_8 37 16).toNatClampNeg a1) 37 24 ((nw_gS (nw_sA s_8 49 (nw_gS s_8 37 16).toNatClampNeg a1) 37 16) + (1 : Int32))) a1 a2 (-1 : Int32) r_8 (1 : Int32)))) s_1 a1)) σ)
def rm5_earnOf : Room := { frames := 8, cells := 0, slots := 0, locals := 180 }
theorem yd5_earnOf : yX5_earnOf.cls = RX5 ∧ yX5_earnOf.cls ≠ "java/lang/invoke/MethodHandle" ∧ yX5_earnOf.cls ≠ "java/lang/invoke/VarHandle" ∧ (parseMethodDescriptor yX5_earnOf.desc).map (fun d => d.parameters.length) = some 2 := by decide +kernel
set_option maxHeartbeats 4000000 in
set_option maxRecDepth 100000 in
theorem ct5_earnOf (l : Launch) (P : nw_PT) (hD : nw_D P) (σ : nw_ST) (a1 : Int32) (a2 : Int32)  (K : Int32 → nw_ST → Prop) (hf : f5_earnOf K σ a1 a2) : nw_MT l yX5_earnOf cX5_earnOf 7 (some .int) rm5_earnOf P [.ref (P.2.1 37), .int a1, .int a2] σ (nw_Ki K) := by
  refine nw_enter (by decide) (by first | decide | exact Nat.le_of_ble_eq_true rfl) hD ?_
  intro X hl h he hR
  subst hl
  have h : nw_ok P X cX5_earnOf RX5 7 := h
  show nw_G P X 7 σ [(0, .ref (P.2.1 37)), (1, .int a1), (2, .int a2)] 0 []
  have hL_113 :  ∀ (σ : nw_ST) (y0 : Int32), f5_earnOf_113 K σ y0 → nw_G P X 7 σ [] 113 [.int y0] := by
    intro σ y0 hf
    unfold f5_earnOf_113 at hf
    exact nw_iret (pc := 113) h he dX5_earnOf_113 ⟨_, rfl, hf⟩
  have hL_90 : ∀ (H_36 : nw_ST → Int32 → Int32 → Int32 → Int32 → Int32 → Prop) (hH_36 : (∀ (σ : nw_ST) (x1 : Int32) (x2 : Int32) (x3 : Int32) (x4 : Int32) (x5 : Int32), H_36 σ x1 x2 x3 x4 x5 → nw_G P X 7 σ [(0, .ref (P.2.1 37)), (1, .int x1), (2, .int x2), (3, .int x3), (4, .int x4), (5, .int x5)] 36 [])), ∀ (σ : nw_ST) (x1 : Int32) (x2 : Int32) (x3 : Int32) (x5 : Int32) (y0 : Int32), f5_earnOf_90 K H_36 σ x1 x2 x3 x5 y0 → nw_G P X 7 σ [(0, .ref (P.2.1 37)), (1, .int x1), (2, .int x2), (3, .int x3), (5, .int x5)] 90 [.int y0] := by
    intro H_36 hH_36 σ x1 x2 x3 x5 y0 hf
    unfold f5_earnOf_90 at hf
    refine nw_istore (pc := 90) (lv' := [(4, .int y0), (0, .ref (P.2.1 37)), (1, .int x1), (2, .int x2), (3, .int x3), (5, .int x5)]) h dX5_earnOf_90 (by decide) rfl ?_
    refine nw_iinc (pc := 92) (v := (x5 + (1 : Int32))) (lv' := [(5, .int (x5 + (1 : Int32))), (4, .int y0), (0, .ref (P.2.1 37)), (1, .int x1), (2, .int x2), (3, .int x3)]) h dX5_earnOf_92 (j := 5) rfl rfl (by decide) rfl ?_
    refine nw_goto (pc := 95) (tgt := 36) h dX5_earnOf_95 (by decide) ?_
    refine nw_sub (lv' := [(0, .ref (P.2.1 37)), (1, .int x1), (2, .int x2), (3, .int x3), (4, .int y0), (5, .int (x5 + (1 : Int32)))]) [2, 3, 4, 5, 1, 0] rfl ?_
    exact hH_36 _ _ _ _ _ _ (hf)
  have hL_75 : ∀ (H_36 : nw_ST → Int32 → Int32 → Int32 → Int32 → Int32 → Prop) (hH_36 : (∀ (σ : nw_ST) (x1 : Int32) (x2 : Int32) (x3 : Int32) (x4 : Int32) (x5 : Int32), H_36 σ x1 x2 x3 x4 x5 → nw_G P X 7 σ [(0, .ref (P.2.1 37)), (1, .int x1), (2, .int x2), (3, .int x3), (4, .int x4), (5, .int x5)] 36 [])), ∀ (σ : nw_ST) (x1 : Int32) (x2 : Int32) (x4 : Int32) (x5 : Int32) (x6 : Int32) (y0 : Int32), f5_earnOf_75 K H_36 σ x1 x2 x4 x5 x6 y0 → nw_G P X 7 σ [(0, .ref (P.2.1 37)), (1, .int x1), (2, .int x2), (4, .int x4), (5, .int x5), (6, .int x6)] 75 [.int y0] := by
    intro H_36 hH_36 σ x1 x2 x4 x5 x6 y0 hf
    unfold f5_earnOf_75 at hf
    refine nw_istore_n (pc := 75) (lv' := [(3, .int y0), (0, .ref (P.2.1 37)), (1, .int x1), (2, .int x2), (4, .int x4), (5, .int x5), (6, .int x6)]) h dX5_earnOf_75 rfl (by decide) rfl ?_
    refine nw_iload (pc := 76) h dX5_earnOf_76 6 rfl ?_
    refine nw_iload (pc := 78) h dX5_earnOf_78 4 rfl ?_
    refine nw_icmp_le (pc := 80) (tgt := 88) h dX5_earnOf_80 (by decide) (fun c_80 => ?_) (fun c_80 => ?_)
    · skip
      refine nw_iload (pc := 88) h dX5_earnOf_88 4 rfl ?_
      simp only [if_pos c_80] at hf
      refine nw_sub (lv' := [(0, .ref (P.2.1 37)), (1, .int x1), (2, .int x2), (3, .int y0), (5, .int x5)]) [1, 2, 3, 0, 5] rfl ?_
      exact hL_90 H_36 hH_36 _ _ _ _ _ _ hf
    · skip
      refine nw_iload (pc := 83) h dX5_earnOf_83 6 rfl ?_
      refine nw_goto (pc := 85) (tgt := 90) h dX5_earnOf_85 (by decide) ?_
      simp only [if_neg c_80] at hf
      refine nw_sub (lv' := [(0, .ref (P.2.1 37)), (1, .int x1), (2, .int x2), (3, .int y0), (5, .int x5)]) [1, 2, 3, 0, 5] rfl ?_
      exact hL_90 H_36 hH_36 _ _ _ _ _ _ hf
  have hB_36 : ∀ (H_36 : nw_ST → Int32 → Int32 → Int32 → Int32 → Int32 → Prop) (hH_36 : (∀ (σ : nw_ST) (x1 : Int32) (x2 : Int32) (x3 : Int32) (x4 : Int32) (x5 : Int32), H_36 σ x1 x2 x3 x4 x5 → nw_G P X 7 σ [(0, .ref (P.2.1 37)), (1, .int x1), (2, .int x2), (3, .int x3), (4, .int x4), (5, .int x5)] 36 [])), ∀ (σ : nw_ST) (x1 : Int32) (x2 : Int32) (x3 : Int32) (x4 : Int32) (x5 : Int32), b5_earnOf_36 K H_36 σ x1 x2 x3 x4 x5 → nw_G P X 7 σ [(0, .ref (P.2.1 37)), (1, .int x1), (2, .int x2), (3, .int x3), (4, .int x4), (5, .int x5)] 36 [] := by
    intro H_36 hH_36 σ x1 x2 x3 x4 x5 hf
    unfold b5_earnOf_36 at hf
    refine nw_iload (pc := 36) h dX5_earnOf_36 5 rfl ?_
    refine nw_sipush (pc := 38) (v := 401) h dX5_earnOf_38 (by decide) ?_
    refine nw_icmp_ge (pc := 41) (tgt := 98) h dX5_earnOf_41 (by decide) (fun c_41 => ?_) (fun c_41 => ?_)
    · have hf := hf.1 c_41
      refine nw_iload_n (pc := 98) h dX5_earnOf_98 rfl 3 rfl ?_
      refine nw_iconst (pc := 99) (v := -1) h dX5_earnOf_99 (by decide) ?_
      refine nw_icmp_eq (pc := 100) (tgt := 107) h dX5_earnOf_100 (by decide) (fun c_100 => ?_) (fun c_100 => ?_)
      · skip
        refine nw_iload_n (pc := 107) h dX5_earnOf_107 rfl 3 rfl ?_
        refine nw_goto (pc := 108) (tgt := 113) h dX5_earnOf_108 (by decide) ?_
        simp only [if_pos c_100] at hf
        refine nw_sub (lv' := []) [] rfl ?_
        exact hL_113 _ _ hf
      · skip
        refine nw_iload_n (pc := 103) h dX5_earnOf_103 rfl 2 rfl ?_
        refine nw_if_ne (pc := 104) (tgt := 111) h dX5_earnOf_104 (by decide) (fun c_104 => ?_) (fun c_104 => ?_)
        · skip
          refine nw_iload (pc := 111) h dX5_earnOf_111 4 rfl ?_
          simp only [if_neg c_100, if_neg c_104] at hf
          refine nw_sub (lv' := []) [] rfl ?_
          exact hL_113 _ _ hf
        · skip
          refine nw_iload_n (pc := 107) h dX5_earnOf_107 rfl 3 rfl ?_
          refine nw_goto (pc := 108) (tgt := 113) h dX5_earnOf_108 (by decide) ?_
          simp only [if_neg c_100, if_pos c_104] at hf
          refine nw_sub (lv' := []) [] rfl ?_
          exact hL_113 _ _ hf
    · have hf := hf.2 c_41
      refine nw_aload_n (pc := 44) h dX5_earnOf_44 rfl 0 rfl ?_
      refine gf5_46 (pc := 45) (r := 50) h rfl rfl dX5_earnOf_45 ?_
      refine nw_aload_n (pc := 48) h dX5_earnOf_48 rfl 0 rfl ?_
      refine gf5_152 (pc := 49) h rfl dX5_earnOf_49 ?_
      refine nw_iload (pc := 52) h dX5_earnOf_52 5 rfl ?_
      obtain ⟨h_54, hf⟩ := hf
      refine nw_iast (pc := 54) (n := 13) h rfl rfl h_54 dX5_earnOf_54 ?_
      refine nw_aload_n (pc := 55) h dX5_earnOf_55 rfl 0 rfl ?_
      refine nw_iload_n (pc := 56) h dX5_earnOf_56 rfl 1 rfl ?_
      refine klX5_225 (pc := 57) h (by rw [hR]; decide) hf (Nat.le_of_ble_eq_true rfl) dX5_earnOf_57 (fun r_57 s_57 hf => ?_)
      refine nw_istore (pc := 60) (lv' := [(6, .int r_57), (0, .ref (P.2.1 37)), (1, .int x1), (2, .int x2), (3, .int x3), (4, .int x4), (5, .int x5)]) h dX5_earnOf_60 (by decide) rfl ?_
      refine nw_iload (pc := 62) h dX5_earnOf_62 0 rfl ?_
      refine nw_iload (pc := 64) h dX5_earnOf_64 5 rfl ?_
      refine nw_icmp_le (pc := 66) (tgt := 74) h dX5_earnOf_66 (by decide) (fun c_66 => ?_) (fun c_66 => ?_)
      · skip
        refine nw_iload_n (pc := 74) h dX5_earnOf_74 rfl 4 rfl ?_
        simp only [if_pos c_66] at hf
        refine nw_sub (lv' := [(0, .ref (P.2.1 37)), (1, .int x1), (2, .int x2), (4, .int x4), (5, .int x5), (6, .int r_57)]) [1, 2, 3, 5, 6, 0] rfl ?_
        exact hL_75 H_36 hH_36 _ _ _ _ _ _ _ hf
      · skip
        refine nw_iload (pc := 69) h dX5_earnOf_69 6 rfl ?_
        refine nw_goto (pc := 71) (tgt := 75) h dX5_earnOf_71 (by decide) ?_
        simp only [if_neg c_66] at hf
        refine nw_sub (lv' := [(0, .ref (P.2.1 37)), (1, .int x1), (2, .int x2), (4, .int x4), (5, .int x5), (6, .int r_57)]) [1, 2, 3, 5, 6, 0] rfl ?_
        exact hL_75 H_36 hH_36 _ _ _ _ _ _ _ hf
  have hL_36 :  ∀ (n : Nat) (σ : nw_ST) (x1 : Int32) (x2 : Int32) (x3 : Int32) (x4 : Int32) (x5 : Int32), f5_earnOf_36 K n σ x1 x2 x3 x4 x5 → nw_G P X 7 σ [(0, .ref (P.2.1 37)), (1, .int x1), (2, .int x2), (3, .int x3), (4, .int x4), (5, .int x5)] 36 [] := by
    intro n
    induction n with
    | zero => intro σ x1 x2 x3 x4 x5 hf; exact False.elim hf
    | succ n ih => exact hB_36 _ ih
  unfold f5_earnOf at hf
  refine nw_aload_n (pc := 0) h dX5_earnOf_0 rfl 0 rfl ?_
  refine klX5_198 (pc := 1) h (by rw [hR]; decide) hf (Nat.le_of_ble_eq_true rfl) dX5_earnOf_1 (fun s_1 hf => ?_)
  refine nw_iconst (pc := 4) (v := -1) h dX5_earnOf_4 (by decide) ?_
  refine nw_istore_n (pc := 5) (lv' := [(3, .int (-1 : Int32)), (0, .ref (P.2.1 37)), (1, .int a1), (2, .int a2)]) h dX5_earnOf_5 rfl (by decide) rfl ?_
  refine nw_aload_n (pc := 6) h dX5_earnOf_6 rfl 1 rfl ?_
  refine nw_iload_n (pc := 7) h dX5_earnOf_7 rfl 2 rfl ?_
  refine klX5_225 (pc := 8) h (by rw [hR]; decide) hf (Nat.le_of_ble_eq_true rfl) dX5_earnOf_8 (fun r_8 s_8 hf => ?_)
  refine nw_istore (pc := 11) (lv' := [(4, .int r_8), (3, .int (-1 : Int32)), (0, .ref (P.2.1 37)), (1, .int a1), (2, .int a2)]) h dX5_earnOf_11 (by decide) rfl ?_
  refine nw_aload_n (pc := 13) h dX5_earnOf_13 rfl 2 rfl ?_
  refine gf5_43 (pc := 14) (r := 49) h rfl rfl dX5_earnOf_14 ?_
  refine nw_aload_n (pc := 17) h dX5_earnOf_17 rfl 2 rfl ?_
  refine gf5_152 (pc := 18) h rfl dX5_earnOf_18 ?_
  refine nw_iload_n (pc := 21) h dX5_earnOf_21 rfl 3 rfl ?_
  obtain ⟨h_22, hf⟩ := hf
  refine nw_iast (pc := 22) (n := 13) h rfl rfl h_22 dX5_earnOf_22 ?_
  refine nw_aload_n (pc := 23) h dX5_earnOf_23 rfl 2 rfl ?_
  refine nw_aload_n (pc := 24) h dX5_earnOf_24 rfl 2 rfl ?_
  refine gf5_152 (pc := 25) h rfl dX5_earnOf_25 ?_
  refine nw_iconst (pc := 28) (v := 1) h dX5_earnOf_28 (by decide) ?_
  refine nw_iadd (pc := 29) h dX5_earnOf_29 ?_
  refine pf5_170 (pc := 30) h rfl dX5_earnOf_30 ?_
  refine nw_iconst (pc := 33) (v := 1) h dX5_earnOf_33 (by decide) ?_
  refine nw_istore (pc := 34) (lv' := [(5, .int (1 : Int32)), (4, .int r_8), (3, .int (-1 : Int32)), (0, .ref (P.2.1 37)), (1, .int a1), (2, .int a2)]) h dX5_earnOf_34 (by decide) rfl ?_
  obtain ⟨n_36, hf⟩ := hf
  refine nw_sub (lv' := [(0, .ref (P.2.1 37)), (1, .int a1), (2, .int a2), (3, .int (-1 : Int32)), (4, .int r_8), (5, .int (1 : Int32))]) [3, 4, 5, 2, 1, 0] rfl ?_
  exact hL_36 n_36 _ _ _ _ _ _ hf
theorem klX5_247 {P : nw_PT} {X : nw_EX} {cc : ByteArray} {nL : Nat} {σ : nw_ST} {lv : List (Nat × Value)} {pc : Nat} {rest : List Value} {a1 : Int32} {a2 : Int32} (h : nw_ok P X cc RX5 nL) (hR : rm5_earnOf.frames + 1 ≤ X.2.2.2.1.frames ∧ 8 + (7 + 11) + rm5_earnOf.locals ≤ X.2.2.2.1.locals)  {K : Int32 → nw_ST → Prop} (hf : f5_earnOf K σ a1 a2) (hst : (rest.map fun v => v.category).sum ≤ 8) (hd : decode cc pc = .ok (.invokevirtual 247, 3)) (k : ∀ (r : Int32) (s2 : nw_ST), K r s2 → nw_G P X nL s2 lv (pc + 3) (.int r :: rest)) : nw_G P X nL σ lv pc (.int a2 :: .int a1 :: .ref (P.2.1 37) :: rest) :=
  nw_callV (As := [.int a1, .int a2]) (rest := rest) (C := RX5) (ci := 5) h (ct5_earnOf _ P h.2.2 σ a1 a2 K hf) (nw_goodV nw_w523 nw_w524 nw_w525 nw_w342 nw_w526) yd5_earnOf rfl hR ⟨rfl, rfl⟩ rfl (by decide) rfl rfl hst rfl hd (fun v s2 z => by obtain ⟨r, rfl, z⟩ := z; exact k r s2 z)
def f5_earn_30 (K : Int32 → nw_ST → Prop) (σ : nw_ST) (y0 : Int32) : Prop := (K y0 σ)
def f5_earn_28 (K : Int32 → nw_ST → Prop) (σ : nw_ST) : Prop := (f5_earn_30 K σ (-2 : Int32))
def f5_earn (K : Int32 → nw_ST → Prop) (σ : nw_ST) (a1 : Int32) (a2 : Int32) : Prop := ((((v5_in a1 (0 : Int32) (7 : Int32)) = 0) → (f5_earn_28 K σ)) ∧ (¬ ((v5_in a1 (0 : Int32) (7 : Int32)) = 0) → ((((v5_in a2 (0 : Int32) (1 : Int32)) = 0) → (f5_earn_28 K σ)) ∧ (¬ ((v5_in a2 (0 : Int32) (1 : Int32)) = 0) → (f5_earnOf (fun (r_22 : Int32) (s_22 : nw_ST) => (f5_earn_30 K s_22 r_22)) σ a1 a2)))))
def rm5_earn : Room := { frames := 9, cells := 0, slots := 0, locals := 206 }
theorem yd5_earn : yX5_earn.cls = RX5 ∧ yX5_earn.cls ≠ "java/lang/invoke/MethodHandle" ∧ yX5_earn.cls ≠ "java/lang/invoke/VarHandle" ∧ (parseMethodDescriptor yX5_earn.desc).map (fun d => d.parameters.length) = some 2 := by decide +kernel
set_option maxHeartbeats 4000000 in
set_option maxRecDepth 100000 in
theorem ct5_earn (l : Launch) (P : nw_PT) (hD : nw_D P) (σ : nw_ST) (a1 : Int32) (a2 : Int32)  (K : Int32 → nw_ST → Prop) (hf : f5_earn K σ a1 a2) : nw_MT l yX5_earn cX5_earn 3 (some .int) rm5_earn P [.ref (P.2.1 37), .int a1, .int a2] σ (nw_Ki K) := by
  refine nw_enter (by decide) (by first | decide | exact Nat.le_of_ble_eq_true rfl) hD ?_
  intro X hl h he hR
  subst hl
  have h : nw_ok P X cX5_earn RX5 3 := h
  show nw_G P X 3 σ [(0, .ref (P.2.1 37)), (1, .int a1), (2, .int a2)] 0 []
  have hL_30 :  ∀ (σ : nw_ST) (y0 : Int32), f5_earn_30 K σ y0 → nw_G P X 3 σ [] 30 [.int y0] := by
    intro σ y0 hf
    unfold f5_earn_30 at hf
    exact nw_iret (pc := 30) h he dX5_earn_30 ⟨_, rfl, hf⟩
  have hL_28 :  ∀ (σ : nw_ST), f5_earn_28 K σ → nw_G P X 3 σ [] 28 [] := by
    intro σ hf
    unfold f5_earn_28 at hf
    refine nw_bipush (pc := 28) (v := -2) h dX5_earn_28 (by decide) ?_
    exact hL_30 _ _ (hf)
  unfold f5_earn at hf
  refine nw_iload_n (pc := 0) h dX5_earn_0 rfl 1 rfl ?_
  refine nw_iconst (pc := 1) (v := 0) h dX5_earn_1 (by decide) ?_
  refine nw_bipush (pc := 2) (v := 7) h dX5_earn_2 (by decide) ?_
  refine klX5_89 (pc := 4) h (by rw [hR]; decide) (Nat.le_of_ble_eq_true rfl) dX5_earn_4 ?_
  refine nw_if_eq (pc := 7) (tgt := 28) h dX5_earn_7 (by decide) (fun c_7 => ?_) (fun c_7 => ?_)
  · have hf := hf.1 c_7
    refine nw_sub (lv' := []) [] rfl ?_
    exact hL_28 _ (hf)
  · have hf := hf.2 c_7
    refine nw_iload_n (pc := 10) h dX5_earn_10 rfl 2 rfl ?_
    refine nw_iconst (pc := 11) (v := 0) h dX5_earn_11 (by decide) ?_
    refine nw_iconst (pc := 12) (v := 1) h dX5_earn_12 (by decide) ?_
    refine klX5_89 (pc := 13) h (by rw [hR]; decide) (Nat.le_of_ble_eq_true rfl) dX5_earn_13 ?_
    refine nw_if_eq (pc := 16) (tgt := 28) h dX5_earn_16 (by decide) (fun c_16 => ?_) (fun c_16 => ?_)
    · have hf := hf.1 c_16
      refine nw_sub (lv' := []) [] rfl ?_
      exact hL_28 _ (hf)
    · have hf := hf.2 c_16
      refine nw_aload_n (pc := 19) h dX5_earn_19 rfl 0 rfl ?_
      refine nw_iload_n (pc := 20) h dX5_earn_20 rfl 1 rfl ?_
      refine nw_iload_n (pc := 21) h dX5_earn_21 rfl 2 rfl ?_
      refine klX5_247 (pc := 22) h (by rw [hR]; decide) hf (Nat.le_of_ble_eq_true rfl) dX5_earn_22 (fun r_22 s_22 hf => ?_)
      refine nw_goto (pc := 25) (tgt := 30) h dX5_earn_25 (by decide) ?_
      refine nw_sub (lv' := []) [] rfl ?_
      exact hL_30 _ _ (hf)
theorem gf5_250 {P : nw_PT} {X : nw_EX} {cc : ByteArray} {nL : Nat} {σ : nw_ST} {lv : List (Nat × Value)} {pc : Nat} {st : List Value} {q : Nat} (h : nw_ok P X cc RX5 nL) (hq : nw_cl q = 5) (hd : decode cc pc = .ok (.getfield 250, 3)) (k : nw_G P X nL σ lv (pc + 3) (.int (nw_gS σ q 28) :: st)) : nw_G P X nL σ lv pc (.ref (P.2.1 q) :: st) := by
  intro H locs ls h1 h2 h3
  exact va_get (D := P.1) (ci := 5) (C := RX5) (T := TX5) (N := 38) h.1.1 h.1.2.1 h.1.2.2.2.2 in_T5 h.1.2.2.2.1 h.2.1.1 h1 q (nw_at5 hq) rfl 28 (by decide) (h.1.2.2.2.2 _ nw_w527) (fun _ z => z) rfl hd (k H locs ls h1 h2 h3)
theorem gf5_62 {P : nw_PT} {X : nw_EX} {cc : ByteArray} {nL : Nat} {σ : nw_ST} {lv : List (Nat × Value)} {pc : Nat} {st : List Value} {q : Nat} (h : nw_ok P X cc RX5 nL) (hq : nw_cl q = 5) {r : Nat} (hr : nw_rf q 29 = r) (hd : decode cc pc = .ok (.getfield 62, 3)) (k : nw_G P X nL σ lv (pc + 3) (.ref (P.2.1 r) :: st)) : nw_G P X nL σ lv pc (.ref (P.2.1 q) :: st) := by
  subst hr; intro H locs ls h1 h2 h3
  exact va_get (D := P.1) (ci := 5) (C := RX5) (T := TX5) (N := 38) h.1.1 h.1.2.1 h.1.2.2.2.2 in_T5 h.1.2.2.2.1 h.2.1.1 h1 q (nw_at5 hq) rfl 29 (by decide) (h.1.2.2.2.2 _ nw_w528) (fun _ z => z) rfl hd (k H locs ls h1 h2 h3)
theorem gf5_65 {P : nw_PT} {X : nw_EX} {cc : ByteArray} {nL : Nat} {σ : nw_ST} {lv : List (Nat × Value)} {pc : Nat} {st : List Value} {q : Nat} (h : nw_ok P X cc RX5 nL) (hq : nw_cl q = 5) {r : Nat} (hr : nw_rf q 30 = r) (hd : decode cc pc = .ok (.getfield 65, 3)) (k : nw_G P X nL σ lv (pc + 3) (.ref (P.2.1 r) :: st)) : nw_G P X nL σ lv pc (.ref (P.2.1 q) :: st) := by
  subst hr; intro H locs ls h1 h2 h3
  exact va_get (D := P.1) (ci := 5) (C := RX5) (T := TX5) (N := 38) h.1.1 h.1.2.1 h.1.2.2.2.2 in_T5 h.1.2.2.2.1 h.2.1.1 h1 q (nw_at5 hq) rfl 30 (by decide) (h.1.2.2.2.2 _ nw_w529) (fun _ z => z) rfl hd (k H locs ls h1 h2 h3)
theorem pf5_250 {P : nw_PT} {X : nw_EX} {cc : ByteArray} {nL : Nat} {σ : nw_ST} {lv : List (Nat × Value)} {pc : Nat} {st : List Value} {q : Nat} (h : nw_ok P X cc RX5 nL) (hq : nw_cl q = 5) {v : Int32} (hd : decode cc pc = .ok (.putfield 250, 3)) (k : nw_G P X nL (nw_sS σ q 28 v) lv (pc + 3) st) : nw_G P X nL σ lv pc (.int v :: .ref (P.2.1 q) :: st) := by
  intro H locs ls h1 h2 h3
  exact va_put (D := P.1) (ci := 5) (ty := .int) (C := RX5) (T := TX5) (N := 38) h.1.1 h.1.2.1 h.1.2.2.2.2 in_T5 tyX5 tyX5_ok nmX5 h.1.2.2.2.1 h.2.1.1 h1 (h.2.2 σ) h2 q (nw_at5 hq) rfl 28 (by decide) (h.1.2.2.2.2 _ nw_w527) (fun _ z => z) rfl (by decide +kernel) rfl rfl (by show 28 < 38; decide) hd (fun H1 locs1 g1 _ g2 => k H1 locs1 ls (by rw [nw_set5_28 hq] at g1; exact g1) g2 h3)
def f5_heard_18 (K : Int32 → nw_ST → Prop) (σ : nw_ST) : Prop := (K (-2 : Int32) σ)
def f5_heard (K : Int32 → nw_ST → Prop) (σ : nw_ST) (a1 : Int32) (a2 : Int32) : Prop := ((((v5_isTime a1) = 0) → (f5_heard_18 K σ)) ∧ (¬ ((v5_isTime a1) = 0) → ((((v5_in a2 (0 : Int32) (400 : Int32)) = 0) → (f5_heard_18 K σ)) ∧ (¬ ((v5_in a2 (0 : Int32) (400 : Int32)) = 0) → ((((nw_gS σ 37 28) = (8 : Int32)) → (K (-4 : Int32) σ)) ∧ (¬ ((nw_gS σ 37 28) = (8 : Int32)) → ((vp_in (nw_gS σ 37 28) 8) ∧ ((vp_in (nw_gS (nw_sA σ 55 (nw_gS σ 37 28).toNatClampNeg a1) 37 28) 8) ∧ (K (nw_gS (nw_sS (nw_sA (nw_sA σ 55 (nw_gS σ 37 28).toNatClampNeg a1) 56 (nw_gS (nw_sA σ 55 (nw_gS σ 37 28).toNatClampNeg a1) 37 28).toNatClampNeg a2) 37 28 ((nw_gS (nw_sA (nw_sA σ 55 (nw_gS σ 37 28).toNatClampNeg a1) 56 (nw_gS (nw_sA σ 55 (nw_gS σ 37 28).toNatClampNeg a1) 37 28).toNatClampNeg a2) 37 28) + (1 : Int32))) 37 28) (nw_sS (nw_sA (nw_sA σ 55 (nw_gS σ 37 28).toNatClampNeg a1) 56 (nw_gS (nw_sA σ 55 (nw_gS σ 37 28).toNatClampNeg a1) 37 28).toNatClampNeg a2) 37 28 ((nw_gS (nw_sA (nw_sA σ 55 (nw_gS σ 37 28).toNatClampNeg a1) 56 (nw_gS (nw_sA σ 55 (nw_gS σ 37 28).toNatClampNeg a1) 37 28).toNatClampNeg a2) 37 28) + (1 : Int32))))))))))))
def rm5_heard : Room := { frames := 2, cells := 0, slots := 0, locals := 42 }
theorem yd5_heard : yX5_heard.cls = RX5 ∧ yX5_heard.cls ≠ "java/lang/invoke/MethodHandle" ∧ yX5_heard.cls ≠ "java/lang/invoke/VarHandle" ∧ (parseMethodDescriptor yX5_heard.desc).map (fun d => d.parameters.length) = some 2 := by decide +kernel
set_option maxHeartbeats 4000000 in
set_option maxRecDepth 100000 in
theorem ct5_heard (l : Launch) (P : nw_PT) (hD : nw_D P) (σ : nw_ST) (a1 : Int32) (a2 : Int32)  (K : Int32 → nw_ST → Prop) (hf : f5_heard K σ a1 a2) : nw_MT l yX5_heard cX5_heard 3 (some .int) rm5_heard P [.ref (P.2.1 37), .int a1, .int a2] σ (nw_Ki K) := by
  refine nw_enter (by decide) (by first | decide | exact Nat.le_of_ble_eq_true rfl) hD ?_
  intro X hl h he hR
  subst hl
  have h : nw_ok P X cX5_heard RX5 3 := h
  show nw_G P X 3 σ [(0, .ref (P.2.1 37)), (1, .int a1), (2, .int a2)] 0 []
  have hL_18 :  ∀ (σ : nw_ST), f5_heard_18 K σ → nw_G P X 3 σ [] 18 [] := by
    intro σ hf
    unfold f5_heard_18 at hf
    refine nw_bipush (pc := 18) (v := -2) h dX5_heard_18 (by decide) ?_
    exact nw_iret (pc := 20) h he dX5_heard_20 ⟨_, rfl, hf⟩
  unfold f5_heard at hf
  refine nw_iload_n (pc := 0) h dX5_heard_0 rfl 1 rfl ?_
  refine klX5_143 (pc := 1) h (by rw [hR]; decide) (Nat.le_of_ble_eq_true rfl) dX5_heard_1 ?_
  refine nw_if_eq (pc := 4) (tgt := 18) h dX5_heard_4 (by decide) (fun c_4 => ?_) (fun c_4 => ?_)
  · have hf := hf.1 c_4
    refine nw_sub (lv' := []) [] rfl ?_
    exact hL_18 _ (hf)
  · have hf := hf.2 c_4
    refine nw_iload_n (pc := 7) h dX5_heard_7 rfl 2 rfl ?_
    refine nw_iconst (pc := 8) (v := 0) h dX5_heard_8 (by decide) ?_
    refine nw_sipush (pc := 9) (v := 400) h dX5_heard_9 (by decide) ?_
    refine klX5_89 (pc := 12) h (by rw [hR]; decide) (Nat.le_of_ble_eq_true rfl) dX5_heard_12 ?_
    refine nw_if_ne (pc := 15) (tgt := 21) h dX5_heard_15 (by decide) (fun c_15 => ?_) (fun c_15 => ?_)
    · have hf := hf.2 c_15
      refine nw_aload_n (pc := 21) h dX5_heard_21 rfl 0 rfl ?_
      refine gf5_250 (pc := 22) h rfl dX5_heard_22 ?_
      refine nw_bipush (pc := 25) (v := 8) h dX5_heard_25 (by decide) ?_
      refine nw_icmp_ne (pc := 27) (tgt := 33) h dX5_heard_27 (by decide) (fun c_27 => ?_) (fun c_27 => ?_)
      · have hf := hf.2 c_27
        refine nw_aload_n (pc := 33) h dX5_heard_33 rfl 0 rfl ?_
        refine gf5_62 (pc := 34) (r := 55) h rfl rfl dX5_heard_34 ?_
        refine nw_aload_n (pc := 37) h dX5_heard_37 rfl 0 rfl ?_
        refine gf5_250 (pc := 38) h rfl dX5_heard_38 ?_
        refine nw_iload_n (pc := 41) h dX5_heard_41 rfl 1 rfl ?_
        obtain ⟨h_42, hf⟩ := hf
        refine nw_iast (pc := 42) (n := 8) h rfl rfl h_42 dX5_heard_42 ?_
        refine nw_aload_n (pc := 43) h dX5_heard_43 rfl 0 rfl ?_
        refine gf5_65 (pc := 44) (r := 56) h rfl rfl dX5_heard_44 ?_
        refine nw_aload_n (pc := 47) h dX5_heard_47 rfl 0 rfl ?_
        refine gf5_250 (pc := 48) h rfl dX5_heard_48 ?_
        refine nw_iload_n (pc := 51) h dX5_heard_51 rfl 2 rfl ?_
        obtain ⟨h_52, hf⟩ := hf
        refine nw_iast (pc := 52) (n := 8) h rfl rfl h_52 dX5_heard_52 ?_
        refine nw_aload_n (pc := 53) h dX5_heard_53 rfl 0 rfl ?_
        refine nw_dup (pc := 54) h dX5_heard_54 rfl ?_
        refine gf5_250 (pc := 55) h rfl dX5_heard_55 ?_
        refine nw_iconst (pc := 58) (v := 1) h dX5_heard_58 (by decide) ?_
        refine nw_iadd (pc := 59) h dX5_heard_59 ?_
        refine pf5_250 (pc := 60) h rfl dX5_heard_60 ?_
        refine nw_aload_n (pc := 63) h dX5_heard_63 rfl 0 rfl ?_
        refine gf5_250 (pc := 64) h rfl dX5_heard_64 ?_
        exact nw_iret (pc := 67) h he dX5_heard_67 ⟨_, rfl, hf⟩
      · have hf := hf.1 c_27
        refine nw_bipush (pc := 30) (v := -4) h dX5_heard_30 (by decide) ?_
        exact nw_iret (pc := 32) h he dX5_heard_32 ⟨_, rfl, hf⟩
    · have hf := hf.1 c_15
      refine nw_sub (lv' := []) [] rfl ?_
      exact hL_18 _ (hf)
def f5_forget (K : Int32 → nw_ST → Prop) (σ : nw_ST)  : Prop := (K (nw_gS σ 37 28) (nw_sS σ 37 28 (0 : Int32)))
def rm5_forget : Room := { frames := 0, cells := 0, slots := 0, locals := 0 }
theorem yd5_forget : yX5_forget.cls = RX5 ∧ yX5_forget.cls ≠ "java/lang/invoke/MethodHandle" ∧ yX5_forget.cls ≠ "java/lang/invoke/VarHandle" ∧ (parseMethodDescriptor yX5_forget.desc).map (fun d => d.parameters.length) = some 0 := by decide +kernel
set_option maxHeartbeats 4000000 in
set_option maxRecDepth 100000 in
theorem ct5_forget (l : Launch) (P : nw_PT) (hD : nw_D P) (σ : nw_ST)   (K : Int32 → nw_ST → Prop) (hf : f5_forget K σ ) : nw_MT l yX5_forget cX5_forget 2 (some .int) rm5_forget P [.ref (P.2.1 37)] σ (nw_Ki K) := by
  refine nw_enter (by decide) (by first | decide | exact Nat.le_of_ble_eq_true rfl) hD ?_
  intro X hl h he hR
  subst hl
  have h : nw_ok P X cX5_forget RX5 2 := h
  show nw_G P X 2 σ [(0, .ref (P.2.1 37))] 0 []
  unfold f5_forget at hf
  refine nw_aload_n (pc := 0) h dX5_forget_0 rfl 0 rfl ?_
  refine gf5_250 (pc := 1) h rfl dX5_forget_1 ?_
  refine nw_istore_n (pc := 4) (lv' := [(1, .int (nw_gS σ 37 28)), (0, .ref (P.2.1 37))]) h dX5_forget_4 rfl (by decide) rfl ?_
  refine nw_aload_n (pc := 5) h dX5_forget_5 rfl 1 rfl ?_
  refine nw_iconst (pc := 6) (v := 0) h dX5_forget_6 (by decide) ?_
  refine pf5_250 (pc := 7) h rfl dX5_forget_7 ?_
  refine nw_iload_n (pc := 10) h dX5_forget_10 rfl 0 rfl ?_
  exact nw_iret (pc := 11) h he dX5_forget_11 ⟨_, rfl, hf⟩
def f5_isHeard_45 (K : Int32 → nw_ST → Prop) (H_8 : nw_ST → Int32 → Int32 → Prop) (σ : nw_ST) (x2 : Int32) (y0 : Int32) : Prop := (H_8 σ y0 (x2 + (1 : Int32)))
def b5_isHeard_8 (K : Int32 → nw_ST → Prop) (H_8 : nw_ST → Int32 → Int32 → Prop) (σ : nw_ST) (x1 : Int32) (x2 : Int32) : Prop := ((((nw_gS σ 37 28) ≤ x2) → ((nw_isZ x1) ∧ (K x1 σ))) ∧ (¬ ((nw_gS σ 37 28) ≤ x2) → ((((x1 = 0) → True) ∧ (¬ (x1 = 0) → ((vp_in x2 8) ∧ ((vp_in (nw_gA σ 55 x2.toNatClampNeg) 240) ∧ (vp_in x2 8))))) ∧ (f5_isHeard_45 K H_8 σ x2 (if (x1 = 0) then (0 : Int32) else (if ((nw_gA σ 53 (nw_gA σ 55 x2.toNatClampNeg).toNatClampNeg) = (nw_gA σ 56 x2.toNatClampNeg)) then (1 : Int32) else (0 : Int32)))))))
def f5_isHeard_8 (K : Int32 → nw_ST → Prop) : Nat → nw_ST → Int32 → Int32 → Prop
  | 0 => fun _ _ _ => False
  | n + 1 => b5_isHeard_8 K (f5_isHeard_8 K n)
def f5_isHeard (K : Int32 → nw_ST → Prop) (σ : nw_ST)  : Prop := (f5_lays (fun (s_1 : nw_ST) => (∃ n, f5_isHeard_8 K n s_1 (1 : Int32) (0 : Int32))) σ)
def rm5_isHeard : Room := { frames := 2, cells := 0, slots := 0, locals := 45 }
theorem yd5_isHeard : yX5_isHeard.cls = RX5 ∧ yX5_isHeard.cls ≠ "java/lang/invoke/MethodHandle" ∧ yX5_isHeard.cls ≠ "java/lang/invoke/VarHandle" ∧ (parseMethodDescriptor yX5_isHeard.desc).map (fun d => d.parameters.length) = some 0 := by decide +kernel
set_option maxHeartbeats 4000000 in
set_option maxRecDepth 100000 in
theorem ct5_isHeard (l : Launch) (P : nw_PT) (hD : nw_D P) (σ : nw_ST)   (K : Int32 → nw_ST → Prop) (hf : f5_isHeard K σ ) : nw_MT l yX5_isHeard cX5_isHeard 3 (some .boolean) rm5_isHeard P [.ref (P.2.1 37)] σ (nw_Ki K) := by
  refine nw_enter (by decide) (by first | decide | exact Nat.le_of_ble_eq_true rfl) hD ?_
  intro X hl h he hR
  subst hl
  have h : nw_ok P X cX5_isHeard RX5 3 := h
  show nw_G P X 3 σ [(0, .ref (P.2.1 37))] 0 []
  have hL_45 : ∀ (H_8 : nw_ST → Int32 → Int32 → Prop) (hH_8 : (∀ (σ : nw_ST) (x1 : Int32) (x2 : Int32), H_8 σ x1 x2 → nw_G P X 3 σ [(0, .ref (P.2.1 37)), (1, .int x1), (2, .int x2)] 8 [])), ∀ (σ : nw_ST) (x2 : Int32) (y0 : Int32), f5_isHeard_45 K H_8 σ x2 y0 → nw_G P X 3 σ [(0, .ref (P.2.1 37)), (2, .int x2)] 45 [.int y0] := by
    intro H_8 hH_8 σ x2 y0 hf
    unfold f5_isHeard_45 at hf
    refine nw_istore_n (pc := 45) (lv' := [(1, .int y0), (0, .ref (P.2.1 37)), (2, .int x2)]) h dX5_isHeard_45 rfl (by decide) rfl ?_
    refine nw_iinc (pc := 46) (v := (x2 + (1 : Int32))) (lv' := [(2, .int (x2 + (1 : Int32))), (1, .int y0), (0, .ref (P.2.1 37))]) h dX5_isHeard_46 (j := 2) rfl rfl (by decide) rfl ?_
    refine nw_goto (pc := 49) (tgt := 8) h dX5_isHeard_49 (by decide) ?_
    refine nw_sub (lv' := [(0, .ref (P.2.1 37)), (1, .int y0), (2, .int (x2 + (1 : Int32)))]) [2, 1, 0] rfl ?_
    exact hH_8 _ _ _ (hf)
  have hB_8 : ∀ (H_8 : nw_ST → Int32 → Int32 → Prop) (hH_8 : (∀ (σ : nw_ST) (x1 : Int32) (x2 : Int32), H_8 σ x1 x2 → nw_G P X 3 σ [(0, .ref (P.2.1 37)), (1, .int x1), (2, .int x2)] 8 [])), ∀ (σ : nw_ST) (x1 : Int32) (x2 : Int32), b5_isHeard_8 K H_8 σ x1 x2 → nw_G P X 3 σ [(0, .ref (P.2.1 37)), (1, .int x1), (2, .int x2)] 8 [] := by
    intro H_8 hH_8 σ x1 x2 hf
    unfold b5_isHeard_8 at hf
    refine nw_iload_n (pc := 8) h dX5_isHeard_8 rfl 2 rfl ?_
    refine nw_aload_n (pc := 9) h dX5_isHeard_9 rfl 0 rfl ?_
    refine gf5_250 (pc := 10) h rfl dX5_isHeard_10 ?_
    refine nw_icmp_ge (pc := 13) (tgt := 52) h dX5_isHeard_13 (by decide) (fun c_13 => ?_) (fun c_13 => ?_)
    · have hf := hf.1 c_13
      refine nw_iload_n (pc := 52) h dX5_isHeard_52 rfl 1 rfl ?_
      exact nw_zret (pc := 53) h he dX5_isHeard_53 hf.1 ⟨_, rfl, hf.2⟩
    · have hf := hf.2 c_13
      refine nw_iload_n (pc := 16) h dX5_isHeard_16 rfl 1 rfl ?_
      obtain ⟨ho, hf⟩ := hf
      refine nw_if_eq (pc := 17) (tgt := 44) h dX5_isHeard_17 (by decide) (fun c_17 => ?_) (fun c_17 => ?_)
      · skip
        have ho := ho.1 c_17
        refine nw_iconst (pc := 44) (v := 0) h dX5_isHeard_44 (by decide) ?_
        simp only [if_pos c_17] at hf
        refine nw_sub (lv' := [(0, .ref (P.2.1 37)), (2, .int x2)]) [0, 2] rfl ?_
        exact hL_45 H_8 hH_8 _ _ _ hf
      · skip
        have ho := ho.2 c_17
        refine nw_aload_n (pc := 20) h dX5_isHeard_20 rfl 0 rfl ?_
        refine gf5_55 (pc := 21) (r := 53) h rfl rfl dX5_isHeard_21 ?_
        refine nw_aload_n (pc := 24) h dX5_isHeard_24 rfl 0 rfl ?_
        refine gf5_62 (pc := 25) (r := 55) h rfl rfl dX5_isHeard_25 ?_
        refine nw_iload_n (pc := 28) h dX5_isHeard_28 rfl 2 rfl ?_
        obtain ⟨h_29, ho⟩ := ho
        refine nw_iald (pc := 29) (n := 8) h rfl rfl h_29 dX5_isHeard_29 ?_
        obtain ⟨h_30, ho⟩ := ho
        refine nw_iald (pc := 30) (n := 240) h rfl rfl h_30 dX5_isHeard_30 ?_
        refine nw_aload_n (pc := 31) h dX5_isHeard_31 rfl 0 rfl ?_
        refine gf5_65 (pc := 32) (r := 56) h rfl rfl dX5_isHeard_32 ?_
        refine nw_iload_n (pc := 35) h dX5_isHeard_35 rfl 2 rfl ?_
        have h_36 := ho
        refine nw_iald (pc := 36) (n := 8) h rfl rfl h_36 dX5_isHeard_36 ?_
        refine nw_icmp_ne (pc := 37) (tgt := 44) h dX5_isHeard_37 (by decide) (fun c_37 => ?_) (fun c_37 => ?_)
        · skip
          refine nw_iconst (pc := 44) (v := 0) h dX5_isHeard_44 (by decide) ?_
          simp only [if_neg c_17, if_neg c_37] at hf
          refine nw_sub (lv' := [(0, .ref (P.2.1 37)), (2, .int x2)]) [0, 2] rfl ?_
          exact hL_45 H_8 hH_8 _ _ _ hf
        · skip
          refine nw_iconst (pc := 40) (v := 1) h dX5_isHeard_40 (by decide) ?_
          refine nw_goto (pc := 41) (tgt := 45) h dX5_isHeard_41 (by decide) ?_
          simp only [if_neg c_17, if_pos c_37] at hf
          refine nw_sub (lv' := [(0, .ref (P.2.1 37)), (2, .int x2)]) [0, 2] rfl ?_
          exact hL_45 H_8 hH_8 _ _ _ hf
  have hL_8 :  ∀ (n : Nat) (σ : nw_ST) (x1 : Int32) (x2 : Int32), f5_isHeard_8 K n σ x1 x2 → nw_G P X 3 σ [(0, .ref (P.2.1 37)), (1, .int x1), (2, .int x2)] 8 [] := by
    intro n
    induction n with
    | zero => intro σ x1 x2 hf; exact False.elim hf
    | succ n ih => exact hB_8 _ ih
  unfold f5_isHeard at hf
  refine nw_aload_n (pc := 0) h dX5_isHeard_0 rfl 0 rfl ?_
  refine klX5_195 (pc := 1) h (by rw [hR]; decide) hf (Nat.le_of_ble_eq_true rfl) dX5_isHeard_1 (fun s_1 hf => ?_)
  refine nw_iconst (pc := 4) (v := 1) h dX5_isHeard_4 (by decide) ?_
  refine nw_istore_n (pc := 5) (lv' := [(1, .int (1 : Int32)), (0, .ref (P.2.1 37))]) h dX5_isHeard_5 rfl (by decide) rfl ?_
  refine nw_iconst (pc := 6) (v := 0) h dX5_isHeard_6 (by decide) ?_
  refine nw_istore_n (pc := 7) (lv' := [(2, .int (0 : Int32)), (1, .int (1 : Int32)), (0, .ref (P.2.1 37))]) h dX5_isHeard_7 rfl (by decide) rfl ?_
  obtain ⟨n_8, hf⟩ := hf
  refine nw_sub (lv' := [(0, .ref (P.2.1 37)), (1, .int (1 : Int32)), (2, .int (0 : Int32))]) [2, 1, 0] rfl ?_
  exact hL_8 n_8 _ _ _ hf
theorem klX5_253 {P : nw_PT} {X : nw_EX} {cc : ByteArray} {nL : Nat} {σ : nw_ST} {lv : List (Nat × Value)} {pc : Nat} {rest : List Value}  (h : nw_ok P X cc RX5 nL) (hR : rm5_isHeard.frames + 1 ≤ X.2.2.2.1.frames ∧ 8 + (3 + 11) + rm5_isHeard.locals ≤ X.2.2.2.1.locals)  {K : Int32 → nw_ST → Prop} (hf : f5_isHeard K σ) (hst : (rest.map fun v => v.category).sum ≤ 8) (hd : decode cc pc = .ok (.invokevirtual 253, 3)) (k : ∀ (r : Int32) (s2 : nw_ST), K r s2 → nw_G P X nL s2 lv (pc + 3) (.int r :: rest)) : nw_G P X nL σ lv pc (.ref (P.2.1 37) :: rest) :=
  nw_callV (As := []) (rest := rest) (C := RX5) (ci := 5) h (ct5_isHeard _ P h.2.2 σ  K hf) (nw_goodV nw_w530 nw_w531 nw_w532 nw_w342 nw_w533) yd5_isHeard rfl hR ⟨rfl, rfl⟩ rfl (by decide) rfl rfl hst rfl hd (fun v s2 z => by obtain ⟨r, rfl, z⟩ := z; exact k r s2 z)
def f5_skippedOf_65 (K : Int32 → nw_ST → Prop) (H_32 : nw_ST → Int32 → Int32 → Prop) (σ : nw_ST) (x3 : Int32) (y0 : Int32) (y1 : Int32) : Prop := (H_32 σ (y1 ||| y0) (x3 + (1 : Int32)))
def b5_skippedOf_32 (K : Int32 → nw_ST → Prop) (H_32 : nw_ST → Int32 → Int32 → Prop) (σ : nw_ST) (x2 : Int32) (x3 : Int32) : Prop := ((((32 : Int32) ≤ x3) → (K x2 σ)) ∧ (¬ ((32 : Int32) ≤ x3) → ((vp_in (nw_gS σ 37 11) 13) ∧ (f5_isHeard (fun (r_50 : Int32) (s_50 : nw_ST) => (f5_skippedOf_65 K H_32 s_50 x3 (if (r_50 = 0) then (0 : Int32) else (nw_shl (1 : Int32) (x3 - (1 : Int32)))) x2)) (nw_sA σ 46 (nw_gS σ 37 11).toNatClampNeg x3)))))
def f5_skippedOf_32 (K : Int32 → nw_ST → Prop) : Nat → nw_ST → Int32 → Int32 → Prop
  | 0 => fun _ _ _ => False
  | n + 1 => b5_skippedOf_32 K (f5_skippedOf_32 K n)
def f5_skippedOf (K : Int32 → nw_ST → Prop) (σ : nw_ST) (a1 : Int32) : Prop := (f5_reads (fun (s_1 : nw_ST) => (f5_asTold (fun (s_5 : nw_ST) => ((vp_in (nw_gS (nw_sS s_5 37 22 ((nw_gS s_5 37 11) + (1 : Int32))) 37 11) 13) ∧ (∃ n, f5_skippedOf_32 K n (nw_sA (nw_sS s_5 37 22 ((nw_gS s_5 37 11) + (1 : Int32))) 47 (nw_gS (nw_sS s_5 37 22 ((nw_gS s_5 37 11) + (1 : Int32))) 37 11).toNatClampNeg a1) (0 : Int32) (1 : Int32)))) s_1)) σ)
def rm5_skippedOf : Room := { frames := 7, cells := 0, slots := 0, locals := 160 }
theorem yd5_skippedOf : yX5_skippedOf.cls = RX5 ∧ yX5_skippedOf.cls ≠ "java/lang/invoke/MethodHandle" ∧ yX5_skippedOf.cls ≠ "java/lang/invoke/VarHandle" ∧ (parseMethodDescriptor yX5_skippedOf.desc).map (fun d => d.parameters.length) = some 1 := by decide +kernel
set_option maxHeartbeats 4000000 in
set_option maxRecDepth 100000 in
theorem ct5_skippedOf (l : Launch) (P : nw_PT) (hD : nw_D P) (σ : nw_ST) (a1 : Int32)  (K : Int32 → nw_ST → Prop) (hf : f5_skippedOf K σ a1) : nw_MT l yX5_skippedOf cX5_skippedOf 4 (some .int) rm5_skippedOf P [.ref (P.2.1 37), .int a1] σ (nw_Ki K) := by
  refine nw_enter (by decide) (by first | decide | exact Nat.le_of_ble_eq_true rfl) hD ?_
  intro X hl h he hR
  subst hl
  have h : nw_ok P X cX5_skippedOf RX5 4 := h
  show nw_G P X 4 σ [(0, .ref (P.2.1 37)), (1, .int a1)] 0 []
  have hL_65 : ∀ (H_32 : nw_ST → Int32 → Int32 → Prop) (hH_32 : (∀ (σ : nw_ST) (x2 : Int32) (x3 : Int32), H_32 σ x2 x3 → nw_G P X 4 σ [(0, .ref (P.2.1 37)), (2, .int x2), (3, .int x3)] 32 [])), ∀ (σ : nw_ST) (x3 : Int32) (y0 : Int32) (y1 : Int32), f5_skippedOf_65 K H_32 σ x3 y0 y1 → nw_G P X 4 σ [(0, .ref (P.2.1 37)), (3, .int x3)] 65 [.int y0, .int y1] := by
    intro H_32 hH_32 σ x3 y0 y1 hf
    unfold f5_skippedOf_65 at hf
    refine nw_ior (pc := 65) h dX5_skippedOf_65 ?_
    refine nw_istore_n (pc := 66) (lv' := [(2, .int (y1 ||| y0)), (0, .ref (P.2.1 37)), (3, .int x3)]) h dX5_skippedOf_66 rfl (by decide) rfl ?_
    refine nw_iinc (pc := 67) (v := (x3 + (1 : Int32))) (lv' := [(3, .int (x3 + (1 : Int32))), (2, .int (y1 ||| y0)), (0, .ref (P.2.1 37))]) h dX5_skippedOf_67 (j := 2) rfl rfl (by decide) rfl ?_
    refine nw_goto (pc := 70) (tgt := 32) h dX5_skippedOf_70 (by decide) ?_
    refine nw_sub (lv' := [(0, .ref (P.2.1 37)), (2, .int (y1 ||| y0)), (3, .int (x3 + (1 : Int32)))]) [2, 1, 0] rfl ?_
    exact hH_32 _ _ _ (hf)
  have hB_32 : ∀ (H_32 : nw_ST → Int32 → Int32 → Prop) (hH_32 : (∀ (σ : nw_ST) (x2 : Int32) (x3 : Int32), H_32 σ x2 x3 → nw_G P X 4 σ [(0, .ref (P.2.1 37)), (2, .int x2), (3, .int x3)] 32 [])), ∀ (σ : nw_ST) (x2 : Int32) (x3 : Int32), b5_skippedOf_32 K H_32 σ x2 x3 → nw_G P X 4 σ [(0, .ref (P.2.1 37)), (2, .int x2), (3, .int x3)] 32 [] := by
    intro H_32 hH_32 σ x2 x3 hf
    unfold b5_skippedOf_32 at hf
    refine nw_iload_n (pc := 32) h dX5_skippedOf_32 rfl 2 rfl ?_
    refine nw_bipush (pc := 33) (v := 32) h dX5_skippedOf_33 (by decide) ?_
    refine nw_icmp_ge (pc := 35) (tgt := 73) h dX5_skippedOf_35 (by decide) (fun c_35 => ?_) (fun c_35 => ?_)
    · have hf := hf.1 c_35
      refine nw_iload_n (pc := 73) h dX5_skippedOf_73 rfl 1 rfl ?_
      exact nw_iret (pc := 74) h he dX5_skippedOf_74 ⟨_, rfl, hf⟩
    · have hf := hf.2 c_35
      refine nw_aload_n (pc := 38) h dX5_skippedOf_38 rfl 0 rfl ?_
      refine gf5_34 (pc := 39) (r := 46) h rfl rfl dX5_skippedOf_39 ?_
      refine nw_aload_n (pc := 42) h dX5_skippedOf_42 rfl 0 rfl ?_
      refine gf5_140 (pc := 43) h rfl dX5_skippedOf_43 ?_
      refine nw_iload_n (pc := 46) h dX5_skippedOf_46 rfl 2 rfl ?_
      obtain ⟨h_47, hf⟩ := hf
      refine nw_iast (pc := 47) (n := 13) h rfl rfl h_47 dX5_skippedOf_47 ?_
      refine nw_iload_n (pc := 48) h dX5_skippedOf_48 rfl 1 rfl ?_
      refine nw_aload_n (pc := 49) h dX5_skippedOf_49 rfl 0 rfl ?_
      refine klX5_253 (pc := 50) h (by rw [hR]; decide) hf (Nat.le_of_ble_eq_true rfl) dX5_skippedOf_50 (fun r_50 s_50 hf => ?_)
      refine nw_if_eq (pc := 53) (tgt := 64) h dX5_skippedOf_53 (by decide) (fun c_53 => ?_) (fun c_53 => ?_)
      · skip
        refine nw_iconst (pc := 64) (v := 0) h dX5_skippedOf_64 (by decide) ?_
        simp only [if_pos c_53] at hf
        refine nw_sub (lv' := [(0, .ref (P.2.1 37)), (3, .int x3)]) [0, 2] rfl ?_
        exact hL_65 H_32 hH_32 _ _ _ _ hf
      · skip
        refine nw_iconst (pc := 56) (v := 1) h dX5_skippedOf_56 (by decide) ?_
        refine nw_iload_n (pc := 57) h dX5_skippedOf_57 rfl 2 rfl ?_
        refine nw_iconst (pc := 58) (v := 1) h dX5_skippedOf_58 (by decide) ?_
        refine nw_isub (pc := 59) h dX5_skippedOf_59 ?_
        refine nw_ishl (pc := 60) h dX5_skippedOf_60 ?_
        refine nw_goto (pc := 61) (tgt := 65) h dX5_skippedOf_61 (by decide) ?_
        simp only [if_neg c_53] at hf
        refine nw_sub (lv' := [(0, .ref (P.2.1 37)), (3, .int x3)]) [0, 2] rfl ?_
        exact hL_65 H_32 hH_32 _ _ _ _ hf
  have hL_32 :  ∀ (n : Nat) (σ : nw_ST) (x2 : Int32) (x3 : Int32), f5_skippedOf_32 K n σ x2 x3 → nw_G P X 4 σ [(0, .ref (P.2.1 37)), (2, .int x2), (3, .int x3)] 32 [] := by
    intro n
    induction n with
    | zero => intro σ x2 x3 hf; exact False.elim hf
    | succ n ih => exact hB_32 _ ih
  unfold f5_skippedOf at hf
  refine nw_aload_n (pc := 0) h dX5_skippedOf_0 rfl 0 rfl ?_
  refine klX5_122 (pc := 1) h (by rw [hR]; decide) hf (Nat.le_of_ble_eq_true rfl) dX5_skippedOf_1 (fun s_1 hf => ?_)
  refine nw_aload_n (pc := 4) h dX5_skippedOf_4 rfl 0 rfl ?_
  refine klX5_192 (pc := 5) h (by rw [hR]; decide) hf (Nat.le_of_ble_eq_true rfl) dX5_skippedOf_5 (fun s_5 hf => ?_)
  refine nw_aload_n (pc := 8) h dX5_skippedOf_8 rfl 0 rfl ?_
  refine nw_aload_n (pc := 9) h dX5_skippedOf_9 rfl 0 rfl ?_
  refine gf5_140 (pc := 10) h rfl dX5_skippedOf_10 ?_
  refine nw_iconst (pc := 13) (v := 1) h dX5_skippedOf_13 (by decide) ?_
  refine nw_iadd (pc := 14) h dX5_skippedOf_14 ?_
  refine pf5_164 (pc := 15) h rfl dX5_skippedOf_15 ?_
  refine nw_aload_n (pc := 18) h dX5_skippedOf_18 rfl 0 rfl ?_
  refine gf5_37 (pc := 19) (r := 47) h rfl rfl dX5_skippedOf_19 ?_
  refine nw_aload_n (pc := 22) h dX5_skippedOf_22 rfl 0 rfl ?_
  refine gf5_140 (pc := 23) h rfl dX5_skippedOf_23 ?_
  refine nw_iload_n (pc := 26) h dX5_skippedOf_26 rfl 1 rfl ?_
  obtain ⟨h_27, hf⟩ := hf
  refine nw_iast (pc := 27) (n := 13) h rfl rfl h_27 dX5_skippedOf_27 ?_
  refine nw_iconst (pc := 28) (v := 0) h dX5_skippedOf_28 (by decide) ?_
  refine nw_istore_n (pc := 29) (lv' := [(2, .int (0 : Int32)), (0, .ref (P.2.1 37)), (1, .int a1)]) h dX5_skippedOf_29 rfl (by decide) rfl ?_
  refine nw_iconst (pc := 30) (v := 1) h dX5_skippedOf_30 (by decide) ?_
  refine nw_istore_n (pc := 31) (lv' := [(3, .int (1 : Int32)), (2, .int (0 : Int32)), (0, .ref (P.2.1 37)), (1, .int a1)]) h dX5_skippedOf_31 rfl (by decide) rfl ?_
  obtain ⟨n_32, hf⟩ := hf
  refine nw_sub (lv' := [(0, .ref (P.2.1 37)), (2, .int (0 : Int32)), (3, .int (1 : Int32))]) [2, 1, 0] rfl ?_
  exact hL_32 n_32 _ _ _ hf
theorem klX5_257 {P : nw_PT} {X : nw_EX} {cc : ByteArray} {nL : Nat} {σ : nw_ST} {lv : List (Nat × Value)} {pc : Nat} {rest : List Value} {a1 : Int32} (h : nw_ok P X cc RX5 nL) (hR : rm5_skippedOf.frames + 1 ≤ X.2.2.2.1.frames ∧ 8 + (4 + 11) + rm5_skippedOf.locals ≤ X.2.2.2.1.locals)  {K : Int32 → nw_ST → Prop} (hf : f5_skippedOf K σ a1) (hst : (rest.map fun v => v.category).sum ≤ 8) (hd : decode cc pc = .ok (.invokevirtual 257, 3)) (k : ∀ (r : Int32) (s2 : nw_ST), K r s2 → nw_G P X nL s2 lv (pc + 3) (.int r :: rest)) : nw_G P X nL σ lv pc (.int a1 :: .ref (P.2.1 37) :: rest) :=
  nw_callV (As := [.int a1]) (rest := rest) (C := RX5) (ci := 5) h (ct5_skippedOf _ P h.2.2 σ a1 K hf) (nw_goodV nw_w534 nw_w535 nw_w536 nw_w342 nw_w537) yd5_skippedOf rfl hR ⟨rfl, rfl⟩ rfl (by decide) rfl rfl hst rfl hd (fun v s2 z => by obtain ⟨r, rfl, z⟩ := z; exact k r s2 z)
def f5_skipped_20 (K : Int32 → nw_ST → Prop) (σ : nw_ST) (y0 : Int32) : Prop := (K y0 σ)
def f5_skipped (K : Int32 → nw_ST → Prop) (σ : nw_ST) (a1 : Int32) : Prop := ((((v5_in a1 (1 : Int32) (11 : Int32)) = 0) → (f5_skipped_20 K σ (-2 : Int32))) ∧ (¬ ((v5_in a1 (1 : Int32) (11 : Int32)) = 0) → (f5_skippedOf (fun (r_12 : Int32) (s_12 : nw_ST) => (f5_skipped_20 K s_12 r_12)) σ a1)))
def rm5_skipped : Room := { frames := 8, cells := 0, slots := 0, locals := 183 }
theorem yd5_skipped : yX5_skipped.cls = RX5 ∧ yX5_skipped.cls ≠ "java/lang/invoke/MethodHandle" ∧ yX5_skipped.cls ≠ "java/lang/invoke/VarHandle" ∧ (parseMethodDescriptor yX5_skipped.desc).map (fun d => d.parameters.length) = some 1 := by decide +kernel
set_option maxHeartbeats 4000000 in
set_option maxRecDepth 100000 in
theorem ct5_skipped (l : Launch) (P : nw_PT) (hD : nw_D P) (σ : nw_ST) (a1 : Int32)  (K : Int32 → nw_ST → Prop) (hf : f5_skipped K σ a1) : nw_MT l yX5_skipped cX5_skipped 2 (some .int) rm5_skipped P [.ref (P.2.1 37), .int a1] σ (nw_Ki K) := by
  refine nw_enter (by decide) (by first | decide | exact Nat.le_of_ble_eq_true rfl) hD ?_
  intro X hl h he hR
  subst hl
  have h : nw_ok P X cX5_skipped RX5 2 := h
  show nw_G P X 2 σ [(0, .ref (P.2.1 37)), (1, .int a1)] 0 []
  have hL_20 :  ∀ (σ : nw_ST) (y0 : Int32), f5_skipped_20 K σ y0 → nw_G P X 2 σ [] 20 [.int y0] := by
    intro σ y0 hf
    unfold f5_skipped_20 at hf
    exact nw_iret (pc := 20) h he dX5_skipped_20 ⟨_, rfl, hf⟩
  unfold f5_skipped at hf
  refine nw_iload_n (pc := 0) h dX5_skipped_0 rfl 1 rfl ?_
  refine nw_iconst (pc := 1) (v := 1) h dX5_skipped_1 (by decide) ?_
  refine nw_bipush (pc := 2) (v := 11) h dX5_skipped_2 (by decide) ?_
  refine klX5_89 (pc := 4) h (by rw [hR]; decide) (Nat.le_of_ble_eq_true rfl) dX5_skipped_4 ?_
  refine nw_if_eq (pc := 7) (tgt := 18) h dX5_skipped_7 (by decide) (fun c_7 => ?_) (fun c_7 => ?_)
  · have hf := hf.1 c_7
    refine nw_bipush (pc := 18) (v := -2) h dX5_skipped_18 (by decide) ?_
    refine nw_sub (lv' := []) [] rfl ?_
    exact hL_20 _ _ (hf)
  · have hf := hf.2 c_7
    refine nw_aload_n (pc := 10) h dX5_skipped_10 rfl 0 rfl ?_
    refine nw_iload_n (pc := 11) h dX5_skipped_11 rfl 1 rfl ?_
    refine klX5_257 (pc := 12) h (by rw [hR]; decide) hf (Nat.le_of_ble_eq_true rfl) dX5_skipped_12 (fun r_12 s_12 hf => ?_)
    refine nw_goto (pc := 15) (tgt := 20) h dX5_skipped_15 (by decide) ?_
    refine nw_sub (lv' := []) [] rfl ?_
    exact hL_20 _ _ (hf)
def f5_voidsOf_96 (K : Int32 → nw_ST → Prop) (σ : nw_ST) (y0 : Int32) : Prop := (K y0 σ)
def f5_voidsOf_78 (K : Int32 → nw_ST → Prop) (H_25 : nw_ST → Int32 → Int32 → Int32 → Int32 → Prop) (σ : nw_ST) (x1 : Int32) (x3 : Int32) (x4 : Int32) (y0 : Int32) (y1 : Int32) : Prop := (H_25 σ x1 (y1 + y0) x3 (x4 + (1 : Int32)))
def f5_voidsOf_66 (K : Int32 → nw_ST → Prop) (H_25 : nw_ST → Int32 → Int32 → Int32 → Int32 → Prop) (σ : nw_ST) (x1 : Int32) (x2 : Int32) (x4 : Int32) (x5 : Int32) (y0 : Int32) : Prop := (f5_voidsOf_78 K H_25 σ x1 y0 x4 (if (x5 = 0) then (0 : Int32) else (1 : Int32)) x2)
def b5_voidsOf_25 (K : Int32 → nw_ST → Prop) (H_25 : nw_ST → Int32 → Int32 → Int32 → Int32 → Prop) (σ : nw_ST) (x1 : Int32) (x2 : Int32) (x3 : Int32) (x4 : Int32) : Prop := ((((240 : Int32) ≤ x4) → (f5_voidsOf_96 K σ (if (x1 = (-1 : Int32)) then x2 else x3))) ∧ (¬ ((240 : Int32) ≤ x4) → ((vp_in (nw_gS σ 37 14) 9) ∧ (f5_isHeard (fun (r_45 : Int32) (s_45 : nw_ST) => (f5_voidsOf_66 K H_25 s_45 x1 x2 x4 r_45 (if (r_45 = 0) then x3 else (if (x2 = x1) then x4 else x3)))) (nw_sA σ 48 (nw_gS σ 37 14).toNatClampNeg x4)))))
def f5_voidsOf_25 (K : Int32 → nw_ST → Prop) : Nat → nw_ST → Int32 → Int32 → Int32 → Int32 → Prop
  | 0 => fun _ _ _ _ _ => False
  | n + 1 => b5_voidsOf_25 K (f5_voidsOf_25 K n)
def f5_voidsOf (K : Int32 → nw_ST → Prop) (σ : nw_ST) (a1 : Int32) : Prop := (f5_reads (fun (s_1 : nw_ST) => (f5_asTold (fun (s_5 : nw_ST) => (∃ n, f5_voidsOf_25 K n (nw_sS s_5 37 23 ((nw_gS s_5 37 14) + (1 : Int32))) a1 (0 : Int32) (-1 : Int32) (0 : Int32))) s_1)) σ)
def rm5_voidsOf : Room := { frames := 7, cells := 0, slots := 0, locals := 160 }
theorem yd5_voidsOf : yX5_voidsOf.cls = RX5 ∧ yX5_voidsOf.cls ≠ "java/lang/invoke/MethodHandle" ∧ yX5_voidsOf.cls ≠ "java/lang/invoke/VarHandle" ∧ (parseMethodDescriptor yX5_voidsOf.desc).map (fun d => d.parameters.length) = some 1 := by decide +kernel
set_option maxHeartbeats 4000000 in
set_option maxRecDepth 100000 in
theorem ct5_voidsOf (l : Launch) (P : nw_PT) (hD : nw_D P) (σ : nw_ST) (a1 : Int32)  (K : Int32 → nw_ST → Prop) (hf : f5_voidsOf K σ a1) : nw_MT l yX5_voidsOf cX5_voidsOf 6 (some .int) rm5_voidsOf P [.ref (P.2.1 37), .int a1] σ (nw_Ki K) := by
  refine nw_enter (by decide) (by first | decide | exact Nat.le_of_ble_eq_true rfl) hD ?_
  intro X hl h he hR
  subst hl
  have h : nw_ok P X cX5_voidsOf RX5 6 := h
  show nw_G P X 6 σ [(0, .ref (P.2.1 37)), (1, .int a1)] 0 []
  have hL_96 :  ∀ (σ : nw_ST) (y0 : Int32), f5_voidsOf_96 K σ y0 → nw_G P X 6 σ [] 96 [.int y0] := by
    intro σ y0 hf
    unfold f5_voidsOf_96 at hf
    exact nw_iret (pc := 96) h he dX5_voidsOf_96 ⟨_, rfl, hf⟩
  have hL_78 : ∀ (H_25 : nw_ST → Int32 → Int32 → Int32 → Int32 → Prop) (hH_25 : (∀ (σ : nw_ST) (x1 : Int32) (x2 : Int32) (x3 : Int32) (x4 : Int32), H_25 σ x1 x2 x3 x4 → nw_G P X 6 σ [(0, .ref (P.2.1 37)), (1, .int x1), (2, .int x2), (3, .int x3), (4, .int x4)] 25 [])), ∀ (σ : nw_ST) (x1 : Int32) (x3 : Int32) (x4 : Int32) (y0 : Int32) (y1 : Int32), f5_voidsOf_78 K H_25 σ x1 x3 x4 y0 y1 → nw_G P X 6 σ [(0, .ref (P.2.1 37)), (1, .int x1), (3, .int x3), (4, .int x4)] 78 [.int y0, .int y1] := by
    intro H_25 hH_25 σ x1 x3 x4 y0 y1 hf
    unfold f5_voidsOf_78 at hf
    refine nw_iadd (pc := 78) h dX5_voidsOf_78 ?_
    refine nw_istore_n (pc := 79) (lv' := [(2, .int (y1 + y0)), (0, .ref (P.2.1 37)), (1, .int x1), (3, .int x3), (4, .int x4)]) h dX5_voidsOf_79 rfl (by decide) rfl ?_
    refine nw_iinc (pc := 80) (v := (x4 + (1 : Int32))) (lv' := [(4, .int (x4 + (1 : Int32))), (2, .int (y1 + y0)), (0, .ref (P.2.1 37)), (1, .int x1), (3, .int x3)]) h dX5_voidsOf_80 (j := 4) rfl rfl (by decide) rfl ?_
    refine nw_goto (pc := 83) (tgt := 25) h dX5_voidsOf_83 (by decide) ?_
    refine nw_sub (lv' := [(0, .ref (P.2.1 37)), (1, .int x1), (2, .int (y1 + y0)), (3, .int x3), (4, .int (x4 + (1 : Int32)))]) [2, 3, 1, 4, 0] rfl ?_
    exact hH_25 _ _ _ _ _ (hf)
  have hL_66 : ∀ (H_25 : nw_ST → Int32 → Int32 → Int32 → Int32 → Prop) (hH_25 : (∀ (σ : nw_ST) (x1 : Int32) (x2 : Int32) (x3 : Int32) (x4 : Int32), H_25 σ x1 x2 x3 x4 → nw_G P X 6 σ [(0, .ref (P.2.1 37)), (1, .int x1), (2, .int x2), (3, .int x3), (4, .int x4)] 25 [])), ∀ (σ : nw_ST) (x1 : Int32) (x2 : Int32) (x4 : Int32) (x5 : Int32) (y0 : Int32), f5_voidsOf_66 K H_25 σ x1 x2 x4 x5 y0 → nw_G P X 6 σ [(0, .ref (P.2.1 37)), (1, .int x1), (2, .int x2), (4, .int x4), (5, .int x5)] 66 [.int y0] := by
    intro H_25 hH_25 σ x1 x2 x4 x5 y0 hf
    unfold f5_voidsOf_66 at hf
    refine nw_istore_n (pc := 66) (lv' := [(3, .int y0), (0, .ref (P.2.1 37)), (1, .int x1), (2, .int x2), (4, .int x4), (5, .int x5)]) h dX5_voidsOf_66 rfl (by decide) rfl ?_
    refine nw_iload_n (pc := 67) h dX5_voidsOf_67 rfl 3 rfl ?_
    refine nw_iload (pc := 68) h dX5_voidsOf_68 5 rfl ?_
    refine nw_if_eq (pc := 70) (tgt := 77) h dX5_voidsOf_70 (by decide) (fun c_70 => ?_) (fun c_70 => ?_)
    · skip
      refine nw_iconst (pc := 77) (v := 0) h dX5_voidsOf_77 (by decide) ?_
      simp only [if_pos c_70] at hf
      refine nw_sub (lv' := [(0, .ref (P.2.1 37)), (1, .int x1), (3, .int y0), (4, .int x4)]) [1, 2, 0, 4] rfl ?_
      exact hL_78 H_25 hH_25 _ _ _ _ _ _ hf
    · skip
      refine nw_iconst (pc := 73) (v := 1) h dX5_voidsOf_73 (by decide) ?_
      refine nw_goto (pc := 74) (tgt := 78) h dX5_voidsOf_74 (by decide) ?_
      simp only [if_neg c_70] at hf
      refine nw_sub (lv' := [(0, .ref (P.2.1 37)), (1, .int x1), (3, .int y0), (4, .int x4)]) [1, 2, 0, 4] rfl ?_
      exact hL_78 H_25 hH_25 _ _ _ _ _ _ hf
  have hB_25 : ∀ (H_25 : nw_ST → Int32 → Int32 → Int32 → Int32 → Prop) (hH_25 : (∀ (σ : nw_ST) (x1 : Int32) (x2 : Int32) (x3 : Int32) (x4 : Int32), H_25 σ x1 x2 x3 x4 → nw_G P X 6 σ [(0, .ref (P.2.1 37)), (1, .int x1), (2, .int x2), (3, .int x3), (4, .int x4)] 25 [])), ∀ (σ : nw_ST) (x1 : Int32) (x2 : Int32) (x3 : Int32) (x4 : Int32), b5_voidsOf_25 K H_25 σ x1 x2 x3 x4 → nw_G P X 6 σ [(0, .ref (P.2.1 37)), (1, .int x1), (2, .int x2), (3, .int x3), (4, .int x4)] 25 [] := by
    intro H_25 hH_25 σ x1 x2 x3 x4 hf
    unfold b5_voidsOf_25 at hf
    refine nw_iload (pc := 25) h dX5_voidsOf_25 4 rfl ?_
    refine nw_sipush (pc := 27) (v := 240) h dX5_voidsOf_27 (by decide) ?_
    refine nw_icmp_ge (pc := 30) (tgt := 86) h dX5_voidsOf_30 (by decide) (fun c_30 => ?_) (fun c_30 => ?_)
    · have hf := hf.1 c_30
      refine nw_iload_n (pc := 86) h dX5_voidsOf_86 rfl 1 rfl ?_
      refine nw_iconst (pc := 87) (v := -1) h dX5_voidsOf_87 (by decide) ?_
      refine nw_icmp_ne (pc := 88) (tgt := 95) h dX5_voidsOf_88 (by decide) (fun c_88 => ?_) (fun c_88 => ?_)
      · skip
        refine nw_iload_n (pc := 95) h dX5_voidsOf_95 rfl 3 rfl ?_
        simp only [if_neg c_88] at hf
        refine nw_sub (lv' := []) [] rfl ?_
        exact hL_96 _ _ hf
      · skip
        refine nw_iload_n (pc := 91) h dX5_voidsOf_91 rfl 2 rfl ?_
        refine nw_goto (pc := 92) (tgt := 96) h dX5_voidsOf_92 (by decide) ?_
        simp only [if_pos c_88] at hf
        refine nw_sub (lv' := []) [] rfl ?_
        exact hL_96 _ _ hf
    · have hf := hf.2 c_30
      refine nw_aload_n (pc := 33) h dX5_voidsOf_33 rfl 0 rfl ?_
      refine gf5_40 (pc := 34) (r := 48) h rfl rfl dX5_voidsOf_34 ?_
      refine nw_aload_n (pc := 37) h dX5_voidsOf_37 rfl 0 rfl ?_
      refine gf5_146 (pc := 38) h rfl dX5_voidsOf_38 ?_
      refine nw_iload (pc := 41) h dX5_voidsOf_41 4 rfl ?_
      obtain ⟨h_43, hf⟩ := hf
      refine nw_iast (pc := 43) (n := 9) h rfl rfl h_43 dX5_voidsOf_43 ?_
      refine nw_aload_n (pc := 44) h dX5_voidsOf_44 rfl 0 rfl ?_
      refine klX5_253 (pc := 45) h (by rw [hR]; decide) hf (Nat.le_of_ble_eq_true rfl) dX5_voidsOf_45 (fun r_45 s_45 hf => ?_)
      refine nw_istore (pc := 48) (lv' := [(5, .int r_45), (0, .ref (P.2.1 37)), (1, .int x1), (2, .int x2), (3, .int x3), (4, .int x4)]) h dX5_voidsOf_48 (by decide) rfl ?_
      refine nw_iload (pc := 50) h dX5_voidsOf_50 0 rfl ?_
      refine nw_if_eq (pc := 52) (tgt := 65) h dX5_voidsOf_52 (by decide) (fun c_52 => ?_) (fun c_52 => ?_)
      · skip
        refine nw_iload_n (pc := 65) h dX5_voidsOf_65 rfl 4 rfl ?_
        simp only [if_pos c_52] at hf
        refine nw_sub (lv' := [(0, .ref (P.2.1 37)), (1, .int x1), (2, .int x2), (4, .int x4), (5, .int r_45)]) [1, 2, 3, 5, 0] rfl ?_
        exact hL_66 H_25 hH_25 _ _ _ _ _ _ hf
      · skip
        refine nw_iload_n (pc := 55) h dX5_voidsOf_55 rfl 3 rfl ?_
        refine nw_iload_n (pc := 56) h dX5_voidsOf_56 rfl 2 rfl ?_
        refine nw_icmp_ne (pc := 57) (tgt := 65) h dX5_voidsOf_57 (by decide) (fun c_57 => ?_) (fun c_57 => ?_)
        · skip
          refine nw_iload_n (pc := 65) h dX5_voidsOf_65 rfl 4 rfl ?_
          simp only [if_neg c_52, if_neg c_57] at hf
          refine nw_sub (lv' := [(0, .ref (P.2.1 37)), (1, .int x1), (2, .int x2), (4, .int x4), (5, .int r_45)]) [1, 2, 3, 5, 0] rfl ?_
          exact hL_66 H_25 hH_25 _ _ _ _ _ _ hf
        · skip
          refine nw_iload (pc := 60) h dX5_voidsOf_60 5 rfl ?_
          refine nw_goto (pc := 62) (tgt := 66) h dX5_voidsOf_62 (by decide) ?_
          simp only [if_neg c_52, if_pos c_57] at hf
          refine nw_sub (lv' := [(0, .ref (P.2.1 37)), (1, .int x1), (2, .int x2), (4, .int x4), (5, .int r_45)]) [1, 2, 3, 5, 0] rfl ?_
          exact hL_66 H_25 hH_25 _ _ _ _ _ _ hf
  have hL_25 :  ∀ (n : Nat) (σ : nw_ST) (x1 : Int32) (x2 : Int32) (x3 : Int32) (x4 : Int32), f5_voidsOf_25 K n σ x1 x2 x3 x4 → nw_G P X 6 σ [(0, .ref (P.2.1 37)), (1, .int x1), (2, .int x2), (3, .int x3), (4, .int x4)] 25 [] := by
    intro n
    induction n with
    | zero => intro σ x1 x2 x3 x4 hf; exact False.elim hf
    | succ n ih => exact hB_25 _ ih
  unfold f5_voidsOf at hf
  refine nw_aload_n (pc := 0) h dX5_voidsOf_0 rfl 0 rfl ?_
  refine klX5_122 (pc := 1) h (by rw [hR]; decide) hf (Nat.le_of_ble_eq_true rfl) dX5_voidsOf_1 (fun s_1 hf => ?_)
  refine nw_aload_n (pc := 4) h dX5_voidsOf_4 rfl 0 rfl ?_
  refine klX5_192 (pc := 5) h (by rw [hR]; decide) hf (Nat.le_of_ble_eq_true rfl) dX5_voidsOf_5 (fun s_5 hf => ?_)
  refine nw_aload_n (pc := 8) h dX5_voidsOf_8 rfl 0 rfl ?_
  refine nw_aload_n (pc := 9) h dX5_voidsOf_9 rfl 0 rfl ?_
  refine gf5_146 (pc := 10) h rfl dX5_voidsOf_10 ?_
  refine nw_iconst (pc := 13) (v := 1) h dX5_voidsOf_13 (by decide) ?_
  refine nw_iadd (pc := 14) h dX5_voidsOf_14 ?_
  refine pf5_167 (pc := 15) h rfl dX5_voidsOf_15 ?_
  refine nw_iconst (pc := 18) (v := 0) h dX5_voidsOf_18 (by decide) ?_
  refine nw_istore_n (pc := 19) (lv' := [(2, .int (0 : Int32)), (0, .ref (P.2.1 37)), (1, .int a1)]) h dX5_voidsOf_19 rfl (by decide) rfl ?_
  refine nw_iconst (pc := 20) (v := -1) h dX5_voidsOf_20 (by decide) ?_
  refine nw_istore_n (pc := 21) (lv' := [(3, .int (-1 : Int32)), (2, .int (0 : Int32)), (0, .ref (P.2.1 37)), (1, .int a1)]) h dX5_voidsOf_21 rfl (by decide) rfl ?_
  refine nw_iconst (pc := 22) (v := 0) h dX5_voidsOf_22 (by decide) ?_
  refine nw_istore (pc := 23) (lv' := [(4, .int (0 : Int32)), (3, .int (-1 : Int32)), (2, .int (0 : Int32)), (0, .ref (P.2.1 37)), (1, .int a1)]) h dX5_voidsOf_23 (by decide) rfl ?_
  obtain ⟨n_25, hf⟩ := hf
  refine nw_sub (lv' := [(0, .ref (P.2.1 37)), (1, .int a1), (2, .int (0 : Int32)), (3, .int (-1 : Int32)), (4, .int (0 : Int32))]) [3, 4, 2, 1, 0] rfl ?_
  exact hL_25 n_25 _ _ _ _ _ hf
theorem klX5_260 {P : nw_PT} {X : nw_EX} {cc : ByteArray} {nL : Nat} {σ : nw_ST} {lv : List (Nat × Value)} {pc : Nat} {rest : List Value} {a1 : Int32} (h : nw_ok P X cc RX5 nL) (hR : rm5_voidsOf.frames + 1 ≤ X.2.2.2.1.frames ∧ 8 + (6 + 11) + rm5_voidsOf.locals ≤ X.2.2.2.1.locals)  {K : Int32 → nw_ST → Prop} (hf : f5_voidsOf K σ a1) (hst : (rest.map fun v => v.category).sum ≤ 8) (hd : decode cc pc = .ok (.invokevirtual 260, 3)) (k : ∀ (r : Int32) (s2 : nw_ST), K r s2 → nw_G P X nL s2 lv (pc + 3) (.int r :: rest)) : nw_G P X nL σ lv pc (.int a1 :: .ref (P.2.1 37) :: rest) :=
  nw_callV (As := [.int a1]) (rest := rest) (C := RX5) (ci := 5) h (ct5_voidsOf _ P h.2.2 σ a1 K hf) (nw_goodV nw_w538 nw_w539 nw_w540 nw_w342 nw_w541) yd5_voidsOf rfl hR ⟨rfl, rfl⟩ rfl (by decide) rfl rfl hst rfl hd (fun v s2 z => by obtain ⟨r, rfl, z⟩ := z; exact k r s2 z)
def f5_voids_21 (K : Int32 → nw_ST → Prop) (σ : nw_ST) (y0 : Int32) : Prop := (K y0 σ)
def f5_voids (K : Int32 → nw_ST → Prop) (σ : nw_ST) (a1 : Int32) : Prop := ((((v5_in a1 (-1 : Int32) (239 : Int32)) = 0) → (f5_voids_21 K σ (-2 : Int32))) ∧ (¬ ((v5_in a1 (-1 : Int32) (239 : Int32)) = 0) → (f5_voidsOf (fun (r_13 : Int32) (s_13 : nw_ST) => (f5_voids_21 K s_13 r_13)) σ a1)))
def rm5_voids : Room := { frames := 8, cells := 0, slots := 0, locals := 185 }
theorem yd5_voids : yX5_voids.cls = RX5 ∧ yX5_voids.cls ≠ "java/lang/invoke/MethodHandle" ∧ yX5_voids.cls ≠ "java/lang/invoke/VarHandle" ∧ (parseMethodDescriptor yX5_voids.desc).map (fun d => d.parameters.length) = some 1 := by decide +kernel
set_option maxHeartbeats 4000000 in
set_option maxRecDepth 100000 in
theorem ct5_voids (l : Launch) (P : nw_PT) (hD : nw_D P) (σ : nw_ST) (a1 : Int32)  (K : Int32 → nw_ST → Prop) (hf : f5_voids K σ a1) : nw_MT l yX5_voids cX5_voids 2 (some .int) rm5_voids P [.ref (P.2.1 37), .int a1] σ (nw_Ki K) := by
  refine nw_enter (by decide) (by first | decide | exact Nat.le_of_ble_eq_true rfl) hD ?_
  intro X hl h he hR
  subst hl
  have h : nw_ok P X cX5_voids RX5 2 := h
  show nw_G P X 2 σ [(0, .ref (P.2.1 37)), (1, .int a1)] 0 []
  have hL_21 :  ∀ (σ : nw_ST) (y0 : Int32), f5_voids_21 K σ y0 → nw_G P X 2 σ [] 21 [.int y0] := by
    intro σ y0 hf
    unfold f5_voids_21 at hf
    exact nw_iret (pc := 21) h he dX5_voids_21 ⟨_, rfl, hf⟩
  unfold f5_voids at hf
  refine nw_iload_n (pc := 0) h dX5_voids_0 rfl 1 rfl ?_
  refine nw_iconst (pc := 1) (v := -1) h dX5_voids_1 (by decide) ?_
  refine nw_sipush (pc := 2) (v := 239) h dX5_voids_2 (by decide) ?_
  refine klX5_89 (pc := 5) h (by rw [hR]; decide) (Nat.le_of_ble_eq_true rfl) dX5_voids_5 ?_
  refine nw_if_eq (pc := 8) (tgt := 19) h dX5_voids_8 (by decide) (fun c_8 => ?_) (fun c_8 => ?_)
  · have hf := hf.1 c_8
    refine nw_bipush (pc := 19) (v := -2) h dX5_voids_19 (by decide) ?_
    refine nw_sub (lv' := []) [] rfl ?_
    exact hL_21 _ _ (hf)
  · have hf := hf.2 c_8
    refine nw_aload_n (pc := 11) h dX5_voids_11 rfl 0 rfl ?_
    refine nw_iload_n (pc := 12) h dX5_voids_12 rfl 1 rfl ?_
    refine klX5_260 (pc := 13) h (by rw [hR]; decide) hf (Nat.le_of_ble_eq_true rfl) dX5_voids_13 (fun r_13 s_13 hf => ?_)
    refine nw_goto (pc := 16) (tgt := 21) h dX5_voids_16 (by decide) ?_
    refine nw_sub (lv' := []) [] rfl ?_
    exact hL_21 _ _ (hf)
def f5_oftenOf_105 (K : Int32 → nw_ST → Prop) (σ : nw_ST) (y0 : Int32) : Prop := (K y0 σ)
def f5_oftenOf_77 (K : Int32 → nw_ST → Prop) (H_24 : nw_ST → Int32 → Int32 → Int32 → Int32 → Int32 → Int32 → Prop) (σ : nw_ST) (x1 : Int32) (x2 : Int32) (x3 : Int32) (x5 : Int32) (x6 : Int32) (y0 : Int32) (y1 : Int32) : Prop := (H_24 σ x1 x2 x3 (y1 + y0) x5 (x6 + (1 : Int32)))
def f5_oftenOf_63 (K : Int32 → nw_ST → Prop) (H_24 : nw_ST → Int32 → Int32 → Int32 → Int32 → Int32 → Int32 → Prop) (σ : nw_ST) (x1 : Int32) (x2 : Int32) (x3 : Int32) (x4 : Int32) (x6 : Int32) (x7 : Int32) (y0 : Int32) : Prop := (f5_oftenOf_77 K H_24 σ x1 x2 x3 y0 x6 (if (x7 = 0) then (0 : Int32) else (1 : Int32)) x4)
def b5_oftenOf_24 (K : Int32 → nw_ST → Prop) (H_24 : nw_ST → Int32 → Int32 → Int32 → Int32 → Int32 → Int32 → Prop) (σ : nw_ST) (x1 : Int32) (x2 : Int32) (x3 : Int32) (x4 : Int32) (x5 : Int32) (x6 : Int32) : Prop := ((((100 : Int32) ≤ x6) → ((vp_in x1 7) ∧ (f5_oftenOf_105 K (nw_sA σ 41 x1.toNatClampNeg x3) (if (x2 = (-1 : Int32)) then x4 else x5)))) ∧ (¬ ((100 : Int32) ≤ x6) → ((vp_in x1 7) ∧ (f5_isHeard (fun (r_40 : Int32) (s_40 : nw_ST) => (f5_oftenOf_63 K H_24 s_40 x1 x2 x3 x4 x6 r_40 (if (r_40 = 0) then x5 else (if (x4 = x2) then x6 else x5)))) (nw_sA σ 41 x1.toNatClampNeg x6)))))
def f5_oftenOf_24 (K : Int32 → nw_ST → Prop) : Nat → nw_ST → Int32 → Int32 → Int32 → Int32 → Int32 → Int32 → Prop
  | 0 => fun _ _ _ _ _ _ _ => False
  | n + 1 => b5_oftenOf_24 K (f5_oftenOf_24 K n)
def f5_oftenOf (K : Int32 → nw_ST → Prop) (σ : nw_ST) (a1 : Int32) (a2 : Int32) : Prop := (f5_reads (fun (s_1 : nw_ST) => (f5_asTold (fun (s_5 : nw_ST) => ((vp_in a1 7) ∧ (∃ n, f5_oftenOf_24 K n s_5 a1 a2 (nw_gA s_5 41 a1.toNatClampNeg) (0 : Int32) (-1 : Int32) (2 : Int32)))) s_1)) σ)
def rm5_oftenOf : Room := { frames := 7, cells := 0, slots := 0, locals := 160 }
theorem yd5_oftenOf : yX5_oftenOf.cls = RX5 ∧ yX5_oftenOf.cls ≠ "java/lang/invoke/MethodHandle" ∧ yX5_oftenOf.cls ≠ "java/lang/invoke/VarHandle" ∧ (parseMethodDescriptor yX5_oftenOf.desc).map (fun d => d.parameters.length) = some 2 := by decide +kernel
set_option maxHeartbeats 4000000 in
set_option maxRecDepth 100000 in
theorem ct5_oftenOf (l : Launch) (P : nw_PT) (hD : nw_D P) (σ : nw_ST) (a1 : Int32) (a2 : Int32)  (K : Int32 → nw_ST → Prop) (hf : f5_oftenOf K σ a1 a2) : nw_MT l yX5_oftenOf cX5_oftenOf 8 (some .int) rm5_oftenOf P [.ref (P.2.1 37), .int a1, .int a2] σ (nw_Ki K) := by
  refine nw_enter (by decide) (by first | decide | exact Nat.le_of_ble_eq_true rfl) hD ?_
  intro X hl h he hR
  subst hl
  have h : nw_ok P X cX5_oftenOf RX5 8 := h
  show nw_G P X 8 σ [(0, .ref (P.2.1 37)), (1, .int a1), (2, .int a2)] 0 []
  have hL_105 :  ∀ (σ : nw_ST) (y0 : Int32), f5_oftenOf_105 K σ y0 → nw_G P X 8 σ [] 105 [.int y0] := by
    intro σ y0 hf
    unfold f5_oftenOf_105 at hf
    exact nw_iret (pc := 105) h he dX5_oftenOf_105 ⟨_, rfl, hf⟩
  have hL_77 : ∀ (H_24 : nw_ST → Int32 → Int32 → Int32 → Int32 → Int32 → Int32 → Prop) (hH_24 : (∀ (σ : nw_ST) (x1 : Int32) (x2 : Int32) (x3 : Int32) (x4 : Int32) (x5 : Int32) (x6 : Int32), H_24 σ x1 x2 x3 x4 x5 x6 → nw_G P X 8 σ [(0, .ref (P.2.1 37)), (1, .int x1), (2, .int x2), (3, .int x3), (4, .int x4), (5, .int x5), (6, .int x6)] 24 [])), ∀ (σ : nw_ST) (x1 : Int32) (x2 : Int32) (x3 : Int32) (x5 : Int32) (x6 : Int32) (y0 : Int32) (y1 : Int32), f5_oftenOf_77 K H_24 σ x1 x2 x3 x5 x6 y0 y1 → nw_G P X 8 σ [(0, .ref (P.2.1 37)), (1, .int x1), (2, .int x2), (3, .int x3), (5, .int x5), (6, .int x6)] 77 [.int y0, .int y1] := by
    intro H_24 hH_24 σ x1 x2 x3 x5 x6 y0 y1 hf
    unfold f5_oftenOf_77 at hf
    refine nw_iadd (pc := 77) h dX5_oftenOf_77 ?_
    refine nw_istore (pc := 78) (lv' := [(4, .int (y1 + y0)), (0, .ref (P.2.1 37)), (1, .int x1), (2, .int x2), (3, .int x3), (5, .int x5), (6, .int x6)]) h dX5_oftenOf_78 (by decide) rfl ?_
    refine nw_iinc (pc := 80) (v := (x6 + (1 : Int32))) (lv' := [(6, .int (x6 + (1 : Int32))), (4, .int (y1 + y0)), (0, .ref (P.2.1 37)), (1, .int x1), (2, .int x2), (3, .int x3), (5, .int x5)]) h dX5_oftenOf_80 (j := 6) rfl rfl (by decide) rfl ?_
    refine nw_goto (pc := 83) (tgt := 24) h dX5_oftenOf_83 (by decide) ?_
    refine nw_sub (lv' := [(0, .ref (P.2.1 37)), (1, .int x1), (2, .int x2), (3, .int x3), (4, .int (y1 + y0)), (5, .int x5), (6, .int (x6 + (1 : Int32)))]) [2, 3, 4, 5, 1, 6, 0] rfl ?_
    exact hH_24 _ _ _ _ _ _ _ (hf)
  have hL_63 : ∀ (H_24 : nw_ST → Int32 → Int32 → Int32 → Int32 → Int32 → Int32 → Prop) (hH_24 : (∀ (σ : nw_ST) (x1 : Int32) (x2 : Int32) (x3 : Int32) (x4 : Int32) (x5 : Int32) (x6 : Int32), H_24 σ x1 x2 x3 x4 x5 x6 → nw_G P X 8 σ [(0, .ref (P.2.1 37)), (1, .int x1), (2, .int x2), (3, .int x3), (4, .int x4), (5, .int x5), (6, .int x6)] 24 [])), ∀ (σ : nw_ST) (x1 : Int32) (x2 : Int32) (x3 : Int32) (x4 : Int32) (x6 : Int32) (x7 : Int32) (y0 : Int32), f5_oftenOf_63 K H_24 σ x1 x2 x3 x4 x6 x7 y0 → nw_G P X 8 σ [(0, .ref (P.2.1 37)), (1, .int x1), (2, .int x2), (3, .int x3), (4, .int x4), (6, .int x6), (7, .int x7)] 63 [.int y0] := by
    intro H_24 hH_24 σ x1 x2 x3 x4 x6 x7 y0 hf
    unfold f5_oftenOf_63 at hf
    refine nw_istore (pc := 63) (lv' := [(5, .int y0), (0, .ref (P.2.1 37)), (1, .int x1), (2, .int x2), (3, .int x3), (4, .int x4), (6, .int x6), (7, .int x7)]) h dX5_oftenOf_63 (by decide) rfl ?_
    refine nw_iload (pc := 65) h dX5_oftenOf_65 5 rfl ?_
    refine nw_iload (pc := 67) h dX5_oftenOf_67 7 rfl ?_
    refine nw_if_eq (pc := 69) (tgt := 76) h dX5_oftenOf_69 (by decide) (fun c_69 => ?_) (fun c_69 => ?_)
    · skip
      refine nw_iconst (pc := 76) (v := 0) h dX5_oftenOf_76 (by decide) ?_
      simp only [if_pos c_69] at hf
      refine nw_sub (lv' := [(0, .ref (P.2.1 37)), (1, .int x1), (2, .int x2), (3, .int x3), (5, .int y0), (6, .int x6)]) [1, 2, 3, 4, 0, 6] rfl ?_
      exact hL_77 H_24 hH_24 _ _ _ _ _ _ _ _ hf
    · skip
      refine nw_iconst (pc := 72) (v := 1) h dX5_oftenOf_72 (by decide) ?_
      refine nw_goto (pc := 73) (tgt := 77) h dX5_oftenOf_73 (by decide) ?_
      simp only [if_neg c_69] at hf
      refine nw_sub (lv' := [(0, .ref (P.2.1 37)), (1, .int x1), (2, .int x2), (3, .int x3), (5, .int y0), (6, .int x6)]) [1, 2, 3, 4, 0, 6] rfl ?_
      exact hL_77 H_24 hH_24 _ _ _ _ _ _ _ _ hf
  have hB_24 : ∀ (H_24 : nw_ST → Int32 → Int32 → Int32 → Int32 → Int32 → Int32 → Prop) (hH_24 : (∀ (σ : nw_ST) (x1 : Int32) (x2 : Int32) (x3 : Int32) (x4 : Int32) (x5 : Int32) (x6 : Int32), H_24 σ x1 x2 x3 x4 x5 x6 → nw_G P X 8 σ [(0, .ref (P.2.1 37)), (1, .int x1), (2, .int x2), (3, .int x3), (4, .int x4), (5, .int x5), (6, .int x6)] 24 [])), ∀ (σ : nw_ST) (x1 : Int32) (x2 : Int32) (x3 : Int32) (x4 : Int32) (x5 : Int32) (x6 : Int32), b5_oftenOf_24 K H_24 σ x1 x2 x3 x4 x5 x6 → nw_G P X 8 σ [(0, .ref (P.2.1 37)), (1, .int x1), (2, .int x2), (3, .int x3), (4, .int x4), (5, .int x5), (6, .int x6)] 24 [] := by
    intro H_24 hH_24 σ x1 x2 x3 x4 x5 x6 hf
    unfold b5_oftenOf_24 at hf
    refine nw_iload (pc := 24) h dX5_oftenOf_24 6 rfl ?_
    refine nw_bipush (pc := 26) (v := 100) h dX5_oftenOf_26 (by decide) ?_
    refine nw_icmp_ge (pc := 28) (tgt := 86) h dX5_oftenOf_28 (by decide) (fun c_28 => ?_) (fun c_28 => ?_)
    · have hf := hf.1 c_28
      refine nw_aload_n (pc := 86) h dX5_oftenOf_86 rfl 0 rfl ?_
      refine gf5_19 (pc := 87) (r := 41) h rfl rfl dX5_oftenOf_87 ?_
      refine nw_iload_n (pc := 90) h dX5_oftenOf_90 rfl 1 rfl ?_
      refine nw_iload_n (pc := 91) h dX5_oftenOf_91 rfl 3 rfl ?_
      obtain ⟨h_92, hf⟩ := hf
      refine nw_iast (pc := 92) (n := 7) h rfl rfl h_92 dX5_oftenOf_92 ?_
      refine nw_iload_n (pc := 93) h dX5_oftenOf_93 rfl 2 rfl ?_
      refine nw_iconst (pc := 94) (v := -1) h dX5_oftenOf_94 (by decide) ?_
      refine nw_icmp_ne (pc := 95) (tgt := 103) h dX5_oftenOf_95 (by decide) (fun c_95 => ?_) (fun c_95 => ?_)
      · skip
        refine nw_iload (pc := 103) h dX5_oftenOf_103 5 rfl ?_
        simp only [if_neg c_95] at hf
        refine nw_sub (lv' := []) [] rfl ?_
        exact hL_105 _ _ hf
      · skip
        refine nw_iload (pc := 98) h dX5_oftenOf_98 4 rfl ?_
        refine nw_goto (pc := 100) (tgt := 105) h dX5_oftenOf_100 (by decide) ?_
        simp only [if_pos c_95] at hf
        refine nw_sub (lv' := []) [] rfl ?_
        exact hL_105 _ _ hf
    · have hf := hf.2 c_28
      refine nw_aload_n (pc := 31) h dX5_oftenOf_31 rfl 0 rfl ?_
      refine gf5_19 (pc := 32) (r := 41) h rfl rfl dX5_oftenOf_32 ?_
      refine nw_iload_n (pc := 35) h dX5_oftenOf_35 rfl 1 rfl ?_
      refine nw_iload (pc := 36) h dX5_oftenOf_36 6 rfl ?_
      obtain ⟨h_38, hf⟩ := hf
      refine nw_iast (pc := 38) (n := 7) h rfl rfl h_38 dX5_oftenOf_38 ?_
      refine nw_aload_n (pc := 39) h dX5_oftenOf_39 rfl 0 rfl ?_
      refine klX5_253 (pc := 40) h (by rw [hR]; decide) hf (Nat.le_of_ble_eq_true rfl) dX5_oftenOf_40 (fun r_40 s_40 hf => ?_)
      refine nw_istore (pc := 43) (lv' := [(7, .int r_40), (0, .ref (P.2.1 37)), (1, .int x1), (2, .int x2), (3, .int x3), (4, .int x4), (5, .int x5), (6, .int x6)]) h dX5_oftenOf_43 (by decide) rfl ?_
      refine nw_iload (pc := 45) h dX5_oftenOf_45 0 rfl ?_
      refine nw_if_eq (pc := 47) (tgt := 61) h dX5_oftenOf_47 (by decide) (fun c_47 => ?_) (fun c_47 => ?_)
      · skip
        refine nw_iload (pc := 61) h dX5_oftenOf_61 6 rfl ?_
        simp only [if_pos c_47] at hf
        refine nw_sub (lv' := [(0, .ref (P.2.1 37)), (1, .int x1), (2, .int x2), (3, .int x3), (4, .int x4), (6, .int x6), (7, .int r_40)]) [1, 2, 3, 4, 5, 7, 0] rfl ?_
        exact hL_63 H_24 hH_24 _ _ _ _ _ _ _ _ hf
      · skip
        refine nw_iload (pc := 50) h dX5_oftenOf_50 5 rfl ?_
        refine nw_iload_n (pc := 52) h dX5_oftenOf_52 rfl 3 rfl ?_
        refine nw_icmp_ne (pc := 53) (tgt := 61) h dX5_oftenOf_53 (by decide) (fun c_53 => ?_) (fun c_53 => ?_)
        · skip
          refine nw_iload (pc := 61) h dX5_oftenOf_61 6 rfl ?_
          simp only [if_neg c_47, if_neg c_53] at hf
          refine nw_sub (lv' := [(0, .ref (P.2.1 37)), (1, .int x1), (2, .int x2), (3, .int x3), (4, .int x4), (6, .int x6), (7, .int r_40)]) [1, 2, 3, 4, 5, 7, 0] rfl ?_
          exact hL_63 H_24 hH_24 _ _ _ _ _ _ _ _ hf
        · skip
          refine nw_iload (pc := 56) h dX5_oftenOf_56 7 rfl ?_
          refine nw_goto (pc := 58) (tgt := 63) h dX5_oftenOf_58 (by decide) ?_
          simp only [if_neg c_47, if_pos c_53] at hf
          refine nw_sub (lv' := [(0, .ref (P.2.1 37)), (1, .int x1), (2, .int x2), (3, .int x3), (4, .int x4), (6, .int x6), (7, .int r_40)]) [1, 2, 3, 4, 5, 7, 0] rfl ?_
          exact hL_63 H_24 hH_24 _ _ _ _ _ _ _ _ hf
  have hL_24 :  ∀ (n : Nat) (σ : nw_ST) (x1 : Int32) (x2 : Int32) (x3 : Int32) (x4 : Int32) (x5 : Int32) (x6 : Int32), f5_oftenOf_24 K n σ x1 x2 x3 x4 x5 x6 → nw_G P X 8 σ [(0, .ref (P.2.1 37)), (1, .int x1), (2, .int x2), (3, .int x3), (4, .int x4), (5, .int x5), (6, .int x6)] 24 [] := by
    intro n
    induction n with
    | zero => intro σ x1 x2 x3 x4 x5 x6 hf; exact False.elim hf
    | succ n ih => exact hB_24 _ ih
  unfold f5_oftenOf at hf
  refine nw_aload_n (pc := 0) h dX5_oftenOf_0 rfl 0 rfl ?_
  refine klX5_122 (pc := 1) h (by rw [hR]; decide) hf (Nat.le_of_ble_eq_true rfl) dX5_oftenOf_1 (fun s_1 hf => ?_)
  refine nw_aload_n (pc := 4) h dX5_oftenOf_4 rfl 0 rfl ?_
  refine klX5_192 (pc := 5) h (by rw [hR]; decide) hf (Nat.le_of_ble_eq_true rfl) dX5_oftenOf_5 (fun s_5 hf => ?_)
  refine nw_aload_n (pc := 8) h dX5_oftenOf_8 rfl 0 rfl ?_
  refine gf5_19 (pc := 9) (r := 41) h rfl rfl dX5_oftenOf_9 ?_
  refine nw_iload_n (pc := 12) h dX5_oftenOf_12 rfl 1 rfl ?_
  obtain ⟨h_13, hf⟩ := hf
  refine nw_iald (pc := 13) (n := 7) h rfl rfl h_13 dX5_oftenOf_13 ?_
  refine nw_istore_n (pc := 14) (lv' := [(3, .int (nw_gA s_5 41 a1.toNatClampNeg)), (0, .ref (P.2.1 37)), (1, .int a1), (2, .int a2)]) h dX5_oftenOf_14 rfl (by decide) rfl ?_
  refine nw_iconst (pc := 15) (v := 0) h dX5_oftenOf_15 (by decide) ?_
  refine nw_istore (pc := 16) (lv' := [(4, .int (0 : Int32)), (3, .int (nw_gA s_5 41 a1.toNatClampNeg)), (0, .ref (P.2.1 37)), (1, .int a1), (2, .int a2)]) h dX5_oftenOf_16 (by decide) rfl ?_
  refine nw_iconst (pc := 18) (v := -1) h dX5_oftenOf_18 (by decide) ?_
  refine nw_istore (pc := 19) (lv' := [(5, .int (-1 : Int32)), (4, .int (0 : Int32)), (3, .int (nw_gA s_5 41 a1.toNatClampNeg)), (0, .ref (P.2.1 37)), (1, .int a1), (2, .int a2)]) h dX5_oftenOf_19 (by decide) rfl ?_
  refine nw_iconst (pc := 21) (v := 2) h dX5_oftenOf_21 (by decide) ?_
  refine nw_istore (pc := 22) (lv' := [(6, .int (2 : Int32)), (5, .int (-1 : Int32)), (4, .int (0 : Int32)), (3, .int (nw_gA s_5 41 a1.toNatClampNeg)), (0, .ref (P.2.1 37)), (1, .int a1), (2, .int a2)]) h dX5_oftenOf_22 (by decide) rfl ?_
  obtain ⟨n_24, hf⟩ := hf
  refine nw_sub (lv' := [(0, .ref (P.2.1 37)), (1, .int a1), (2, .int a2), (3, .int (nw_gA s_5 41 a1.toNatClampNeg)), (4, .int (0 : Int32)), (5, .int (-1 : Int32)), (6, .int (2 : Int32))]) [4, 5, 6, 3, 2, 1, 0] rfl ?_
  exact hL_24 n_24 _ _ _ _ _ _ _ hf
