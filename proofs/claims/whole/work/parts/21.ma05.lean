def f5_sumOf_73 (K : Int32 → nw_ST → Prop) (σ : nw_ST) (y0 : Int32) : Prop := (K y0 σ)
def f5_sumOf_29 (K : Int32 → nw_ST → Prop) (H_8 : nw_ST → Int32 → Int32 → Int32 → Prop) (σ : nw_ST) (x1 : Int32) (x3 : Int32) (y0 : Int32) (y1 : Int32) : Prop := (H_8 σ x1 (y1 + y0) (x3 + (1 : Int32)))
def b5_sumOf_8 (K : Int32 → nw_ST → Prop) (H_8 : nw_ST → Int32 → Int32 → Int32 → Prop) (σ : nw_ST) (x1 : Int32) (x2 : Int32) (x3 : Int32) : Prop := ((((240 : Int32) ≤ x3) → (f5_sumOf_73 K σ (if (x1 = 0) then (nw_gS σ 37 2) else (if (x1 = (1 : Int32)) then (nw_gS σ 37 6) else (if (x1 = (4 : Int32)) then x2 else (nw_gS σ 37 26)))))) ∧ (¬ ((240 : Int32) ≤ x3) → ((o5_breaks σ x3) ∧ (f5_sumOf_29 K H_8 σ x1 x3 (if ((v5_breaks σ x3) = 0) then (0 : Int32) else (1 : Int32)) x2))))
def f5_sumOf_8 (K : Int32 → nw_ST → Prop) : Nat → nw_ST → Int32 → Int32 → Int32 → Prop
  | 0 => fun _ _ _ _ => False
  | n + 1 => b5_sumOf_8 K (f5_sumOf_8 K n)
def f5_sumOf (K : Int32 → nw_ST → Prop) (σ : nw_ST) (a1 : Int32) : Prop := (f5_laysTold (fun (s_1 : nw_ST) => (∃ n, f5_sumOf_8 K n s_1 a1 (0 : Int32) (0 : Int32))) σ)
def rm5_sumOf : Room := { frames := 8, cells := 0, slots := 0, locals := 180 }
theorem yd5_sumOf : yX5_sumOf.cls = RX5 ∧ yX5_sumOf.cls ≠ "java/lang/invoke/MethodHandle" ∧ yX5_sumOf.cls ≠ "java/lang/invoke/VarHandle" ∧ (parseMethodDescriptor yX5_sumOf.desc).map (fun d => d.parameters.length) = some 1 := by decide +kernel
set_option maxHeartbeats 4000000 in
set_option maxRecDepth 100000 in
theorem ct5_sumOf (l : Launch) (P : nw_PT) (hD : nw_D P) (σ : nw_ST) (a1 : Int32)  (K : Int32 → nw_ST → Prop) (hf : f5_sumOf K σ a1) : nw_MT l yX5_sumOf cX5_sumOf 4 (some .int) rm5_sumOf P [.ref (P.2.1 37), .int a1] σ (nw_Ki K) := by
  refine nw_enter (by decide) (by first | decide | exact Nat.le_of_ble_eq_true rfl) hD ?_
  intro X hl h he hR
  subst hl
  have h : nw_ok P X cX5_sumOf RX5 4 := h
  show nw_G P X 4 σ [(0, .ref (P.2.1 37)), (1, .int a1)] 0 []
  have hL_73 :  ∀ (σ : nw_ST) (y0 : Int32), f5_sumOf_73 K σ y0 → nw_G P X 4 σ [] 73 [.int y0] := by
    intro σ y0 hf
    unfold f5_sumOf_73 at hf
    exact nw_iret (pc := 73) h he dX5_sumOf_73 ⟨_, rfl, hf⟩
  have hL_29 : ∀ (H_8 : nw_ST → Int32 → Int32 → Int32 → Prop) (hH_8 : (∀ (σ : nw_ST) (x1 : Int32) (x2 : Int32) (x3 : Int32), H_8 σ x1 x2 x3 → nw_G P X 4 σ [(0, .ref (P.2.1 37)), (1, .int x1), (2, .int x2), (3, .int x3)] 8 [])), ∀ (σ : nw_ST) (x1 : Int32) (x3 : Int32) (y0 : Int32) (y1 : Int32), f5_sumOf_29 K H_8 σ x1 x3 y0 y1 → nw_G P X 4 σ [(0, .ref (P.2.1 37)), (1, .int x1), (3, .int x3)] 29 [.int y0, .int y1] := by
    intro H_8 hH_8 σ x1 x3 y0 y1 hf
    unfold f5_sumOf_29 at hf
    refine nw_iadd (pc := 29) h dX5_sumOf_29 ?_
    refine nw_istore_n (pc := 30) (lv' := [(2, .int (y1 + y0)), (0, .ref (P.2.1 37)), (1, .int x1), (3, .int x3)]) h dX5_sumOf_30 rfl (by decide) rfl ?_
    refine nw_iinc (pc := 31) (v := (x3 + (1 : Int32))) (lv' := [(3, .int (x3 + (1 : Int32))), (2, .int (y1 + y0)), (0, .ref (P.2.1 37)), (1, .int x1)]) h dX5_sumOf_31 (j := 3) rfl rfl (by decide) rfl ?_
    refine nw_goto (pc := 34) (tgt := 8) h dX5_sumOf_34 (by decide) ?_
    refine nw_sub (lv' := [(0, .ref (P.2.1 37)), (1, .int x1), (2, .int (y1 + y0)), (3, .int (x3 + (1 : Int32)))]) [2, 3, 1, 0] rfl ?_
    exact hH_8 _ _ _ _ (hf)
  have hB_8 : ∀ (H_8 : nw_ST → Int32 → Int32 → Int32 → Prop) (hH_8 : (∀ (σ : nw_ST) (x1 : Int32) (x2 : Int32) (x3 : Int32), H_8 σ x1 x2 x3 → nw_G P X 4 σ [(0, .ref (P.2.1 37)), (1, .int x1), (2, .int x2), (3, .int x3)] 8 [])), ∀ (σ : nw_ST) (x1 : Int32) (x2 : Int32) (x3 : Int32), b5_sumOf_8 K H_8 σ x1 x2 x3 → nw_G P X 4 σ [(0, .ref (P.2.1 37)), (1, .int x1), (2, .int x2), (3, .int x3)] 8 [] := by
    intro H_8 hH_8 σ x1 x2 x3 hf
    unfold b5_sumOf_8 at hf
    refine nw_iload_n (pc := 8) h dX5_sumOf_8 rfl 3 rfl ?_
    refine nw_sipush (pc := 9) (v := 240) h dX5_sumOf_9 (by decide) ?_
    refine nw_icmp_ge (pc := 12) (tgt := 37) h dX5_sumOf_12 (by decide) (fun c_12 => ?_) (fun c_12 => ?_)
    · have hf := hf.1 c_12
      refine nw_iload_n (pc := 37) h dX5_sumOf_37 rfl 1 rfl ?_
      refine nw_if_ne (pc := 38) (tgt := 48) h dX5_sumOf_38 (by decide) (fun c_38 => ?_) (fun c_38 => ?_)
      · skip
        refine nw_iload_n (pc := 48) h dX5_sumOf_48 rfl 1 rfl ?_
        refine nw_iconst (pc := 49) (v := 1) h dX5_sumOf_49 (by decide) ?_
        refine nw_icmp_ne (pc := 50) (tgt := 60) h dX5_sumOf_50 (by decide) (fun c_50 => ?_) (fun c_50 => ?_)
        · skip
          refine nw_iload_n (pc := 60) h dX5_sumOf_60 rfl 1 rfl ?_
          refine nw_iconst (pc := 61) (v := 4) h dX5_sumOf_61 (by decide) ?_
          refine nw_icmp_ne (pc := 62) (tgt := 69) h dX5_sumOf_62 (by decide) (fun c_62 => ?_) (fun c_62 => ?_)
          · skip
            refine nw_aload_n (pc := 69) h dX5_sumOf_69 rfl 0 rfl ?_
            refine gf5_176 (pc := 70) h rfl dX5_sumOf_70 ?_
            simp only [if_neg c_38, if_neg c_50, if_neg c_62] at hf
            refine nw_sub (lv' := []) [] rfl ?_
            exact hL_73 _ _ hf
          · skip
            refine nw_iload_n (pc := 65) h dX5_sumOf_65 rfl 2 rfl ?_
            refine nw_goto (pc := 66) (tgt := 73) h dX5_sumOf_66 (by decide) ?_
            simp only [if_neg c_38, if_neg c_50, if_pos c_62] at hf
            refine nw_sub (lv' := []) [] rfl ?_
            exact hL_73 _ _ hf
        · skip
          refine nw_aload_n (pc := 53) h dX5_sumOf_53 rfl 0 rfl ?_
          refine gf5_108 (pc := 54) h rfl dX5_sumOf_54 ?_
          refine nw_goto (pc := 57) (tgt := 73) h dX5_sumOf_57 (by decide) ?_
          simp only [if_neg c_38, if_pos c_50] at hf
          refine nw_sub (lv' := []) [] rfl ?_
          exact hL_73 _ _ hf
      · skip
        refine nw_aload_n (pc := 41) h dX5_sumOf_41 rfl 0 rfl ?_
        refine gf5_104 (pc := 42) h rfl dX5_sumOf_42 ?_
        refine nw_goto (pc := 45) (tgt := 73) h dX5_sumOf_45 (by decide) ?_
        simp only [if_pos c_38] at hf
        refine nw_sub (lv' := []) [] rfl ?_
        exact hL_73 _ _ hf
    · have hf := hf.2 c_12
      refine nw_iload_n (pc := 15) h dX5_sumOf_15 rfl 2 rfl ?_
      refine nw_aload_n (pc := 16) h dX5_sumOf_16 rfl 0 rfl ?_
      refine nw_iload_n (pc := 17) h dX5_sumOf_17 rfl 3 rfl ?_
      obtain ⟨h_18, hf⟩ := hf
      refine klX5_183 (pc := 18) h (by rw [hR]; decide) h_18 (Nat.le_of_ble_eq_true rfl) dX5_sumOf_18 ?_
      refine nw_if_eq (pc := 21) (tgt := 28) h dX5_sumOf_21 (by decide) (fun c_21 => ?_) (fun c_21 => ?_)
      · skip
        refine nw_iconst (pc := 28) (v := 0) h dX5_sumOf_28 (by decide) ?_
        simp only [if_pos c_21] at hf
        refine nw_sub (lv' := [(0, .ref (P.2.1 37)), (1, .int x1), (3, .int x3)]) [0, 1, 3] rfl ?_
        exact hL_29 H_8 hH_8 _ _ _ _ _ hf
      · skip
        refine nw_iconst (pc := 24) (v := 1) h dX5_sumOf_24 (by decide) ?_
        refine nw_goto (pc := 25) (tgt := 29) h dX5_sumOf_25 (by decide) ?_
        simp only [if_neg c_21] at hf
        refine nw_sub (lv' := [(0, .ref (P.2.1 37)), (1, .int x1), (3, .int x3)]) [0, 1, 3] rfl ?_
        exact hL_29 H_8 hH_8 _ _ _ _ _ hf
  have hL_8 :  ∀ (n : Nat) (σ : nw_ST) (x1 : Int32) (x2 : Int32) (x3 : Int32), f5_sumOf_8 K n σ x1 x2 x3 → nw_G P X 4 σ [(0, .ref (P.2.1 37)), (1, .int x1), (2, .int x2), (3, .int x3)] 8 [] := by
    intro n
    induction n with
    | zero => intro σ x1 x2 x3 hf; exact False.elim hf
    | succ n ih => exact hB_8 _ ih
  unfold f5_sumOf at hf
  refine nw_aload_n (pc := 0) h dX5_sumOf_0 rfl 0 rfl ?_
  refine klX5_198 (pc := 1) h (by rw [hR]; decide) hf (Nat.le_of_ble_eq_true rfl) dX5_sumOf_1 (fun s_1 hf => ?_)
  refine nw_iconst (pc := 4) (v := 0) h dX5_sumOf_4 (by decide) ?_
  refine nw_istore_n (pc := 5) (lv' := [(2, .int (0 : Int32)), (0, .ref (P.2.1 37)), (1, .int a1)]) h dX5_sumOf_5 rfl (by decide) rfl ?_
  refine nw_iconst (pc := 6) (v := 0) h dX5_sumOf_6 (by decide) ?_
  refine nw_istore_n (pc := 7) (lv' := [(3, .int (0 : Int32)), (2, .int (0 : Int32)), (0, .ref (P.2.1 37)), (1, .int a1)]) h dX5_sumOf_7 rfl (by decide) rfl ?_
  obtain ⟨n_8, hf⟩ := hf
  refine nw_sub (lv' := [(0, .ref (P.2.1 37)), (1, .int a1), (2, .int (0 : Int32)), (3, .int (0 : Int32))]) [2, 3, 1, 0] rfl ?_
  exact hL_8 n_8 _ _ _ _ hf
theorem klX5_297 {P : nw_PT} {X : nw_EX} {cc : ByteArray} {nL : Nat} {σ : nw_ST} {lv : List (Nat × Value)} {pc : Nat} {rest : List Value} {a1 : Int32} (h : nw_ok P X cc RX5 nL) (hR : rm5_sumOf.frames + 1 ≤ X.2.2.2.1.frames ∧ 8 + (4 + 11) + rm5_sumOf.locals ≤ X.2.2.2.1.locals)  {K : Int32 → nw_ST → Prop} (hf : f5_sumOf K σ a1) (hst : (rest.map fun v => v.category).sum ≤ 8) (hd : decode cc pc = .ok (.invokevirtual 297, 3)) (k : ∀ (r : Int32) (s2 : nw_ST), K r s2 → nw_G P X nL s2 lv (pc + 3) (.int r :: rest)) : nw_G P X nL σ lv pc (.int a1 :: .ref (P.2.1 37) :: rest) :=
  nw_callV (As := [.int a1]) (rest := rest) (C := RX5) (ci := 5) h (ct5_sumOf _ P h.2.2 σ a1 K hf) (nw_goodV nw_w575 nw_w576 nw_w577 nw_w342 nw_w578) yd5_sumOf rfl hR ⟨rfl, rfl⟩ rfl (by decide) rfl rfl hst rfl hd (fun v s2 z => by obtain ⟨r, rfl, z⟩ := z; exact k r s2 z)
theorem gf5_286 {P : nw_PT} {X : nw_EX} {cc : ByteArray} {nL : Nat} {σ : nw_ST} {lv : List (Nat × Value)} {pc : Nat} {st : List Value} {q : Nat} (h : nw_ok P X cc RX5 nL) (hq : nw_cl q = 5) (hd : decode cc pc = .ok (.getfield 286, 3)) (k : nw_G P X nL σ lv (pc + 3) (.int (nw_gS σ q 37) :: st)) : nw_G P X nL σ lv pc (.ref (P.2.1 q) :: st) := by
  intro H locs ls h1 h2 h3
  exact va_get (D := P.1) (ci := 5) (C := RX5) (T := TX5) (N := 38) h.1.1 h.1.2.1 h.1.2.2.2.2 in_T5 h.1.2.2.2.1 h.2.1.1 h1 q (nw_at5 hq) rfl 37 (by decide) (h.1.2.2.2.2 _ nw_w412) (fun _ z => z) rfl hd (k H locs ls h1 h2 h3)
def f5_count (K : Int32 → nw_ST → Prop) (σ : nw_ST) (a1 : Int32) : Prop := (((a1 = (0 : Int32)) → (f5_sumOf (fun (r_54 : Int32) (s_54 : nw_ST) => (K r_54 s_54)) σ a1)) ∧ (¬ (a1 = (0 : Int32)) → (((a1 = (1 : Int32)) → (f5_sumOf (fun (r_54 : Int32) (s_54 : nw_ST) => (K r_54 s_54)) σ a1)) ∧ (¬ (a1 = (1 : Int32)) → (((a1 = (2 : Int32)) → ((vp_in (a1 - (2 : Int32)) 2) ∧ (K (nw_gA σ 38 (a1 - (2 : Int32)).toNatClampNeg) σ))) ∧ (¬ (a1 = (2 : Int32)) → (((a1 = (3 : Int32)) → ((vp_in (a1 - (2 : Int32)) 2) ∧ (K (nw_gA σ 38 (a1 - (2 : Int32)).toNatClampNeg) σ))) ∧ (¬ (a1 = (3 : Int32)) → (((a1 = (4 : Int32)) → (f5_sumOf (fun (r_54 : Int32) (s_54 : nw_ST) => (K r_54 s_54)) σ a1)) ∧ (¬ (a1 = (4 : Int32)) → (((a1 = (5 : Int32)) → (K (nw_gS σ 37 16) σ)) ∧ (¬ (a1 = (5 : Int32)) → (((a1 = (6 : Int32)) → (f5_sumOf (fun (r_54 : Int32) (s_54 : nw_ST) => (K r_54 s_54)) σ a1)) ∧ (¬ (a1 = (6 : Int32)) → (((a1 = (7 : Int32)) → (K (nw_gS σ 37 28) σ)) ∧ (¬ (a1 = (7 : Int32)) → (((a1 = (8 : Int32)) → (K (nw_gS σ 37 37) σ)) ∧ (¬ (a1 = (8 : Int32)) → (K (-2 : Int32) σ)))))))))))))))))))
def rm5_count : Room := { frames := 9, cells := 0, slots := 0, locals := 203 }
theorem yd5_count : yX5_count.cls = RX5 ∧ yX5_count.cls ≠ "java/lang/invoke/MethodHandle" ∧ yX5_count.cls ≠ "java/lang/invoke/VarHandle" ∧ (parseMethodDescriptor yX5_count.desc).map (fun d => d.parameters.length) = some 1 := by decide +kernel
set_option maxHeartbeats 4000000 in
set_option maxRecDepth 100000 in
theorem ct5_count (l : Launch) (P : nw_PT) (hD : nw_D P) (σ : nw_ST) (a1 : Int32)  (K : Int32 → nw_ST → Prop) (hf : f5_count K σ a1) : nw_MT l yX5_count cX5_count 2 (some .int) rm5_count P [.ref (P.2.1 37), .int a1] σ (nw_Ki K) := by
  refine nw_enter (by decide) (by first | decide | exact Nat.le_of_ble_eq_true rfl) hD ?_
  intro X hl h he hR
  subst hl
  have h : nw_ok P X cX5_count RX5 2 := h
  show nw_G P X 2 σ [(0, .ref (P.2.1 37)), (1, .int a1)] 0 []
  unfold f5_count at hf
  refine nw_iload_n (pc := 0) h dX5_count_0 rfl 1 rfl ?_
  by_cases e_0 : a1 = (0 : Int32)
  · have hf := hf.1 e_0
    refine nw_tabIn (pc := 1) (off := 51) (tgt := 52) h dX5_count_1 (by rw [e_0]; decide) (by rw [e_0]; decide) (by rw [e_0]; decide) (by decide) ?_
    refine nw_aload_n (pc := 52) h dX5_count_52 rfl 0 rfl ?_
    refine nw_iload_n (pc := 53) h dX5_count_53 rfl 1 rfl ?_
    refine klX5_297 (pc := 54) h (by rw [hR]; decide) hf (Nat.le_of_ble_eq_true rfl) dX5_count_54 (fun r_54 s_54 hf => ?_)
    exact nw_iret (pc := 57) h he dX5_count_57 ⟨_, rfl, hf⟩
  have hf := hf.2 e_0
  by_cases e_1 : a1 = (1 : Int32)
  · have hf := hf.1 e_1
    refine nw_tabIn (pc := 1) (off := 51) (tgt := 52) h dX5_count_1 (by rw [e_1]; decide) (by rw [e_1]; decide) (by rw [e_1]; decide) (by decide) ?_
    refine nw_aload_n (pc := 52) h dX5_count_52 rfl 0 rfl ?_
    refine nw_iload_n (pc := 53) h dX5_count_53 rfl 1 rfl ?_
    refine klX5_297 (pc := 54) h (by rw [hR]; decide) hf (Nat.le_of_ble_eq_true rfl) dX5_count_54 (fun r_54 s_54 hf => ?_)
    exact nw_iret (pc := 57) h he dX5_count_57 ⟨_, rfl, hf⟩
  have hf := hf.2 e_1
  by_cases e_2 : a1 = (2 : Int32)
  · have hf := hf.1 e_2
    refine nw_tabIn (pc := 1) (off := 57) (tgt := 58) h dX5_count_1 (by rw [e_2]; decide) (by rw [e_2]; decide) (by rw [e_2]; decide) (by decide) ?_
    refine nw_aload_n (pc := 58) h dX5_count_58 rfl 0 rfl ?_
    refine gf5_7 (pc := 59) (r := 38) h rfl rfl dX5_count_59 ?_
    refine nw_iload_n (pc := 62) h dX5_count_62 rfl 1 rfl ?_
    refine nw_iconst (pc := 63) (v := 2) h dX5_count_63 (by decide) ?_
    refine nw_isub (pc := 64) h dX5_count_64 ?_
    obtain ⟨h_65, hf⟩ := hf
    refine nw_iald (pc := 65) (n := 2) h rfl rfl h_65 dX5_count_65 ?_
    exact nw_iret (pc := 66) h he dX5_count_66 ⟨_, rfl, hf⟩
  have hf := hf.2 e_2
  by_cases e_3 : a1 = (3 : Int32)
  · have hf := hf.1 e_3
    refine nw_tabIn (pc := 1) (off := 57) (tgt := 58) h dX5_count_1 (by rw [e_3]; decide) (by rw [e_3]; decide) (by rw [e_3]; decide) (by decide) ?_
    refine nw_aload_n (pc := 58) h dX5_count_58 rfl 0 rfl ?_
    refine gf5_7 (pc := 59) (r := 38) h rfl rfl dX5_count_59 ?_
    refine nw_iload_n (pc := 62) h dX5_count_62 rfl 1 rfl ?_
    refine nw_iconst (pc := 63) (v := 2) h dX5_count_63 (by decide) ?_
    refine nw_isub (pc := 64) h dX5_count_64 ?_
    obtain ⟨h_65, hf⟩ := hf
    refine nw_iald (pc := 65) (n := 2) h rfl rfl h_65 dX5_count_65 ?_
    exact nw_iret (pc := 66) h he dX5_count_66 ⟨_, rfl, hf⟩
  have hf := hf.2 e_3
  by_cases e_4 : a1 = (4 : Int32)
  · have hf := hf.1 e_4
    refine nw_tabIn (pc := 1) (off := 51) (tgt := 52) h dX5_count_1 (by rw [e_4]; decide) (by rw [e_4]; decide) (by rw [e_4]; decide) (by decide) ?_
    refine nw_aload_n (pc := 52) h dX5_count_52 rfl 0 rfl ?_
    refine nw_iload_n (pc := 53) h dX5_count_53 rfl 1 rfl ?_
    refine klX5_297 (pc := 54) h (by rw [hR]; decide) hf (Nat.le_of_ble_eq_true rfl) dX5_count_54 (fun r_54 s_54 hf => ?_)
    exact nw_iret (pc := 57) h he dX5_count_57 ⟨_, rfl, hf⟩
  have hf := hf.2 e_4
  by_cases e_5 : a1 = (5 : Int32)
  · have hf := hf.1 e_5
    refine nw_tabIn (pc := 1) (off := 66) (tgt := 67) h dX5_count_1 (by rw [e_5]; decide) (by rw [e_5]; decide) (by rw [e_5]; decide) (by decide) ?_
    refine nw_aload_n (pc := 67) h dX5_count_67 rfl 0 rfl ?_
    refine gf5_152 (pc := 68) h rfl dX5_count_68 ?_
    exact nw_iret (pc := 71) h he dX5_count_71 ⟨_, rfl, hf⟩
  have hf := hf.2 e_5
  by_cases e_6 : a1 = (6 : Int32)
  · have hf := hf.1 e_6
    refine nw_tabIn (pc := 1) (off := 51) (tgt := 52) h dX5_count_1 (by rw [e_6]; decide) (by rw [e_6]; decide) (by rw [e_6]; decide) (by decide) ?_
    refine nw_aload_n (pc := 52) h dX5_count_52 rfl 0 rfl ?_
    refine nw_iload_n (pc := 53) h dX5_count_53 rfl 1 rfl ?_
    refine klX5_297 (pc := 54) h (by rw [hR]; decide) hf (Nat.le_of_ble_eq_true rfl) dX5_count_54 (fun r_54 s_54 hf => ?_)
    exact nw_iret (pc := 57) h he dX5_count_57 ⟨_, rfl, hf⟩
  have hf := hf.2 e_6
  by_cases e_7 : a1 = (7 : Int32)
  · have hf := hf.1 e_7
    refine nw_tabIn (pc := 1) (off := 71) (tgt := 72) h dX5_count_1 (by rw [e_7]; decide) (by rw [e_7]; decide) (by rw [e_7]; decide) (by decide) ?_
    refine nw_aload_n (pc := 72) h dX5_count_72 rfl 0 rfl ?_
    refine gf5_250 (pc := 73) h rfl dX5_count_73 ?_
    exact nw_iret (pc := 76) h he dX5_count_76 ⟨_, rfl, hf⟩
  have hf := hf.2 e_7
  by_cases e_8 : a1 = (8 : Int32)
  · have hf := hf.1 e_8
    refine nw_tabIn (pc := 1) (off := 76) (tgt := 77) h dX5_count_1 (by rw [e_8]; decide) (by rw [e_8]; decide) (by rw [e_8]; decide) (by decide) ?_
    refine nw_aload_n (pc := 77) h dX5_count_77 rfl 0 rfl ?_
    refine gf5_286 (pc := 78) h rfl dX5_count_78 ?_
    exact nw_iret (pc := 81) h he dX5_count_81 ⟨_, rfl, hf⟩
  have hf := hf.2 e_8
  refine nw_tabOut (pc := 1) (tgt := 82) h dX5_count_1 (by have z_0 := lv_neT e_0 (by decide : (0 : Int32).toInt = 0); have z_1 := lv_neT e_1 (by decide : (1 : Int32).toInt = 1); have z_2 := lv_neT e_2 (by decide : (2 : Int32).toInt = 2); have z_3 := lv_neT e_3 (by decide : (3 : Int32).toInt = 3); have z_4 := lv_neT e_4 (by decide : (4 : Int32).toInt = 4); have z_5 := lv_neT e_5 (by decide : (5 : Int32).toInt = 5); have z_6 := lv_neT e_6 (by decide : (6 : Int32).toInt = 6); have z_7 := lv_neT e_7 (by decide : (7 : Int32).toInt = 7); have z_8 := lv_neT e_8 (by decide : (8 : Int32).toInt = 8); omega) (by decide) ?_
  refine nw_bipush (pc := 82) (v := -2) h dX5_count_82 (by decide) ?_
  exact nw_iret (pc := 84) h he dX5_count_84 ⟨_, rfl, hf⟩
theorem klX5_302 {P : nw_PT} {X : nw_EX} {cc : ByteArray} {nL : Nat} {σ : nw_ST} {lv : List (Nat × Value)} {pc : Nat} {rest : List Value} {a1 : Int32} {a2 : Int32} {a3 : Int32} {a4 : Int32} (h : nw_ok P X cc RX5 nL) (hR : rm5_agree.frames + 1 ≤ X.2.2.2.1.frames ∧ 8 + (5 + 11) + rm5_agree.locals ≤ X.2.2.2.1.locals)  {K : Int32 → nw_ST → Prop} (hf : f5_agree K σ a1 a2 a3 a4) (hst : (rest.map fun v => v.category).sum ≤ 8) (hd : decode cc pc = .ok (.invokevirtual 302, 3)) (k : ∀ (r : Int32) (s2 : nw_ST), K r s2 → nw_G P X nL s2 lv (pc + 3) (.int r :: rest)) : nw_G P X nL σ lv pc (.int a4 :: .int a3 :: .int a2 :: .int a1 :: .ref (P.2.1 37) :: rest) :=
  nw_callV (As := [.int a1, .int a2, .int a3, .int a4]) (rest := rest) (C := RX5) (ci := 5) h (ct5_agree _ P h.2.2 σ a1 a2 a3 a4 K hf) (nw_goodV nw_w580 nw_w581 nw_w582 nw_w342 nw_w583) yd5_agree rfl hR ⟨rfl, rfl⟩ rfl (by decide) rfl rfl hst rfl hd (fun v s2 z => by obtain ⟨r, rfl, z⟩ := z; exact k r s2 z)
def b5_swellDigest_6 (K : Int64 → nw_ST → Prop) (H_6 : nw_ST → Int32 → Int64 → Int32 → Prop) (σ : nw_ST) (x3 : Int32) (x4 : Int64) (x6 : Int32) : Prop := ((((3 : Int32) ≤ x6) → (f5_agree (fun (r_46 : Int32) (s_46 : nw_ST) => (f5_agree (fun (r_64 : Int32) (s_64 : nw_ST) => (f5_oftenOf (fun (r_80 : Int32) (s_80 : nw_ST) => (f5_oftenOf (fun (r_96 : Int32) (s_96 : nw_ST) => (K (((31 : Int64) * (((31 : Int64) * (((31 : Int64) * (((31 : Int64) * x4) + (Int32.toInt64 r_46))) + (Int32.toInt64 r_64))) + (Int32.toInt64 r_80))) + (Int32.toInt64 r_96)) s_96)) s_80 x3 (0 : Int32))) s_64 x3 (-1 : Int32))) s_46 (0 : Int32) x3 (5 : Int32) (1 : Int32))) σ (0 : Int32) x3 (5 : Int32) (0 : Int32))) ∧ (¬ ((3 : Int32) ≤ x6) → ((o5_swellOf σ x3 x6) ∧ (H_6 σ x3 (((31 : Int64) * x4) + (Int32.toInt64 (v5_swellOf σ x3 x6))) (x6 + (1 : Int32))))))
def f5_swellDigest_6 (K : Int64 → nw_ST → Prop) : Nat → nw_ST → Int32 → Int64 → Int32 → Prop
  | 0 => fun _ _ _ _ => False
  | n + 1 => b5_swellDigest_6 K (f5_swellDigest_6 K n)
def f5_swellDigest (K : Int64 → nw_ST → Prop) (σ : nw_ST) (a1 : Int64) (a2 : Int32) : Prop := (∃ n, f5_swellDigest_6 K n σ a2 a1 (0 : Int32))
def rm5_swellDigest : Room := { frames := 9, cells := 0, slots := 0, locals := 205 }
theorem yd5_swellDigest : yX5_swellDigest.cls = RX5 ∧ yX5_swellDigest.cls ≠ "java/lang/invoke/MethodHandle" ∧ yX5_swellDigest.cls ≠ "java/lang/invoke/VarHandle" ∧ (parseMethodDescriptor yX5_swellDigest.desc).map (fun d => d.parameters.length) = some 2 := by decide +kernel
set_option maxHeartbeats 4000000 in
set_option maxRecDepth 100000 in
theorem ct5_swellDigest (l : Launch) (P : nw_PT) (hD : nw_D P) (σ : nw_ST) (a1 : Int64) (a2 : Int32)  (K : Int64 → nw_ST → Prop) (hf : f5_swellDigest K σ a1 a2) : nw_MT l yX5_swellDigest cX5_swellDigest 7 (some .long) rm5_swellDigest P [.ref (P.2.1 37), .long a1, .int a2] σ (nw_Kl K) := by
  refine nw_enter (by decide) (by first | decide | exact Nat.le_of_ble_eq_true rfl) hD ?_
  intro X hl h he hR
  subst hl
  have h : nw_ok P X cX5_swellDigest RX5 7 := h
  show nw_G P X 7 σ [(0, .ref (P.2.1 37)), (1, .long a1), (3, .int a2)] 0 []
  have hB_6 : ∀ (H_6 : nw_ST → Int32 → Int64 → Int32 → Prop) (hH_6 : (∀ (σ : nw_ST) (x3 : Int32) (x4 : Int64) (x6 : Int32), H_6 σ x3 x4 x6 → nw_G P X 7 σ [(0, .ref (P.2.1 37)), (3, .int x3), (4, .long x4), (6, .int x6)] 6 [])), ∀ (σ : nw_ST) (x3 : Int32) (x4 : Int64) (x6 : Int32), b5_swellDigest_6 K H_6 σ x3 x4 x6 → nw_G P X 7 σ [(0, .ref (P.2.1 37)), (3, .int x3), (4, .long x4), (6, .int x6)] 6 [] := by
    intro H_6 hH_6 σ x3 x4 x6 hf
    unfold b5_swellDigest_6 at hf
    refine nw_iload (pc := 6) h dX5_swellDigest_6 3 rfl ?_
    refine nw_iconst (pc := 8) (v := 3) h dX5_swellDigest_8 (by decide) ?_
    refine nw_icmp_ge (pc := 9) (tgt := 35) h dX5_swellDigest_9 (by decide) (fun c_9 => ?_) (fun c_9 => ?_)
    · have hf := hf.1 c_9
      refine nw_ldc2 (pc := 35) h nw_w579 dX5_swellDigest_35 ?_
      refine nw_lload (pc := 38) h dX5_swellDigest_38 2 rfl ?_
      refine nw_lmul (pc := 40) h dX5_swellDigest_40 ?_
      refine nw_aload_n (pc := 41) h dX5_swellDigest_41 rfl 0 rfl ?_
      refine nw_iconst (pc := 42) (v := 0) h dX5_swellDigest_42 (by decide) ?_
      refine nw_iload_n (pc := 43) h dX5_swellDigest_43 rfl 1 rfl ?_
      refine nw_iconst (pc := 44) (v := 5) h dX5_swellDigest_44 (by decide) ?_
      refine nw_iconst (pc := 45) (v := 0) h dX5_swellDigest_45 (by decide) ?_
      refine klX5_302 (pc := 46) h (by rw [hR]; decide) hf (Nat.le_of_ble_eq_true rfl) dX5_swellDigest_46 (fun r_46 s_46 hf => ?_)
      refine nw_i2l (pc := 49) h dX5_swellDigest_49 ?_
      refine nw_ladd (pc := 50) h dX5_swellDigest_50 ?_
      refine nw_lstore (pc := 51) (lv' := [(4, .long (((31 : Int64) * x4) + (Int32.toInt64 r_46))), (0, .ref (P.2.1 37)), (3, .int x3), (6, .int x6)]) h dX5_swellDigest_51 (by decide) rfl ?_
      refine nw_ldc2 (pc := 53) h nw_w579 dX5_swellDigest_53 ?_
      refine nw_lload (pc := 56) h dX5_swellDigest_56 0 rfl ?_
      refine nw_lmul (pc := 58) h dX5_swellDigest_58 ?_
      refine nw_aload_n (pc := 59) h dX5_swellDigest_59 rfl 1 rfl ?_
      refine nw_iconst (pc := 60) (v := 0) h dX5_swellDigest_60 (by decide) ?_
      refine nw_iload_n (pc := 61) h dX5_swellDigest_61 rfl 2 rfl ?_
      refine nw_iconst (pc := 62) (v := 5) h dX5_swellDigest_62 (by decide) ?_
      refine nw_iconst (pc := 63) (v := 1) h dX5_swellDigest_63 (by decide) ?_
      refine klX5_302 (pc := 64) h (by rw [hR]; decide) hf (Nat.le_of_ble_eq_true rfl) dX5_swellDigest_64 (fun r_64 s_64 hf => ?_)
      refine nw_i2l (pc := 67) h dX5_swellDigest_67 ?_
      refine nw_ladd (pc := 68) h dX5_swellDigest_68 ?_
      refine nw_lstore (pc := 69) (lv' := [(4, .long (((31 : Int64) * (((31 : Int64) * x4) + (Int32.toInt64 r_46))) + (Int32.toInt64 r_64))), (0, .ref (P.2.1 37)), (3, .int x3), (6, .int x6)]) h dX5_swellDigest_69 (by decide) rfl ?_
      refine nw_ldc2 (pc := 71) h nw_w579 dX5_swellDigest_71 ?_
      refine nw_lload (pc := 74) h dX5_swellDigest_74 0 rfl ?_
      refine nw_lmul (pc := 76) h dX5_swellDigest_76 ?_
      refine nw_aload_n (pc := 77) h dX5_swellDigest_77 rfl 1 rfl ?_
      refine nw_iload_n (pc := 78) h dX5_swellDigest_78 rfl 2 rfl ?_
      refine nw_iconst (pc := 79) (v := -1) h dX5_swellDigest_79 (by decide) ?_
      refine klX5_263 (pc := 80) h (by rw [hR]; decide) hf (Nat.le_of_ble_eq_true rfl) dX5_swellDigest_80 (fun r_80 s_80 hf => ?_)
      refine nw_i2l (pc := 83) h dX5_swellDigest_83 ?_
      refine nw_ladd (pc := 84) h dX5_swellDigest_84 ?_
      refine nw_lstore (pc := 85) (lv' := [(4, .long (((31 : Int64) * (((31 : Int64) * (((31 : Int64) * x4) + (Int32.toInt64 r_46))) + (Int32.toInt64 r_64))) + (Int32.toInt64 r_80))), (0, .ref (P.2.1 37)), (3, .int x3), (6, .int x6)]) h dX5_swellDigest_85 (by decide) rfl ?_
      refine nw_ldc2 (pc := 87) h nw_w579 dX5_swellDigest_87 ?_
      refine nw_lload (pc := 90) h dX5_swellDigest_90 0 rfl ?_
      refine nw_lmul (pc := 92) h dX5_swellDigest_92 ?_
      refine nw_aload_n (pc := 93) h dX5_swellDigest_93 rfl 1 rfl ?_
      refine nw_iload_n (pc := 94) h dX5_swellDigest_94 rfl 2 rfl ?_
      refine nw_iconst (pc := 95) (v := 0) h dX5_swellDigest_95 (by decide) ?_
      refine klX5_263 (pc := 96) h (by rw [hR]; decide) hf (Nat.le_of_ble_eq_true rfl) dX5_swellDigest_96 (fun r_96 s_96 hf => ?_)
      refine nw_i2l (pc := 99) h dX5_swellDigest_99 ?_
      refine nw_ladd (pc := 100) h dX5_swellDigest_100 ?_
      exact nw_lret (pc := 101) h he dX5_swellDigest_101 ⟨_, rfl, hf⟩
    · have hf := hf.2 c_9
      refine nw_ldc2 (pc := 12) h nw_w579 dX5_swellDigest_12 ?_
      refine nw_lload (pc := 15) h dX5_swellDigest_15 2 rfl ?_
      refine nw_lmul (pc := 17) h dX5_swellDigest_17 ?_
      refine nw_aload_n (pc := 18) h dX5_swellDigest_18 rfl 0 rfl ?_
      refine nw_iload_n (pc := 19) h dX5_swellDigest_19 rfl 1 rfl ?_
      refine nw_iload (pc := 20) h dX5_swellDigest_20 3 rfl ?_
      obtain ⟨h_22, hf⟩ := hf
      refine klX5_128 (pc := 22) h (by rw [hR]; decide) h_22 (Nat.le_of_ble_eq_true rfl) dX5_swellDigest_22 ?_
      refine nw_i2l (pc := 25) h dX5_swellDigest_25 ?_
      refine nw_ladd (pc := 26) h dX5_swellDigest_26 ?_
      refine nw_lstore (pc := 27) (lv' := [(4, .long (((31 : Int64) * x4) + (Int32.toInt64 (v5_swellOf σ x3 x6)))), (0, .ref (P.2.1 37)), (3, .int x3), (6, .int x6)]) h dX5_swellDigest_27 (by decide) rfl ?_
      refine nw_iinc (pc := 29) (v := (x6 + (1 : Int32))) (lv' := [(6, .int (x6 + (1 : Int32))), (4, .long (((31 : Int64) * x4) + (Int32.toInt64 (v5_swellOf σ x3 x6)))), (0, .ref (P.2.1 37)), (3, .int x3)]) h dX5_swellDigest_29 (j := 3) rfl rfl (by decide) rfl ?_
      refine nw_goto (pc := 32) (tgt := 6) h dX5_swellDigest_32 (by decide) ?_
      refine nw_sub (lv' := [(0, .ref (P.2.1 37)), (3, .int x3), (4, .long (((31 : Int64) * x4) + (Int32.toInt64 (v5_swellOf σ x3 x6)))), (6, .int (x6 + (1 : Int32)))]) [2, 3, 1, 0] rfl ?_
      exact hH_6 _ _ _ _ (hf)
  have hL_6 :  ∀ (n : Nat) (σ : nw_ST) (x3 : Int32) (x4 : Int64) (x6 : Int32), f5_swellDigest_6 K n σ x3 x4 x6 → nw_G P X 7 σ [(0, .ref (P.2.1 37)), (3, .int x3), (4, .long x4), (6, .int x6)] 6 [] := by
    intro n
    induction n with
    | zero => intro σ x3 x4 x6 hf; exact False.elim hf
    | succ n ih => exact hB_6 _ ih
  unfold f5_swellDigest at hf
  refine nw_lload_n (pc := 0) h dX5_swellDigest_0 rfl 1 rfl ?_
  refine nw_lstore (pc := 1) (lv' := [(4, .long a1), (0, .ref (P.2.1 37)), (1, .long a1), (3, .int a2)]) h dX5_swellDigest_1 (by decide) rfl ?_
  refine nw_iconst (pc := 3) (v := 0) h dX5_swellDigest_3 (by decide) ?_
  refine nw_istore (pc := 4) (lv' := [(6, .int (0 : Int32)), (4, .long a1), (0, .ref (P.2.1 37)), (1, .long a1), (3, .int a2)]) h dX5_swellDigest_4 (by decide) rfl ?_
  obtain ⟨n_6, hf⟩ := hf
  refine nw_sub (lv' := [(0, .ref (P.2.1 37)), (3, .int a2), (4, .long a1), (6, .int (0 : Int32))]) [2, 4, 1, 0] rfl ?_
  exact hL_6 n_6 _ _ _ _ hf
def b5_timeDigest_17 (K : Int64 → nw_ST → Prop) (H_17 : nw_ST → Int32 → Int64 → Int32 → Prop) (σ : nw_ST) (x3 : Int32) (x4 : Int64) (x6 : Int32) : Prop := ((((3 : Int32) ≤ x6) → (f5_calledOf (fun (r_55 : Int32) (s_55 : nw_ST) => (K (((31 : Int64) * x4) + (Int32.toInt64 r_55)) s_55)) σ (0 : Int32) x3)) ∧ (¬ ((3 : Int32) ≤ x6) → (f5_waveOf (fun (r_33 : Int32) (s_33 : nw_ST) => (H_17 s_33 x3 (((31 : Int64) * x4) + (Int32.toInt64 r_33)) (x6 + (1 : Int32)))) σ x3 x6)))
def f5_timeDigest_17 (K : Int64 → nw_ST → Prop) : Nat → nw_ST → Int32 → Int64 → Int32 → Prop
  | 0 => fun _ _ _ _ => False
  | n + 1 => b5_timeDigest_17 K (f5_timeDigest_17 K n)
def f5_timeDigest (K : Int64 → nw_ST → Prop) (σ : nw_ST) (a1 : Int64) (a2 : Int32) : Prop := (f5_highOf (fun (r_7 : Int32) (s_7 : nw_ST) => (∃ n, f5_timeDigest_17 K n s_7 a2 (((31 : Int64) * a1) + (Int32.toInt64 r_7)) (0 : Int32))) σ a2)
def rm5_timeDigest : Room := { frames := 9, cells := 0, slots := 0, locals := 204 }
theorem yd5_timeDigest : yX5_timeDigest.cls = RX5 ∧ yX5_timeDigest.cls ≠ "java/lang/invoke/MethodHandle" ∧ yX5_timeDigest.cls ≠ "java/lang/invoke/VarHandle" ∧ (parseMethodDescriptor yX5_timeDigest.desc).map (fun d => d.parameters.length) = some 2 := by decide +kernel
set_option maxHeartbeats 4000000 in
set_option maxRecDepth 100000 in
theorem ct5_timeDigest (l : Launch) (P : nw_PT) (hD : nw_D P) (σ : nw_ST) (a1 : Int64) (a2 : Int32)  (K : Int64 → nw_ST → Prop) (hf : f5_timeDigest K σ a1 a2) : nw_MT l yX5_timeDigest cX5_timeDigest 7 (some .long) rm5_timeDigest P [.ref (P.2.1 37), .long a1, .int a2] σ (nw_Kl K) := by
  refine nw_enter (by decide) (by first | decide | exact Nat.le_of_ble_eq_true rfl) hD ?_
  intro X hl h he hR
  subst hl
  have h : nw_ok P X cX5_timeDigest RX5 7 := h
  show nw_G P X 7 σ [(0, .ref (P.2.1 37)), (1, .long a1), (3, .int a2)] 0 []
  have hB_17 : ∀ (H_17 : nw_ST → Int32 → Int64 → Int32 → Prop) (hH_17 : (∀ (σ : nw_ST) (x3 : Int32) (x4 : Int64) (x6 : Int32), H_17 σ x3 x4 x6 → nw_G P X 7 σ [(0, .ref (P.2.1 37)), (3, .int x3), (4, .long x4), (6, .int x6)] 17 [])), ∀ (σ : nw_ST) (x3 : Int32) (x4 : Int64) (x6 : Int32), b5_timeDigest_17 K H_17 σ x3 x4 x6 → nw_G P X 7 σ [(0, .ref (P.2.1 37)), (3, .int x3), (4, .long x4), (6, .int x6)] 17 [] := by
    intro H_17 hH_17 σ x3 x4 x6 hf
    unfold b5_timeDigest_17 at hf
    refine nw_iload (pc := 17) h dX5_timeDigest_17 3 rfl ?_
    refine nw_iconst (pc := 19) (v := 3) h dX5_timeDigest_19 (by decide) ?_
    refine nw_icmp_ge (pc := 20) (tgt := 46) h dX5_timeDigest_20 (by decide) (fun c_20 => ?_) (fun c_20 => ?_)
    · have hf := hf.1 c_20
      refine nw_ldc2 (pc := 46) h nw_w579 dX5_timeDigest_46 ?_
      refine nw_lload (pc := 49) h dX5_timeDigest_49 2 rfl ?_
      refine nw_lmul (pc := 51) h dX5_timeDigest_51 ?_
      refine nw_aload_n (pc := 52) h dX5_timeDigest_52 rfl 0 rfl ?_
      refine nw_iconst (pc := 53) (v := 0) h dX5_timeDigest_53 (by decide) ?_
      refine nw_iload_n (pc := 54) h dX5_timeDigest_54 rfl 1 rfl ?_
      refine klX5_213 (pc := 55) h (by rw [hR]; decide) hf (Nat.le_of_ble_eq_true rfl) dX5_timeDigest_55 (fun r_55 s_55 hf => ?_)
      refine nw_i2l (pc := 58) h dX5_timeDigest_58 ?_
      refine nw_ladd (pc := 59) h dX5_timeDigest_59 ?_
      exact nw_lret (pc := 60) h he dX5_timeDigest_60 ⟨_, rfl, hf⟩
    · have hf := hf.2 c_20
      refine nw_ldc2 (pc := 23) h nw_w579 dX5_timeDigest_23 ?_
      refine nw_lload (pc := 26) h dX5_timeDigest_26 2 rfl ?_
      refine nw_lmul (pc := 28) h dX5_timeDigest_28 ?_
      refine nw_aload_n (pc := 29) h dX5_timeDigest_29 rfl 0 rfl ?_
      refine nw_iload_n (pc := 30) h dX5_timeDigest_30 rfl 1 rfl ?_
      refine nw_iload (pc := 31) h dX5_timeDigest_31 3 rfl ?_
      refine klX5_204 (pc := 33) h (by rw [hR]; decide) hf (Nat.le_of_ble_eq_true rfl) dX5_timeDigest_33 (fun r_33 s_33 hf => ?_)
      refine nw_i2l (pc := 36) h dX5_timeDigest_36 ?_
      refine nw_ladd (pc := 37) h dX5_timeDigest_37 ?_
      refine nw_lstore (pc := 38) (lv' := [(4, .long (((31 : Int64) * x4) + (Int32.toInt64 r_33))), (0, .ref (P.2.1 37)), (3, .int x3), (6, .int x6)]) h dX5_timeDigest_38 (by decide) rfl ?_
      refine nw_iinc (pc := 40) (v := (x6 + (1 : Int32))) (lv' := [(6, .int (x6 + (1 : Int32))), (4, .long (((31 : Int64) * x4) + (Int32.toInt64 r_33))), (0, .ref (P.2.1 37)), (3, .int x3)]) h dX5_timeDigest_40 (j := 3) rfl rfl (by decide) rfl ?_
      refine nw_goto (pc := 43) (tgt := 17) h dX5_timeDigest_43 (by decide) ?_
      refine nw_sub (lv' := [(0, .ref (P.2.1 37)), (3, .int x3), (4, .long (((31 : Int64) * x4) + (Int32.toInt64 r_33))), (6, .int (x6 + (1 : Int32)))]) [2, 3, 1, 0] rfl ?_
      exact hH_17 _ _ _ _ (hf)
  have hL_17 :  ∀ (n : Nat) (σ : nw_ST) (x3 : Int32) (x4 : Int64) (x6 : Int32), f5_timeDigest_17 K n σ x3 x4 x6 → nw_G P X 7 σ [(0, .ref (P.2.1 37)), (3, .int x3), (4, .long x4), (6, .int x6)] 17 [] := by
    intro n
    induction n with
    | zero => intro σ x3 x4 x6 hf; exact False.elim hf
    | succ n ih => exact hB_17 _ ih
  unfold f5_timeDigest at hf
  refine nw_ldc2 (pc := 0) h nw_w579 dX5_timeDigest_0 ?_
  refine nw_lload_n (pc := 3) h dX5_timeDigest_3 rfl 1 rfl ?_
  refine nw_lmul (pc := 4) h dX5_timeDigest_4 ?_
  refine nw_aload_n (pc := 5) h dX5_timeDigest_5 rfl 0 rfl ?_
  refine nw_iload_n (pc := 6) h dX5_timeDigest_6 rfl 2 rfl ?_
  refine klX5_201 (pc := 7) h (by rw [hR]; decide) hf (Nat.le_of_ble_eq_true rfl) dX5_timeDigest_7 (fun r_7 s_7 hf => ?_)
  refine nw_i2l (pc := 10) h dX5_timeDigest_10 ?_
  refine nw_ladd (pc := 11) h dX5_timeDigest_11 ?_
  refine nw_lstore (pc := 12) (lv' := [(4, .long (((31 : Int64) * a1) + (Int32.toInt64 r_7))), (0, .ref (P.2.1 37)), (1, .long a1), (3, .int a2)]) h dX5_timeDigest_12 (by decide) rfl ?_
  refine nw_iconst (pc := 14) (v := 0) h dX5_timeDigest_14 (by decide) ?_
  refine nw_istore (pc := 15) (lv' := [(6, .int (0 : Int32)), (4, .long (((31 : Int64) * a1) + (Int32.toInt64 r_7))), (0, .ref (P.2.1 37)), (1, .long a1), (3, .int a2)]) h dX5_timeDigest_15 (by decide) rfl ?_
  obtain ⟨n_17, hf⟩ := hf
  refine nw_sub (lv' := [(0, .ref (P.2.1 37)), (3, .int a2), (4, .long (((31 : Int64) * a1) + (Int32.toInt64 r_7))), (6, .int (0 : Int32))]) [2, 4, 1, 0] rfl ?_
  exact hL_17 n_17 _ _ _ _ hf
def f5_numberDigest (K : Int64 → nw_ST → Prop) (σ : nw_ST) (a1 : Int64) (a2 : Int32) : Prop := (f5_whenOf (fun (r_7 : Int32) (s_7 : nw_ST) => (f5_bringsOf (fun (r_22 : Int32) (s_22 : nw_ST) => (K (((31 : Int64) * (((31 : Int64) * a1) + (Int32.toInt64 r_7))) + (Int32.toInt64 r_22)) s_22)) s_7 a2)) σ a2)
def rm5_numberDigest : Room := { frames := 9, cells := 0, slots := 0, locals := 201 }
theorem yd5_numberDigest : yX5_numberDigest.cls = RX5 ∧ yX5_numberDigest.cls ≠ "java/lang/invoke/MethodHandle" ∧ yX5_numberDigest.cls ≠ "java/lang/invoke/VarHandle" ∧ (parseMethodDescriptor yX5_numberDigest.desc).map (fun d => d.parameters.length) = some 2 := by decide +kernel
set_option maxHeartbeats 4000000 in
set_option maxRecDepth 100000 in
theorem ct5_numberDigest (l : Launch) (P : nw_PT) (hD : nw_D P) (σ : nw_ST) (a1 : Int64) (a2 : Int32)  (K : Int64 → nw_ST → Prop) (hf : f5_numberDigest K σ a1 a2) : nw_MT l yX5_numberDigest cX5_numberDigest 6 (some .long) rm5_numberDigest P [.ref (P.2.1 37), .long a1, .int a2] σ (nw_Kl K) := by
  refine nw_enter (by decide) (by first | decide | exact Nat.le_of_ble_eq_true rfl) hD ?_
  intro X hl h he hR
  subst hl
  have h : nw_ok P X cX5_numberDigest RX5 6 := h
  show nw_G P X 6 σ [(0, .ref (P.2.1 37)), (1, .long a1), (3, .int a2)] 0 []
  unfold f5_numberDigest at hf
  refine nw_ldc2 (pc := 0) h nw_w579 dX5_numberDigest_0 ?_
  refine nw_lload_n (pc := 3) h dX5_numberDigest_3 rfl 1 rfl ?_
  refine nw_lmul (pc := 4) h dX5_numberDigest_4 ?_
  refine nw_aload_n (pc := 5) h dX5_numberDigest_5 rfl 0 rfl ?_
  refine nw_iload_n (pc := 6) h dX5_numberDigest_6 rfl 2 rfl ?_
  refine klX5_210 (pc := 7) h (by rw [hR]; decide) hf (Nat.le_of_ble_eq_true rfl) dX5_numberDigest_7 (fun r_7 s_7 hf => ?_)
  refine nw_i2l (pc := 10) h dX5_numberDigest_10 ?_
  refine nw_ladd (pc := 11) h dX5_numberDigest_11 ?_
  refine nw_lstore (pc := 12) (lv' := [(4, .long (((31 : Int64) * a1) + (Int32.toInt64 r_7))), (0, .ref (P.2.1 37)), (1, .long a1), (3, .int a2)]) h dX5_numberDigest_12 (by decide) rfl ?_
  refine nw_ldc2 (pc := 14) h nw_w579 dX5_numberDigest_14 ?_
  refine nw_lload (pc := 17) h dX5_numberDigest_17 0 rfl ?_
  refine nw_lmul (pc := 19) h dX5_numberDigest_19 ?_
  refine nw_aload_n (pc := 20) h dX5_numberDigest_20 rfl 1 rfl ?_
  refine nw_iload_n (pc := 21) h dX5_numberDigest_21 rfl 3 rfl ?_
  refine klX5_219 (pc := 22) h (by rw [hR]; decide) hf (Nat.le_of_ble_eq_true rfl) dX5_numberDigest_22 (fun r_22 s_22 hf => ?_)
  refine nw_i2l (pc := 25) h dX5_numberDigest_25 ?_
  refine nw_ladd (pc := 26) h dX5_numberDigest_26 ?_
  exact nw_lret (pc := 27) h he dX5_numberDigest_27 ⟨_, rfl, hf⟩
theorem klX5_314 {P : nw_PT} {X : nw_EX} {cc : ByteArray} {nL : Nat} {σ : nw_ST} {lv : List (Nat × Value)} {pc : Nat} {rest : List Value} {a1 : Int64} {a2 : Int32} (h : nw_ok P X cc RX5 nL) (hR : rm5_timeDigest.frames + 1 ≤ X.2.2.2.1.frames ∧ 8 + (7 + 11) + rm5_timeDigest.locals ≤ X.2.2.2.1.locals)  {K : Int64 → nw_ST → Prop} (hf : f5_timeDigest K σ a1 a2) (hst : (rest.map fun v => v.category).sum ≤ 8) (hd : decode cc pc = .ok (.invokevirtual 314, 3)) (k : ∀ (r : Int64) (s2 : nw_ST), K r s2 → nw_G P X nL s2 lv (pc + 3) (.long r :: rest)) : nw_G P X nL σ lv pc (.int a2 :: .long a1 :: .ref (P.2.1 37) :: rest) :=
  nw_callV (As := [.long a1, .int a2]) (rest := rest) (C := RX5) (ci := 5) h (ct5_timeDigest _ P h.2.2 σ a1 a2 K hf) (nw_goodV nw_w585 nw_w586 nw_w587 nw_w342 nw_w588) yd5_timeDigest rfl hR ⟨rfl, rfl⟩ rfl (by decide) rfl rfl hst rfl hd (fun v s2 z => by obtain ⟨r, rfl, z⟩ := z; exact k r s2 z)
theorem klX5_317 {P : nw_PT} {X : nw_EX} {cc : ByteArray} {nL : Nat} {σ : nw_ST} {lv : List (Nat × Value)} {pc : Nat} {rest : List Value} {a1 : Int64} {a2 : Int32} (h : nw_ok P X cc RX5 nL) (hR : rm5_numberDigest.frames + 1 ≤ X.2.2.2.1.frames ∧ 8 + (6 + 11) + rm5_numberDigest.locals ≤ X.2.2.2.1.locals)  {K : Int64 → nw_ST → Prop} (hf : f5_numberDigest K σ a1 a2) (hst : (rest.map fun v => v.category).sum ≤ 8) (hd : decode cc pc = .ok (.invokevirtual 317, 3)) (k : ∀ (r : Int64) (s2 : nw_ST), K r s2 → nw_G P X nL s2 lv (pc + 3) (.long r :: rest)) : nw_G P X nL σ lv pc (.int a2 :: .long a1 :: .ref (P.2.1 37) :: rest) :=
  nw_callV (As := [.long a1, .int a2]) (rest := rest) (C := RX5) (ci := 5) h (ct5_numberDigest _ P h.2.2 σ a1 a2 K hf) (nw_goodV nw_w589 nw_w590 nw_w591 nw_w342 nw_w592) yd5_numberDigest rfl hR ⟨rfl, rfl⟩ rfl (by decide) rfl rfl hst rfl hd (fun v s2 z => by obtain ⟨r, rfl, z⟩ := z; exact k r s2 z)
theorem klX5_310 {P : nw_PT} {X : nw_EX} {cc : ByteArray} {nL : Nat} {σ : nw_ST} {lv : List (Nat × Value)} {pc : Nat} {rest : List Value} {a1 : Int64} {a2 : Int32} (h : nw_ok P X cc RX5 nL) (hR : rm5_swellDigest.frames + 1 ≤ X.2.2.2.1.frames ∧ 8 + (7 + 11) + rm5_swellDigest.locals ≤ X.2.2.2.1.locals)  {K : Int64 → nw_ST → Prop} (hf : f5_swellDigest K σ a1 a2) (hst : (rest.map fun v => v.category).sum ≤ 8) (hd : decode cc pc = .ok (.invokevirtual 310, 3)) (k : ∀ (r : Int64) (s2 : nw_ST), K r s2 → nw_G P X nL s2 lv (pc + 3) (.long r :: rest)) : nw_G P X nL σ lv pc (.int a2 :: .long a1 :: .ref (P.2.1 37) :: rest) :=
  nw_callV (As := [.long a1, .int a2]) (rest := rest) (C := RX5) (ci := 5) h (ct5_swellDigest _ P h.2.2 σ a1 a2 K hf) (nw_goodV nw_w593 nw_w594 nw_w595 nw_w342 nw_w596) yd5_swellDigest rfl hR ⟨rfl, rfl⟩ rfl (by decide) rfl rfl hst rfl hd (fun v s2 z => by obtain ⟨r, rfl, z⟩ := z; exact k r s2 z)
theorem klX5_307 {P : nw_PT} {X : nw_EX} {cc : ByteArray} {nL : Nat} {σ : nw_ST} {lv : List (Nat × Value)} {pc : Nat} {rest : List Value} {a1 : Int32} (h : nw_ok P X cc RX5 nL) (hR : rm5_count.frames + 1 ≤ X.2.2.2.1.frames ∧ 8 + (2 + 11) + rm5_count.locals ≤ X.2.2.2.1.locals)  {K : Int32 → nw_ST → Prop} (hf : f5_count K σ a1) (hst : (rest.map fun v => v.category).sum ≤ 8) (hd : decode cc pc = .ok (.invokevirtual 307, 3)) (k : ∀ (r : Int32) (s2 : nw_ST), K r s2 → nw_G P X nL s2 lv (pc + 3) (.int r :: rest)) : nw_G P X nL σ lv pc (.int a1 :: .ref (P.2.1 37) :: rest) :=
  nw_callV (As := [.int a1]) (rest := rest) (C := RX5) (ci := 5) h (ct5_count _ P h.2.2 σ a1 K hf) (nw_goodV nw_w597 nw_w598 nw_w599 nw_w342 nw_w600) yd5_count rfl hR ⟨rfl, rfl⟩ rfl (by decide) rfl rfl hst rfl hd (fun v s2 z => by obtain ⟨r, rfl, z⟩ := z; exact k r s2 z)
def b5_digest_237 (K : Int64 → nw_ST → Prop) (H_237 : nw_ST → Int64 → Int32 → Prop) (σ : nw_ST) (x1 : Int64) (x3 : Int32) : Prop := ((((nw_gS σ 37 16) ≤ x3) → (f5_runOf (fun (r_272 : Int32) (s_272 : nw_ST) => (f5_runOf (fun (r_286 : Int32) (s_286 : nw_ST) => (f5_barOf (fun (r_300 : Int32) (s_300 : nw_ST) => (f5_skippedOf (fun (r_313 : Int32) (s_313 : nw_ST) => (f5_voidsOf (fun (r_326 : Int32) (s_326 : nw_ST) => (f5_voidsOf (fun (r_339 : Int32) (s_339 : nw_ST) => (f5_hoarseOf (fun (r_354 : Int64) (s_354 : nw_ST) => (f5_hoarseOf (fun (r_368 : Int64) (s_368 : nw_ST) => (f5_stormOf (fun (r_384 : Int32) (s_384 : nw_ST) => (f5_stormOf (fun (r_401 : Int32) (s_401 : nw_ST) => (K (((31 : Int64) * (((31 : Int64) * (((31 : Int64) * (((31 : Int64) * (((31 : Int64) * (((31 : Int64) * (((31 : Int64) * (((31 : Int64) * (((31 : Int64) * (((31 : Int64) * x1) + (Int32.toInt64 r_272))) + (Int32.toInt64 r_286))) + (Int32.toInt64 r_300))) + (Int32.toInt64 r_313))) + (Int32.toInt64 r_326))) + (Int32.toInt64 r_339))) + r_354)) + r_368)) + (Int32.toInt64 r_384))) + (Int32.toInt64 r_401)) s_401)) s_384 (7 : Int32) (30 : Int32) (1 : Int32))) s_368 (7 : Int32) (30 : Int32) (0 : Int32))) s_354 (5 : Int32) (4 : Int32) (1 : Int32))) s_339 (5 : Int32) (4 : Int32) (0 : Int32))) s_326 (0 : Int32))) s_313 (-1 : Int32))) s_300 (1 : Int32))) s_286 (9 : Int32))) s_272 (3 : Int32) (1 : Int32))) σ (3 : Int32) (0 : Int32))) ∧ (¬ ((nw_gS σ 37 16) ≤ x3) → (f5_goodOf (fun (r_252 : Int32) (s_252 : nw_ST) => (H_237 s_252 (((31 : Int64) * x1) + (Int32.toInt64 r_252)) (x3 + (1 : Int32)))) σ x3)))
def f5_digest_237 (K : Int64 → nw_ST → Prop) : Nat → nw_ST → Int64 → Int32 → Prop
  | 0 => fun _ _ _ => False
  | n + 1 => b5_digest_237 K (f5_digest_237 K n)
def b5_digest_182 (K : Int64 → nw_ST → Prop) (H_182 : nw_ST → Int64 → Int32 → Prop) (σ : nw_ST) (x1 : Int64) (x3 : Int32) : Prop := ((((8 : Int32) ≤ x3) → (∃ n, f5_digest_237 K n σ x1 (0 : Int32))) ∧ (¬ ((8 : Int32) ≤ x3) → (f5_claimsOf (fun (r_195 : Int32) (s_195 : nw_ST) => (f5_earnOf (fun (r_209 : Int32) (s_209 : nw_ST) => (f5_earnOf (fun (r_223 : Int32) (s_223 : nw_ST) => (H_182 s_223 (((31 : Int64) * (((31 : Int64) * (((31 : Int64) * x1) + (Int32.toInt64 r_195))) + (Int32.toInt64 r_209))) + (Int32.toInt64 r_223)) (x3 + (1 : Int32)))) s_209 x3 (1 : Int32))) s_195 x3 (0 : Int32))) σ x3)))
def f5_digest_182 (K : Int64 → nw_ST → Prop) : Nat → nw_ST → Int64 → Int32 → Prop
  | 0 => fun _ _ _ => False
  | n + 1 => b5_digest_182 K (f5_digest_182 K n)
def b5_digest_93 (K : Int64 → nw_ST → Prop) (H_82 : nw_ST → Int64 → Int32 → Prop) (H_93 : nw_ST → Int64 → Int32 → Int32 → Prop) (σ : nw_ST) (x1 : Int64) (x3 : Int32) (x4 : Int32) : Prop := ((((3 : Int32) ≤ x4) → (H_82 σ x1 (x3 + (1 : Int32)))) ∧ (¬ ((3 : Int32) ≤ x4) → ((o5_findOf σ x3 x4) ∧ (H_93 σ (((31 : Int64) * x1) + (Int32.toInt64 (v5_findOf σ x3 x4))) x3 (x4 + (1 : Int32))))))
def f5_digest_93 (K : Int64 → nw_ST → Prop) (H_82 : nw_ST → Int64 → Int32 → Prop) : Nat → nw_ST → Int64 → Int32 → Int32 → Prop
  | 0 => fun _ _ _ _ => False
  | n + 1 => b5_digest_93 K H_82 (f5_digest_93 K H_82 n)
def b5_digest_82 (K : Int64 → nw_ST → Prop) (H_82 : nw_ST → Int64 → Int32 → Prop) (σ : nw_ST) (x1 : Int64) (x3 : Int32) : Prop := ((((nw_gS σ 37 6) ≤ x3) → (f5_timeDigest (fun (r_129 : Int64) (s_129 : nw_ST) => (f5_timeDigest (fun (r_136 : Int64) (s_136 : nw_ST) => (f5_timeDigest (fun (r_144 : Int64) (s_144 : nw_ST) => (f5_timeDigest (fun (r_153 : Int64) (s_153 : nw_ST) => (f5_numberDigest (fun (r_160 : Int64) (s_160 : nw_ST) => (f5_numberDigest (fun (r_168 : Int64) (s_168 : nw_ST) => (f5_numberDigest (fun (r_176 : Int64) (s_176 : nw_ST) => (∃ n, f5_digest_182 K n s_176 r_176 (0 : Int32))) s_168 r_168 (40 : Int32))) s_160 r_160 (7 : Int32))) s_153 r_153 (1 : Int32))) s_144 r_144 (239 : Int32))) s_136 r_136 (60 : Int32))) s_129 r_129 (1 : Int32))) σ x1 (0 : Int32))) ∧ (¬ ((nw_gS σ 37 6) ≤ x3) → (∃ n, f5_digest_93 K H_82 n σ x1 x3 (0 : Int32))))
def f5_digest_82 (K : Int64 → nw_ST → Prop) : Nat → nw_ST → Int64 → Int32 → Prop
  | 0 => fun _ _ _ => False
  | n + 1 => b5_digest_82 K (f5_digest_82 K n)
def b5_digest_59 (K : Int64 → nw_ST → Prop) (H_59 : nw_ST → Int64 → Int32 → Prop) (σ : nw_ST) (x1 : Int64) (x3 : Int32) : Prop := ((((nw_gS σ 37 2) ≤ x3) → (∃ n, f5_digest_82 K n σ x1 (0 : Int32))) ∧ (¬ ((nw_gS σ 37 2) ≤ x3) → (f5_swellDigest (fun (r_70 : Int64) (s_70 : nw_ST) => (H_59 s_70 r_70 (x3 + (1 : Int32)))) σ x1 x3)))
def f5_digest_59 (K : Int64 → nw_ST → Prop) : Nat → nw_ST → Int64 → Int32 → Prop
  | 0 => fun _ _ _ => False
  | n + 1 => b5_digest_59 K (f5_digest_59 K n)
def b5_digest_6 (K : Int64 → nw_ST → Prop) (H_6 : nw_ST → Int64 → Int32 → Prop) (σ : nw_ST) (x1 : Int64) (x3 : Int32) : Prop := ((((8 : Int32) ≤ x3) → (f5_faultOf (fun (r_38 : Int32) (s_38 : nw_ST) => (f5_faultOf (fun (r_51 : Int32) (s_51 : nw_ST) => (∃ n, f5_digest_59 K n s_51 (((31 : Int64) * (((31 : Int64) * x1) + (Int32.toInt64 r_38))) + (Int32.toInt64 r_51)) (0 : Int32))) s_38 (1 : Int32))) σ (0 : Int32))) ∧ (¬ ((8 : Int32) ≤ x3) → (f5_count (fun (r_19 : Int32) (s_19 : nw_ST) => (H_6 s_19 (((31 : Int64) * x1) + (Int32.toInt64 r_19)) (x3 + (1 : Int32)))) σ x3)))
def f5_digest_6 (K : Int64 → nw_ST → Prop) : Nat → nw_ST → Int64 → Int32 → Prop
  | 0 => fun _ _ _ => False
  | n + 1 => b5_digest_6 K (f5_digest_6 K n)
def f5_digest (K : Int64 → nw_ST → Prop) (σ : nw_ST)  : Prop := (∃ n, f5_digest_6 K n σ (17 : Int64) (0 : Int32))
def rm5_digest : Room := { frames := 10, cells := 0, slots := 0, locals := 231 }
theorem yd5_digest : yX5_digest.cls = RX5 ∧ yX5_digest.cls ≠ "java/lang/invoke/MethodHandle" ∧ yX5_digest.cls ≠ "java/lang/invoke/VarHandle" ∧ (parseMethodDescriptor yX5_digest.desc).map (fun d => d.parameters.length) = some 0 := by decide +kernel
set_option maxHeartbeats 4000000 in
set_option maxRecDepth 100000 in
theorem ct5_digest (l : Launch) (P : nw_PT) (hD : nw_D P) (σ : nw_ST)   (K : Int64 → nw_ST → Prop) (hf : f5_digest K σ ) : nw_MT l yX5_digest cX5_digest 5 (some .long) rm5_digest P [.ref (P.2.1 37)] σ (nw_Kl K) := by
  refine nw_enter (by decide) (by first | decide | exact Nat.le_of_ble_eq_true rfl) hD ?_
  intro X hl h he hR
  subst hl
  have h : nw_ok P X cX5_digest RX5 5 := h
  show nw_G P X 5 σ [(0, .ref (P.2.1 37))] 0 []
  have hB_237 : ∀ (H_237 : nw_ST → Int64 → Int32 → Prop) (hH_237 : (∀ (σ : nw_ST) (x1 : Int64) (x3 : Int32), H_237 σ x1 x3 → nw_G P X 5 σ [(0, .ref (P.2.1 37)), (1, .long x1), (3, .int x3)] 237 [])), ∀ (σ : nw_ST) (x1 : Int64) (x3 : Int32), b5_digest_237 K H_237 σ x1 x3 → nw_G P X 5 σ [(0, .ref (P.2.1 37)), (1, .long x1), (3, .int x3)] 237 [] := by
    intro H_237 hH_237 σ x1 x3 hf
    unfold b5_digest_237 at hf
    refine nw_iload_n (pc := 237) h dX5_digest_237 rfl 2 rfl ?_
    refine nw_aload_n (pc := 238) h dX5_digest_238 rfl 0 rfl ?_
    refine gf5_152 (pc := 239) h rfl dX5_digest_239 ?_
    refine nw_icmp_ge (pc := 242) (tgt := 264) h dX5_digest_242 (by decide) (fun c_242 => ?_) (fun c_242 => ?_)
    · have hf := hf.1 c_242
      refine nw_ldc2 (pc := 264) h nw_w579 dX5_digest_264 ?_
      refine nw_lload_n (pc := 267) h dX5_digest_267 rfl 1 rfl ?_
      refine nw_lmul (pc := 268) h dX5_digest_268 ?_
      refine nw_aload_n (pc := 269) h dX5_digest_269 rfl 0 rfl ?_
      refine nw_iconst (pc := 270) (v := 3) h dX5_digest_270 (by decide) ?_
      refine nw_iconst (pc := 271) (v := 0) h dX5_digest_271 (by decide) ?_
      refine klX5_241 (pc := 272) h (by rw [hR]; decide) hf (Nat.le_of_ble_eq_true rfl) dX5_digest_272 (fun r_272 s_272 hf => ?_)
      refine nw_i2l (pc := 275) h dX5_digest_275 ?_
      refine nw_ladd (pc := 276) h dX5_digest_276 ?_
      refine nw_lstore_n (pc := 277) (lv' := [(1, .long (((31 : Int64) * x1) + (Int32.toInt64 r_272))), (0, .ref (P.2.1 37)), (3, .int x3)]) h dX5_digest_277 rfl (by decide) rfl ?_
      refine nw_ldc2 (pc := 278) h nw_w579 dX5_digest_278 ?_
      refine nw_lload_n (pc := 281) h dX5_digest_281 rfl 0 rfl ?_
      refine nw_lmul (pc := 282) h dX5_digest_282 ?_
      refine nw_aload_n (pc := 283) h dX5_digest_283 rfl 1 rfl ?_
      refine nw_iconst (pc := 284) (v := 3) h dX5_digest_284 (by decide) ?_
      refine nw_iconst (pc := 285) (v := 1) h dX5_digest_285 (by decide) ?_
      refine klX5_241 (pc := 286) h (by rw [hR]; decide) hf (Nat.le_of_ble_eq_true rfl) dX5_digest_286 (fun r_286 s_286 hf => ?_)
      refine nw_i2l (pc := 289) h dX5_digest_289 ?_
      refine nw_ladd (pc := 290) h dX5_digest_290 ?_
      refine nw_lstore_n (pc := 291) (lv' := [(1, .long (((31 : Int64) * (((31 : Int64) * x1) + (Int32.toInt64 r_272))) + (Int32.toInt64 r_286))), (0, .ref (P.2.1 37)), (3, .int x3)]) h dX5_digest_291 rfl (by decide) rfl ?_
      refine nw_ldc2 (pc := 292) h nw_w579 dX5_digest_292 ?_
      refine nw_lload_n (pc := 295) h dX5_digest_295 rfl 0 rfl ?_
      refine nw_lmul (pc := 296) h dX5_digest_296 ?_
      refine nw_aload_n (pc := 297) h dX5_digest_297 rfl 1 rfl ?_
      refine nw_bipush (pc := 298) (v := 9) h dX5_digest_298 (by decide) ?_
      refine klX5_244 (pc := 300) h (by rw [hR]; decide) hf (Nat.le_of_ble_eq_true rfl) dX5_digest_300 (fun r_300 s_300 hf => ?_)
      refine nw_i2l (pc := 303) h dX5_digest_303 ?_
      refine nw_ladd (pc := 304) h dX5_digest_304 ?_
      refine nw_lstore_n (pc := 305) (lv' := [(1, .long (((31 : Int64) * (((31 : Int64) * (((31 : Int64) * x1) + (Int32.toInt64 r_272))) + (Int32.toInt64 r_286))) + (Int32.toInt64 r_300))), (0, .ref (P.2.1 37)), (3, .int x3)]) h dX5_digest_305 rfl (by decide) rfl ?_
      refine nw_ldc2 (pc := 306) h nw_w579 dX5_digest_306 ?_
      refine nw_lload_n (pc := 309) h dX5_digest_309 rfl 0 rfl ?_
      refine nw_lmul (pc := 310) h dX5_digest_310 ?_
      refine nw_aload_n (pc := 311) h dX5_digest_311 rfl 1 rfl ?_
      refine nw_iconst (pc := 312) (v := 1) h dX5_digest_312 (by decide) ?_
      refine klX5_257 (pc := 313) h (by rw [hR]; decide) hf (Nat.le_of_ble_eq_true rfl) dX5_digest_313 (fun r_313 s_313 hf => ?_)
      refine nw_i2l (pc := 316) h dX5_digest_316 ?_
      refine nw_ladd (pc := 317) h dX5_digest_317 ?_
      refine nw_lstore_n (pc := 318) (lv' := [(1, .long (((31 : Int64) * (((31 : Int64) * (((31 : Int64) * (((31 : Int64) * x1) + (Int32.toInt64 r_272))) + (Int32.toInt64 r_286))) + (Int32.toInt64 r_300))) + (Int32.toInt64 r_313))), (0, .ref (P.2.1 37)), (3, .int x3)]) h dX5_digest_318 rfl (by decide) rfl ?_
      refine nw_ldc2 (pc := 319) h nw_w579 dX5_digest_319 ?_
      refine nw_lload_n (pc := 322) h dX5_digest_322 rfl 0 rfl ?_
      refine nw_lmul (pc := 323) h dX5_digest_323 ?_
      refine nw_aload_n (pc := 324) h dX5_digest_324 rfl 1 rfl ?_
      refine nw_iconst (pc := 325) (v := -1) h dX5_digest_325 (by decide) ?_
      refine klX5_260 (pc := 326) h (by rw [hR]; decide) hf (Nat.le_of_ble_eq_true rfl) dX5_digest_326 (fun r_326 s_326 hf => ?_)
      refine nw_i2l (pc := 329) h dX5_digest_329 ?_
      refine nw_ladd (pc := 330) h dX5_digest_330 ?_
      refine nw_lstore_n (pc := 331) (lv' := [(1, .long (((31 : Int64) * (((31 : Int64) * (((31 : Int64) * (((31 : Int64) * (((31 : Int64) * x1) + (Int32.toInt64 r_272))) + (Int32.toInt64 r_286))) + (Int32.toInt64 r_300))) + (Int32.toInt64 r_313))) + (Int32.toInt64 r_326))), (0, .ref (P.2.1 37)), (3, .int x3)]) h dX5_digest_331 rfl (by decide) rfl ?_
      refine nw_ldc2 (pc := 332) h nw_w579 dX5_digest_332 ?_
      refine nw_lload_n (pc := 335) h dX5_digest_335 rfl 0 rfl ?_
      refine nw_lmul (pc := 336) h dX5_digest_336 ?_
      refine nw_aload_n (pc := 337) h dX5_digest_337 rfl 1 rfl ?_
      refine nw_iconst (pc := 338) (v := 0) h dX5_digest_338 (by decide) ?_
      refine klX5_260 (pc := 339) h (by rw [hR]; decide) hf (Nat.le_of_ble_eq_true rfl) dX5_digest_339 (fun r_339 s_339 hf => ?_)
      refine nw_i2l (pc := 342) h dX5_digest_342 ?_
      refine nw_ladd (pc := 343) h dX5_digest_343 ?_
      refine nw_lstore_n (pc := 344) (lv' := [(1, .long (((31 : Int64) * (((31 : Int64) * (((31 : Int64) * (((31 : Int64) * (((31 : Int64) * (((31 : Int64) * x1) + (Int32.toInt64 r_272))) + (Int32.toInt64 r_286))) + (Int32.toInt64 r_300))) + (Int32.toInt64 r_313))) + (Int32.toInt64 r_326))) + (Int32.toInt64 r_339))), (0, .ref (P.2.1 37)), (3, .int x3)]) h dX5_digest_344 rfl (by decide) rfl ?_
      refine nw_ldc2 (pc := 345) h nw_w579 dX5_digest_345 ?_
      refine nw_lload_n (pc := 348) h dX5_digest_348 rfl 0 rfl ?_
      refine nw_lmul (pc := 349) h dX5_digest_349 ?_
      refine nw_aload_n (pc := 350) h dX5_digest_350 rfl 1 rfl ?_
      refine nw_iconst (pc := 351) (v := 5) h dX5_digest_351 (by decide) ?_
      refine nw_iconst (pc := 352) (v := 4) h dX5_digest_352 (by decide) ?_
      refine nw_iconst (pc := 353) (v := 0) h dX5_digest_353 (by decide) ?_
      refine klX5_274 (pc := 354) h (by rw [hR]; decide) hf (Nat.le_of_ble_eq_true rfl) dX5_digest_354 (fun r_354 s_354 hf => ?_)
      refine nw_ladd (pc := 357) h dX5_digest_357 ?_
      refine nw_lstore_n (pc := 358) (lv' := [(1, .long (((31 : Int64) * (((31 : Int64) * (((31 : Int64) * (((31 : Int64) * (((31 : Int64) * (((31 : Int64) * (((31 : Int64) * x1) + (Int32.toInt64 r_272))) + (Int32.toInt64 r_286))) + (Int32.toInt64 r_300))) + (Int32.toInt64 r_313))) + (Int32.toInt64 r_326))) + (Int32.toInt64 r_339))) + r_354)), (0, .ref (P.2.1 37)), (3, .int x3)]) h dX5_digest_358 rfl (by decide) rfl ?_
      refine nw_ldc2 (pc := 359) h nw_w579 dX5_digest_359 ?_
      refine nw_lload_n (pc := 362) h dX5_digest_362 rfl 0 rfl ?_
      refine nw_lmul (pc := 363) h dX5_digest_363 ?_
      refine nw_aload_n (pc := 364) h dX5_digest_364 rfl 1 rfl ?_
      refine nw_iconst (pc := 365) (v := 5) h dX5_digest_365 (by decide) ?_
      refine nw_iconst (pc := 366) (v := 4) h dX5_digest_366 (by decide) ?_
      refine nw_iconst (pc := 367) (v := 1) h dX5_digest_367 (by decide) ?_
      refine klX5_274 (pc := 368) h (by rw [hR]; decide) hf (Nat.le_of_ble_eq_true rfl) dX5_digest_368 (fun r_368 s_368 hf => ?_)
      refine nw_ladd (pc := 371) h dX5_digest_371 ?_
      refine nw_lstore_n (pc := 372) (lv' := [(1, .long (((31 : Int64) * (((31 : Int64) * (((31 : Int64) * (((31 : Int64) * (((31 : Int64) * (((31 : Int64) * (((31 : Int64) * (((31 : Int64) * x1) + (Int32.toInt64 r_272))) + (Int32.toInt64 r_286))) + (Int32.toInt64 r_300))) + (Int32.toInt64 r_313))) + (Int32.toInt64 r_326))) + (Int32.toInt64 r_339))) + r_354)) + r_368)), (0, .ref (P.2.1 37)), (3, .int x3)]) h dX5_digest_372 rfl (by decide) rfl ?_
      refine nw_ldc2 (pc := 373) h nw_w579 dX5_digest_373 ?_
      refine nw_lload_n (pc := 376) h dX5_digest_376 rfl 0 rfl ?_
      refine nw_lmul (pc := 377) h dX5_digest_377 ?_
      refine nw_aload_n (pc := 378) h dX5_digest_378 rfl 1 rfl ?_
      refine nw_bipush (pc := 379) (v := 7) h dX5_digest_379 (by decide) ?_
      refine nw_bipush (pc := 381) (v := 30) h dX5_digest_381 (by decide) ?_
      refine nw_iconst (pc := 383) (v := 0) h dX5_digest_383 (by decide) ?_
      refine klX5_283 (pc := 384) h (by rw [hR]; decide) hf (Nat.le_of_ble_eq_true rfl) dX5_digest_384 (fun r_384 s_384 hf => ?_)
      refine nw_i2l (pc := 387) h dX5_digest_387 ?_
      refine nw_ladd (pc := 388) h dX5_digest_388 ?_
      refine nw_lstore_n (pc := 389) (lv' := [(1, .long (((31 : Int64) * (((31 : Int64) * (((31 : Int64) * (((31 : Int64) * (((31 : Int64) * (((31 : Int64) * (((31 : Int64) * (((31 : Int64) * (((31 : Int64) * x1) + (Int32.toInt64 r_272))) + (Int32.toInt64 r_286))) + (Int32.toInt64 r_300))) + (Int32.toInt64 r_313))) + (Int32.toInt64 r_326))) + (Int32.toInt64 r_339))) + r_354)) + r_368)) + (Int32.toInt64 r_384))), (0, .ref (P.2.1 37)), (3, .int x3)]) h dX5_digest_389 rfl (by decide) rfl ?_
      refine nw_ldc2 (pc := 390) h nw_w579 dX5_digest_390 ?_
      refine nw_lload_n (pc := 393) h dX5_digest_393 rfl 0 rfl ?_
      refine nw_lmul (pc := 394) h dX5_digest_394 ?_
      refine nw_aload_n (pc := 395) h dX5_digest_395 rfl 1 rfl ?_
      refine nw_bipush (pc := 396) (v := 7) h dX5_digest_396 (by decide) ?_
      refine nw_bipush (pc := 398) (v := 30) h dX5_digest_398 (by decide) ?_
      refine nw_iconst (pc := 400) (v := 1) h dX5_digest_400 (by decide) ?_
      refine klX5_283 (pc := 401) h (by rw [hR]; decide) hf (Nat.le_of_ble_eq_true rfl) dX5_digest_401 (fun r_401 s_401 hf => ?_)
      refine nw_i2l (pc := 404) h dX5_digest_404 ?_
      refine nw_ladd (pc := 405) h dX5_digest_405 ?_
      exact nw_lret (pc := 406) h he dX5_digest_406 ⟨_, rfl, hf⟩
    · have hf := hf.2 c_242
      refine nw_ldc2 (pc := 245) h nw_w579 dX5_digest_245 ?_
      refine nw_lload_n (pc := 248) h dX5_digest_248 rfl 1 rfl ?_
      refine nw_lmul (pc := 249) h dX5_digest_249 ?_
      refine nw_aload_n (pc := 250) h dX5_digest_250 rfl 0 rfl ?_
      refine nw_iload_n (pc := 251) h dX5_digest_251 rfl 2 rfl ?_
      refine klX5_231 (pc := 252) h (by rw [hR]; decide) hf (Nat.le_of_ble_eq_true rfl) dX5_digest_252 (fun r_252 s_252 hf => ?_)
      refine nw_i2l (pc := 255) h dX5_digest_255 ?_
      refine nw_ladd (pc := 256) h dX5_digest_256 ?_
      refine nw_lstore_n (pc := 257) (lv' := [(1, .long (((31 : Int64) * x1) + (Int32.toInt64 r_252))), (0, .ref (P.2.1 37)), (3, .int x3)]) h dX5_digest_257 rfl (by decide) rfl ?_
      refine nw_iinc (pc := 258) (v := (x3 + (1 : Int32))) (lv' := [(3, .int (x3 + (1 : Int32))), (1, .long (((31 : Int64) * x1) + (Int32.toInt64 r_252))), (0, .ref (P.2.1 37))]) h dX5_digest_258 (j := 2) rfl rfl (by decide) rfl ?_
      refine nw_goto (pc := 261) (tgt := 237) h dX5_digest_261 (by decide) ?_
      refine nw_sub (lv' := [(0, .ref (P.2.1 37)), (1, .long (((31 : Int64) * x1) + (Int32.toInt64 r_252))), (3, .int (x3 + (1 : Int32)))]) [2, 1, 0] rfl ?_
      exact hH_237 _ _ _ (hf)
  have hL_237 :  ∀ (n : Nat) (σ : nw_ST) (x1 : Int64) (x3 : Int32), f5_digest_237 K n σ x1 x3 → nw_G P X 5 σ [(0, .ref (P.2.1 37)), (1, .long x1), (3, .int x3)] 237 [] := by
    intro n
    induction n with
    | zero => intro σ x1 x3 hf; exact False.elim hf
    | succ n ih => exact hB_237 _ ih
  have hB_182 : ∀ (H_182 : nw_ST → Int64 → Int32 → Prop) (hH_182 : (∀ (σ : nw_ST) (x1 : Int64) (x3 : Int32), H_182 σ x1 x3 → nw_G P X 5 σ [(0, .ref (P.2.1 37)), (1, .long x1), (3, .int x3)] 182 [])), ∀ (σ : nw_ST) (x1 : Int64) (x3 : Int32), b5_digest_182 K H_182 σ x1 x3 → nw_G P X 5 σ [(0, .ref (P.2.1 37)), (1, .long x1), (3, .int x3)] 182 [] := by
    intro H_182 hH_182 σ x1 x3 hf
    unfold b5_digest_182 at hf
    refine nw_iload_n (pc := 182) h dX5_digest_182 rfl 2 rfl ?_
    refine nw_bipush (pc := 183) (v := 8) h dX5_digest_183 (by decide) ?_
    refine nw_icmp_ge (pc := 185) (tgt := 235) h dX5_digest_185 (by decide) (fun c_185 => ?_) (fun c_185 => ?_)
    · have hf := hf.1 c_185
      refine nw_iconst (pc := 235) (v := 0) h dX5_digest_235 (by decide) ?_
      refine nw_istore_n (pc := 236) (lv' := [(3, .int (0 : Int32)), (0, .ref (P.2.1 37)), (1, .long x1)]) h dX5_digest_236 rfl (by decide) rfl ?_
      obtain ⟨n_237, hf⟩ := hf
      refine nw_sub (lv' := [(0, .ref (P.2.1 37)), (1, .long x1), (3, .int (0 : Int32))]) [1, 2, 0] rfl ?_
      exact hL_237 n_237 _ _ _ hf
    · have hf := hf.2 c_185
      refine nw_ldc2 (pc := 188) h nw_w579 dX5_digest_188 ?_
      refine nw_lload_n (pc := 191) h dX5_digest_191 rfl 1 rfl ?_
      refine nw_lmul (pc := 192) h dX5_digest_192 ?_
      refine nw_aload_n (pc := 193) h dX5_digest_193 rfl 0 rfl ?_
      refine nw_iload_n (pc := 194) h dX5_digest_194 rfl 2 rfl ?_
      refine klX5_228 (pc := 195) h (by rw [hR]; decide) hf (Nat.le_of_ble_eq_true rfl) dX5_digest_195 (fun r_195 s_195 hf => ?_)
      refine nw_i2l (pc := 198) h dX5_digest_198 ?_
      refine nw_ladd (pc := 199) h dX5_digest_199 ?_
      refine nw_lstore_n (pc := 200) (lv' := [(1, .long (((31 : Int64) * x1) + (Int32.toInt64 r_195))), (0, .ref (P.2.1 37)), (3, .int x3)]) h dX5_digest_200 rfl (by decide) rfl ?_
      refine nw_ldc2 (pc := 201) h nw_w579 dX5_digest_201 ?_
      refine nw_lload_n (pc := 204) h dX5_digest_204 rfl 0 rfl ?_
      refine nw_lmul (pc := 205) h dX5_digest_205 ?_
      refine nw_aload_n (pc := 206) h dX5_digest_206 rfl 1 rfl ?_
      refine nw_iload_n (pc := 207) h dX5_digest_207 rfl 2 rfl ?_
      refine nw_iconst (pc := 208) (v := 0) h dX5_digest_208 (by decide) ?_
      refine klX5_247 (pc := 209) h (by rw [hR]; decide) hf (Nat.le_of_ble_eq_true rfl) dX5_digest_209 (fun r_209 s_209 hf => ?_)
      refine nw_i2l (pc := 212) h dX5_digest_212 ?_
      refine nw_ladd (pc := 213) h dX5_digest_213 ?_
      refine nw_lstore_n (pc := 214) (lv' := [(1, .long (((31 : Int64) * (((31 : Int64) * x1) + (Int32.toInt64 r_195))) + (Int32.toInt64 r_209))), (0, .ref (P.2.1 37)), (3, .int x3)]) h dX5_digest_214 rfl (by decide) rfl ?_
      refine nw_ldc2 (pc := 215) h nw_w579 dX5_digest_215 ?_
      refine nw_lload_n (pc := 218) h dX5_digest_218 rfl 0 rfl ?_
      refine nw_lmul (pc := 219) h dX5_digest_219 ?_
      refine nw_aload_n (pc := 220) h dX5_digest_220 rfl 1 rfl ?_
      refine nw_iload_n (pc := 221) h dX5_digest_221 rfl 2 rfl ?_
      refine nw_iconst (pc := 222) (v := 1) h dX5_digest_222 (by decide) ?_
      refine klX5_247 (pc := 223) h (by rw [hR]; decide) hf (Nat.le_of_ble_eq_true rfl) dX5_digest_223 (fun r_223 s_223 hf => ?_)
      refine nw_i2l (pc := 226) h dX5_digest_226 ?_
      refine nw_ladd (pc := 227) h dX5_digest_227 ?_
      refine nw_lstore_n (pc := 228) (lv' := [(1, .long (((31 : Int64) * (((31 : Int64) * (((31 : Int64) * x1) + (Int32.toInt64 r_195))) + (Int32.toInt64 r_209))) + (Int32.toInt64 r_223))), (0, .ref (P.2.1 37)), (3, .int x3)]) h dX5_digest_228 rfl (by decide) rfl ?_
      refine nw_iinc (pc := 229) (v := (x3 + (1 : Int32))) (lv' := [(3, .int (x3 + (1 : Int32))), (1, .long (((31 : Int64) * (((31 : Int64) * (((31 : Int64) * x1) + (Int32.toInt64 r_195))) + (Int32.toInt64 r_209))) + (Int32.toInt64 r_223))), (0, .ref (P.2.1 37))]) h dX5_digest_229 (j := 2) rfl rfl (by decide) rfl ?_
      refine nw_goto (pc := 232) (tgt := 182) h dX5_digest_232 (by decide) ?_
      refine nw_sub (lv' := [(0, .ref (P.2.1 37)), (1, .long (((31 : Int64) * (((31 : Int64) * (((31 : Int64) * x1) + (Int32.toInt64 r_195))) + (Int32.toInt64 r_209))) + (Int32.toInt64 r_223))), (3, .int (x3 + (1 : Int32)))]) [2, 1, 0] rfl ?_
      exact hH_182 _ _ _ (hf)
  have hL_182 :  ∀ (n : Nat) (σ : nw_ST) (x1 : Int64) (x3 : Int32), f5_digest_182 K n σ x1 x3 → nw_G P X 5 σ [(0, .ref (P.2.1 37)), (1, .long x1), (3, .int x3)] 182 [] := by
    intro n
    induction n with
    | zero => intro σ x1 x3 hf; exact False.elim hf
    | succ n ih => exact hB_182 _ ih
  have hB_93 : ∀ (H_82 : nw_ST → Int64 → Int32 → Prop) (hH_82 : (∀ (σ : nw_ST) (x1 : Int64) (x3 : Int32), H_82 σ x1 x3 → nw_G P X 5 σ [(0, .ref (P.2.1 37)), (1, .long x1), (3, .int x3)] 82 [])) (H_93 : nw_ST → Int64 → Int32 → Int32 → Prop) (hH_93 : (∀ (σ : nw_ST) (x1 : Int64) (x3 : Int32) (x4 : Int32), H_93 σ x1 x3 x4 → nw_G P X 5 σ [(0, .ref (P.2.1 37)), (1, .long x1), (3, .int x3), (4, .int x4)] 93 [])), ∀ (σ : nw_ST) (x1 : Int64) (x3 : Int32) (x4 : Int32), b5_digest_93 K H_82 H_93 σ x1 x3 x4 → nw_G P X 5 σ [(0, .ref (P.2.1 37)), (1, .long x1), (3, .int x3), (4, .int x4)] 93 [] := by
    intro H_82 hH_82 H_93 hH_93 σ x1 x3 x4 hf
    unfold b5_digest_93 at hf
    refine nw_iload (pc := 93) h dX5_digest_93 3 rfl ?_
    refine nw_iconst (pc := 95) (v := 3) h dX5_digest_95 (by decide) ?_
    refine nw_icmp_ge (pc := 96) (tgt := 120) h dX5_digest_96 (by decide) (fun c_96 => ?_) (fun c_96 => ?_)
    · have hf := hf.1 c_96
      refine nw_iinc (pc := 120) (v := (x3 + (1 : Int32))) (lv' := [(3, .int (x3 + (1 : Int32))), (0, .ref (P.2.1 37)), (1, .long x1), (4, .int x4)]) h dX5_digest_120 (j := 2) rfl rfl (by decide) rfl ?_
      refine nw_goto (pc := 123) (tgt := 82) h dX5_digest_123 (by decide) ?_
      refine nw_sub (lv' := [(0, .ref (P.2.1 37)), (1, .long x1), (3, .int (x3 + (1 : Int32)))]) [1, 2, 0] rfl ?_
      exact hH_82 _ _ _ (hf)
    · have hf := hf.2 c_96
      refine nw_ldc2 (pc := 99) h nw_w579 dX5_digest_99 ?_
      refine nw_lload_n (pc := 102) h dX5_digest_102 rfl 1 rfl ?_
      refine nw_lmul (pc := 103) h dX5_digest_103 ?_
      refine nw_aload_n (pc := 104) h dX5_digest_104 rfl 0 rfl ?_
      refine nw_iload_n (pc := 105) h dX5_digest_105 rfl 2 rfl ?_
      refine nw_iload (pc := 106) h dX5_digest_106 3 rfl ?_
      obtain ⟨h_108, hf⟩ := hf
      refine klX5_134 (pc := 108) h (by rw [hR]; decide) h_108 (Nat.le_of_ble_eq_true rfl) dX5_digest_108 ?_
      refine nw_i2l (pc := 111) h dX5_digest_111 ?_
      refine nw_ladd (pc := 112) h dX5_digest_112 ?_
      refine nw_lstore_n (pc := 113) (lv' := [(1, .long (((31 : Int64) * x1) + (Int32.toInt64 (v5_findOf σ x3 x4)))), (0, .ref (P.2.1 37)), (3, .int x3), (4, .int x4)]) h dX5_digest_113 rfl (by decide) rfl ?_
      refine nw_iinc (pc := 114) (v := (x4 + (1 : Int32))) (lv' := [(4, .int (x4 + (1 : Int32))), (1, .long (((31 : Int64) * x1) + (Int32.toInt64 (v5_findOf σ x3 x4)))), (0, .ref (P.2.1 37)), (3, .int x3)]) h dX5_digest_114 (j := 3) rfl rfl (by decide) rfl ?_
      refine nw_goto (pc := 117) (tgt := 93) h dX5_digest_117 (by decide) ?_
      refine nw_sub (lv' := [(0, .ref (P.2.1 37)), (1, .long (((31 : Int64) * x1) + (Int32.toInt64 (v5_findOf σ x3 x4)))), (3, .int x3), (4, .int (x4 + (1 : Int32)))]) [2, 1, 3, 0] rfl ?_
      exact hH_93 _ _ _ _ (hf)
  have hL_93 : ∀ (H_82 : nw_ST → Int64 → Int32 → Prop) (hH_82 : (∀ (σ : nw_ST) (x1 : Int64) (x3 : Int32), H_82 σ x1 x3 → nw_G P X 5 σ [(0, .ref (P.2.1 37)), (1, .long x1), (3, .int x3)] 82 [])), ∀ (n : Nat) (σ : nw_ST) (x1 : Int64) (x3 : Int32) (x4 : Int32), f5_digest_93 K H_82 n σ x1 x3 x4 → nw_G P X 5 σ [(0, .ref (P.2.1 37)), (1, .long x1), (3, .int x3), (4, .int x4)] 93 [] := by
    intro H_82 hH_82 n
    induction n with
    | zero => intro σ x1 x3 x4 hf; exact False.elim hf
    | succ n ih => exact hB_93 H_82 hH_82 _ ih
  have hB_82 : ∀ (H_82 : nw_ST → Int64 → Int32 → Prop) (hH_82 : (∀ (σ : nw_ST) (x1 : Int64) (x3 : Int32), H_82 σ x1 x3 → nw_G P X 5 σ [(0, .ref (P.2.1 37)), (1, .long x1), (3, .int x3)] 82 [])), ∀ (σ : nw_ST) (x1 : Int64) (x3 : Int32), b5_digest_82 K H_82 σ x1 x3 → nw_G P X 5 σ [(0, .ref (P.2.1 37)), (1, .long x1), (3, .int x3)] 82 [] := by
    intro H_82 hH_82 σ x1 x3 hf
    unfold b5_digest_82 at hf
    refine nw_iload_n (pc := 82) h dX5_digest_82 rfl 2 rfl ?_
    refine nw_aload_n (pc := 83) h dX5_digest_83 rfl 0 rfl ?_
    refine gf5_108 (pc := 84) h rfl dX5_digest_84 ?_
    refine nw_icmp_ge (pc := 87) (tgt := 126) h dX5_digest_87 (by decide) (fun c_87 => ?_) (fun c_87 => ?_)
    · have hf := hf.1 c_87
      refine nw_aload_n (pc := 126) h dX5_digest_126 rfl 0 rfl ?_
      refine nw_lload_n (pc := 127) h dX5_digest_127 rfl 1 rfl ?_
      refine nw_iconst (pc := 128) (v := 0) h dX5_digest_128 (by decide) ?_
      refine klX5_314 (pc := 129) h (by rw [hR]; decide) hf (Nat.le_of_ble_eq_true rfl) dX5_digest_129 (fun r_129 s_129 hf => ?_)
      refine nw_lstore_n (pc := 132) (lv' := [(1, .long r_129), (0, .ref (P.2.1 37)), (3, .int x3)]) h dX5_digest_132 rfl (by decide) rfl ?_
      refine nw_aload_n (pc := 133) h dX5_digest_133 rfl 1 rfl ?_
      refine nw_lload_n (pc := 134) h dX5_digest_134 rfl 0 rfl ?_
      refine nw_iconst (pc := 135) (v := 1) h dX5_digest_135 (by decide) ?_
      refine klX5_314 (pc := 136) h (by rw [hR]; decide) hf (Nat.le_of_ble_eq_true rfl) dX5_digest_136 (fun r_136 s_136 hf => ?_)
      refine nw_lstore_n (pc := 139) (lv' := [(1, .long r_136), (0, .ref (P.2.1 37)), (3, .int x3)]) h dX5_digest_139 rfl (by decide) rfl ?_
      refine nw_aload_n (pc := 140) h dX5_digest_140 rfl 1 rfl ?_
      refine nw_lload_n (pc := 141) h dX5_digest_141 rfl 0 rfl ?_
      refine nw_bipush (pc := 142) (v := 60) h dX5_digest_142 (by decide) ?_
      refine klX5_314 (pc := 144) h (by rw [hR]; decide) hf (Nat.le_of_ble_eq_true rfl) dX5_digest_144 (fun r_144 s_144 hf => ?_)
      refine nw_lstore_n (pc := 147) (lv' := [(1, .long r_144), (0, .ref (P.2.1 37)), (3, .int x3)]) h dX5_digest_147 rfl (by decide) rfl ?_
      refine nw_aload_n (pc := 148) h dX5_digest_148 rfl 1 rfl ?_
      refine nw_lload_n (pc := 149) h dX5_digest_149 rfl 0 rfl ?_
      refine nw_sipush (pc := 150) (v := 239) h dX5_digest_150 (by decide) ?_
      refine klX5_314 (pc := 153) h (by rw [hR]; decide) hf (Nat.le_of_ble_eq_true rfl) dX5_digest_153 (fun r_153 s_153 hf => ?_)
      refine nw_lstore_n (pc := 156) (lv' := [(1, .long r_153), (0, .ref (P.2.1 37)), (3, .int x3)]) h dX5_digest_156 rfl (by decide) rfl ?_
      refine nw_aload_n (pc := 157) h dX5_digest_157 rfl 1 rfl ?_
      refine nw_lload_n (pc := 158) h dX5_digest_158 rfl 0 rfl ?_
      refine nw_iconst (pc := 159) (v := 1) h dX5_digest_159 (by decide) ?_
      refine klX5_317 (pc := 160) h (by rw [hR]; decide) hf (Nat.le_of_ble_eq_true rfl) dX5_digest_160 (fun r_160 s_160 hf => ?_)
      refine nw_lstore_n (pc := 163) (lv' := [(1, .long r_160), (0, .ref (P.2.1 37)), (3, .int x3)]) h dX5_digest_163 rfl (by decide) rfl ?_
      refine nw_aload_n (pc := 164) h dX5_digest_164 rfl 1 rfl ?_
      refine nw_lload_n (pc := 165) h dX5_digest_165 rfl 0 rfl ?_
      refine nw_bipush (pc := 166) (v := 7) h dX5_digest_166 (by decide) ?_
      refine klX5_317 (pc := 168) h (by rw [hR]; decide) hf (Nat.le_of_ble_eq_true rfl) dX5_digest_168 (fun r_168 s_168 hf => ?_)
      refine nw_lstore_n (pc := 171) (lv' := [(1, .long r_168), (0, .ref (P.2.1 37)), (3, .int x3)]) h dX5_digest_171 rfl (by decide) rfl ?_
      refine nw_aload_n (pc := 172) h dX5_digest_172 rfl 1 rfl ?_
      refine nw_lload_n (pc := 173) h dX5_digest_173 rfl 0 rfl ?_
      refine nw_bipush (pc := 174) (v := 40) h dX5_digest_174 (by decide) ?_
      refine klX5_317 (pc := 176) h (by rw [hR]; decide) hf (Nat.le_of_ble_eq_true rfl) dX5_digest_176 (fun r_176 s_176 hf => ?_)
      refine nw_lstore_n (pc := 179) (lv' := [(1, .long r_176), (0, .ref (P.2.1 37)), (3, .int x3)]) h dX5_digest_179 rfl (by decide) rfl ?_
      refine nw_iconst (pc := 180) (v := 0) h dX5_digest_180 (by decide) ?_
      refine nw_istore_n (pc := 181) (lv' := [(3, .int (0 : Int32)), (1, .long r_176), (0, .ref (P.2.1 37))]) h dX5_digest_181 rfl (by decide) rfl ?_
      obtain ⟨n_182, hf⟩ := hf
      refine nw_sub (lv' := [(0, .ref (P.2.1 37)), (1, .long r_176), (3, .int (0 : Int32))]) [2, 1, 0] rfl ?_
      exact hL_182 n_182 _ _ _ hf
    · have hf := hf.2 c_87
      refine nw_iconst (pc := 90) (v := 0) h dX5_digest_90 (by decide) ?_
      refine nw_istore (pc := 91) (lv' := [(4, .int (0 : Int32)), (0, .ref (P.2.1 37)), (1, .long x1), (3, .int x3)]) h dX5_digest_91 (by decide) rfl ?_
      obtain ⟨n_93, hf⟩ := hf
      refine nw_sub (lv' := [(0, .ref (P.2.1 37)), (1, .long x1), (3, .int x3), (4, .int (0 : Int32))]) [1, 2, 3, 0] rfl ?_
      exact hL_93 H_82 hH_82 n_93 _ _ _ _ hf
  have hL_82 :  ∀ (n : Nat) (σ : nw_ST) (x1 : Int64) (x3 : Int32), f5_digest_82 K n σ x1 x3 → nw_G P X 5 σ [(0, .ref (P.2.1 37)), (1, .long x1), (3, .int x3)] 82 [] := by
    intro n
    induction n with
    | zero => intro σ x1 x3 hf; exact False.elim hf
    | succ n ih => exact hB_82 _ ih
  have hB_59 : ∀ (H_59 : nw_ST → Int64 → Int32 → Prop) (hH_59 : (∀ (σ : nw_ST) (x1 : Int64) (x3 : Int32), H_59 σ x1 x3 → nw_G P X 5 σ [(0, .ref (P.2.1 37)), (1, .long x1), (3, .int x3)] 59 [])), ∀ (σ : nw_ST) (x1 : Int64) (x3 : Int32), b5_digest_59 K H_59 σ x1 x3 → nw_G P X 5 σ [(0, .ref (P.2.1 37)), (1, .long x1), (3, .int x3)] 59 [] := by
    intro H_59 hH_59 σ x1 x3 hf
    unfold b5_digest_59 at hf
    refine nw_iload_n (pc := 59) h dX5_digest_59 rfl 2 rfl ?_
    refine nw_aload_n (pc := 60) h dX5_digest_60 rfl 0 rfl ?_
    refine gf5_104 (pc := 61) h rfl dX5_digest_61 ?_
    refine nw_icmp_ge (pc := 64) (tgt := 80) h dX5_digest_64 (by decide) (fun c_64 => ?_) (fun c_64 => ?_)
    · have hf := hf.1 c_64
      refine nw_iconst (pc := 80) (v := 0) h dX5_digest_80 (by decide) ?_
      refine nw_istore_n (pc := 81) (lv' := [(3, .int (0 : Int32)), (0, .ref (P.2.1 37)), (1, .long x1)]) h dX5_digest_81 rfl (by decide) rfl ?_
      obtain ⟨n_82, hf⟩ := hf
      refine nw_sub (lv' := [(0, .ref (P.2.1 37)), (1, .long x1), (3, .int (0 : Int32))]) [1, 2, 0] rfl ?_
      exact hL_82 n_82 _ _ _ hf
    · have hf := hf.2 c_64
      refine nw_aload_n (pc := 67) h dX5_digest_67 rfl 0 rfl ?_
      refine nw_lload_n (pc := 68) h dX5_digest_68 rfl 1 rfl ?_
      refine nw_iload_n (pc := 69) h dX5_digest_69 rfl 2 rfl ?_
      refine klX5_310 (pc := 70) h (by rw [hR]; decide) hf (Nat.le_of_ble_eq_true rfl) dX5_digest_70 (fun r_70 s_70 hf => ?_)
      refine nw_lstore_n (pc := 73) (lv' := [(1, .long r_70), (0, .ref (P.2.1 37)), (3, .int x3)]) h dX5_digest_73 rfl (by decide) rfl ?_
      refine nw_iinc (pc := 74) (v := (x3 + (1 : Int32))) (lv' := [(3, .int (x3 + (1 : Int32))), (1, .long r_70), (0, .ref (P.2.1 37))]) h dX5_digest_74 (j := 2) rfl rfl (by decide) rfl ?_
      refine nw_goto (pc := 77) (tgt := 59) h dX5_digest_77 (by decide) ?_
      refine nw_sub (lv' := [(0, .ref (P.2.1 37)), (1, .long r_70), (3, .int (x3 + (1 : Int32)))]) [2, 1, 0] rfl ?_
      exact hH_59 _ _ _ (hf)
  have hL_59 :  ∀ (n : Nat) (σ : nw_ST) (x1 : Int64) (x3 : Int32), f5_digest_59 K n σ x1 x3 → nw_G P X 5 σ [(0, .ref (P.2.1 37)), (1, .long x1), (3, .int x3)] 59 [] := by
    intro n
    induction n with
    | zero => intro σ x1 x3 hf; exact False.elim hf
    | succ n ih => exact hB_59 _ ih
  have hB_6 : ∀ (H_6 : nw_ST → Int64 → Int32 → Prop) (hH_6 : (∀ (σ : nw_ST) (x1 : Int64) (x3 : Int32), H_6 σ x1 x3 → nw_G P X 5 σ [(0, .ref (P.2.1 37)), (1, .long x1), (3, .int x3)] 6 [])), ∀ (σ : nw_ST) (x1 : Int64) (x3 : Int32), b5_digest_6 K H_6 σ x1 x3 → nw_G P X 5 σ [(0, .ref (P.2.1 37)), (1, .long x1), (3, .int x3)] 6 [] := by
    intro H_6 hH_6 σ x1 x3 hf
    unfold b5_digest_6 at hf
    refine nw_iload_n (pc := 6) h dX5_digest_6 rfl 2 rfl ?_
    refine nw_bipush (pc := 7) (v := 8) h dX5_digest_7 (by decide) ?_
    refine nw_icmp_ge (pc := 9) (tgt := 31) h dX5_digest_9 (by decide) (fun c_9 => ?_) (fun c_9 => ?_)
    · have hf := hf.1 c_9
      refine nw_ldc2 (pc := 31) h nw_w579 dX5_digest_31 ?_
      refine nw_lload_n (pc := 34) h dX5_digest_34 rfl 1 rfl ?_
      refine nw_lmul (pc := 35) h dX5_digest_35 ?_
      refine nw_aload_n (pc := 36) h dX5_digest_36 rfl 0 rfl ?_
      refine nw_iconst (pc := 37) (v := 0) h dX5_digest_37 (by decide) ?_
      refine klX5_119 (pc := 38) h (by rw [hR]; decide) hf (Nat.le_of_ble_eq_true rfl) dX5_digest_38 (fun r_38 s_38 hf => ?_)
      refine nw_i2l (pc := 41) h dX5_digest_41 ?_
      refine nw_ladd (pc := 42) h dX5_digest_42 ?_
      refine nw_lstore_n (pc := 43) (lv' := [(1, .long (((31 : Int64) * x1) + (Int32.toInt64 r_38))), (0, .ref (P.2.1 37)), (3, .int x3)]) h dX5_digest_43 rfl (by decide) rfl ?_
      refine nw_ldc2 (pc := 44) h nw_w579 dX5_digest_44 ?_
      refine nw_lload_n (pc := 47) h dX5_digest_47 rfl 0 rfl ?_
      refine nw_lmul (pc := 48) h dX5_digest_48 ?_
      refine nw_aload_n (pc := 49) h dX5_digest_49 rfl 1 rfl ?_
      refine nw_iconst (pc := 50) (v := 1) h dX5_digest_50 (by decide) ?_
      refine klX5_119 (pc := 51) h (by rw [hR]; decide) hf (Nat.le_of_ble_eq_true rfl) dX5_digest_51 (fun r_51 s_51 hf => ?_)
      refine nw_i2l (pc := 54) h dX5_digest_54 ?_
      refine nw_ladd (pc := 55) h dX5_digest_55 ?_
      refine nw_lstore_n (pc := 56) (lv' := [(1, .long (((31 : Int64) * (((31 : Int64) * x1) + (Int32.toInt64 r_38))) + (Int32.toInt64 r_51))), (0, .ref (P.2.1 37)), (3, .int x3)]) h dX5_digest_56 rfl (by decide) rfl ?_
      refine nw_iconst (pc := 57) (v := 0) h dX5_digest_57 (by decide) ?_
      refine nw_istore_n (pc := 58) (lv' := [(3, .int (0 : Int32)), (1, .long (((31 : Int64) * (((31 : Int64) * x1) + (Int32.toInt64 r_38))) + (Int32.toInt64 r_51))), (0, .ref (P.2.1 37))]) h dX5_digest_58 rfl (by decide) rfl ?_
      obtain ⟨n_59, hf⟩ := hf
      refine nw_sub (lv' := [(0, .ref (P.2.1 37)), (1, .long (((31 : Int64) * (((31 : Int64) * x1) + (Int32.toInt64 r_38))) + (Int32.toInt64 r_51))), (3, .int (0 : Int32))]) [2, 1, 0] rfl ?_
      exact hL_59 n_59 _ _ _ hf
    · have hf := hf.2 c_9
      refine nw_ldc2 (pc := 12) h nw_w579 dX5_digest_12 ?_
      refine nw_lload_n (pc := 15) h dX5_digest_15 rfl 1 rfl ?_
      refine nw_lmul (pc := 16) h dX5_digest_16 ?_
      refine nw_aload_n (pc := 17) h dX5_digest_17 rfl 0 rfl ?_
      refine nw_iload_n (pc := 18) h dX5_digest_18 rfl 2 rfl ?_
      refine klX5_307 (pc := 19) h (by rw [hR]; decide) hf (Nat.le_of_ble_eq_true rfl) dX5_digest_19 (fun r_19 s_19 hf => ?_)
      refine nw_i2l (pc := 22) h dX5_digest_22 ?_
      refine nw_ladd (pc := 23) h dX5_digest_23 ?_
      refine nw_lstore_n (pc := 24) (lv' := [(1, .long (((31 : Int64) * x1) + (Int32.toInt64 r_19))), (0, .ref (P.2.1 37)), (3, .int x3)]) h dX5_digest_24 rfl (by decide) rfl ?_
      refine nw_iinc (pc := 25) (v := (x3 + (1 : Int32))) (lv' := [(3, .int (x3 + (1 : Int32))), (1, .long (((31 : Int64) * x1) + (Int32.toInt64 r_19))), (0, .ref (P.2.1 37))]) h dX5_digest_25 (j := 2) rfl rfl (by decide) rfl ?_
      refine nw_goto (pc := 28) (tgt := 6) h dX5_digest_28 (by decide) ?_
      refine nw_sub (lv' := [(0, .ref (P.2.1 37)), (1, .long (((31 : Int64) * x1) + (Int32.toInt64 r_19))), (3, .int (x3 + (1 : Int32)))]) [2, 1, 0] rfl ?_
      exact hH_6 _ _ _ (hf)
  have hL_6 :  ∀ (n : Nat) (σ : nw_ST) (x1 : Int64) (x3 : Int32), f5_digest_6 K n σ x1 x3 → nw_G P X 5 σ [(0, .ref (P.2.1 37)), (1, .long x1), (3, .int x3)] 6 [] := by
    intro n
    induction n with
    | zero => intro σ x1 x3 hf; exact False.elim hf
    | succ n ih => exact hB_6 _ ih
  unfold f5_digest at hf
  refine nw_ldc2 (pc := 0) h nw_w584 dX5_digest_0 ?_
  refine nw_lstore_n (pc := 3) (lv' := [(1, .long (17 : Int64)), (0, .ref (P.2.1 37))]) h dX5_digest_3 rfl (by decide) rfl ?_
  refine nw_iconst (pc := 4) (v := 0) h dX5_digest_4 (by decide) ?_
  refine nw_istore_n (pc := 5) (lv' := [(3, .int (0 : Int32)), (1, .long (17 : Int64)), (0, .ref (P.2.1 37))]) h dX5_digest_5 rfl (by decide) rfl ?_
  obtain ⟨n_6, hf⟩ := hf
  refine nw_sub (lv' := [(0, .ref (P.2.1 37)), (1, .long (17 : Int64)), (3, .int (0 : Int32))]) [2, 1, 0] rfl ?_
  exact hL_6 n_6 _ _ _ hf
