theorem klX5_263 {P : nw_PT} {X : nw_EX} {cc : ByteArray} {nL : Nat} {σ : nw_ST} {lv : List (Nat × Value)} {pc : Nat} {rest : List Value} {a1 : Int32} {a2 : Int32} (h : nw_ok P X cc RX5 nL) (hR : rm5_oftenOf.frames + 1 ≤ X.2.2.2.1.frames ∧ 8 + (8 + 11) + rm5_oftenOf.locals ≤ X.2.2.2.1.locals)  {K : Int32 → nw_ST → Prop} (hf : f5_oftenOf K σ a1 a2) (hst : (rest.map fun v => v.category).sum ≤ 8) (hd : decode cc pc = .ok (.invokevirtual 263, 3)) (k : ∀ (r : Int32) (s2 : nw_ST), K r s2 → nw_G P X nL s2 lv (pc + 3) (.int r :: rest)) : nw_G P X nL σ lv pc (.int a2 :: .int a1 :: .ref (P.2.1 37) :: rest) :=
  nw_callV (As := [.int a1, .int a2]) (rest := rest) (C := RX5) (ci := 5) h (ct5_oftenOf _ P h.2.2 σ a1 a2 K hf) (nw_goodV nw_w542 nw_w543 nw_w544 nw_w342 nw_w545) yd5_oftenOf rfl hR ⟨rfl, rfl⟩ rfl (by decide) rfl rfl hst rfl hd (fun v s2 z => by obtain ⟨r, rfl, z⟩ := z; exact k r s2 z)
def f5_often_29 (K : Int32 → nw_ST → Prop) (σ : nw_ST) (y0 : Int32) : Prop := (K y0 σ)
def f5_often_27 (K : Int32 → nw_ST → Prop) (σ : nw_ST) : Prop := (f5_often_29 K σ (-2 : Int32))
def f5_often (K : Int32 → nw_ST → Prop) (σ : nw_ST) (a1 : Int32) (a2 : Int32) : Prop := (f5_isSwell (fun (r_2 : Int32) (s_2 : nw_ST) => (((r_2 = 0) → (f5_often_27 K s_2)) ∧ (¬ (r_2 = 0) → ((((v5_in a2 (-1 : Int32) (97 : Int32)) = 0) → (f5_often_27 K s_2)) ∧ (¬ ((v5_in a2 (-1 : Int32) (97 : Int32)) = 0) → (f5_oftenOf (fun (r_21 : Int32) (s_21 : nw_ST) => (f5_often_29 K s_21 r_21)) s_2 a1 a2)))))) σ a1)
def rm5_often : Room := { frames := 8, cells := 0, slots := 0, locals := 187 }
theorem yd5_often : yX5_often.cls = RX5 ∧ yX5_often.cls ≠ "java/lang/invoke/MethodHandle" ∧ yX5_often.cls ≠ "java/lang/invoke/VarHandle" ∧ (parseMethodDescriptor yX5_often.desc).map (fun d => d.parameters.length) = some 2 := by decide +kernel
set_option maxHeartbeats 4000000 in
set_option maxRecDepth 100000 in
theorem ct5_often (l : Launch) (P : nw_PT) (hD : nw_D P) (σ : nw_ST) (a1 : Int32) (a2 : Int32)  (K : Int32 → nw_ST → Prop) (hf : f5_often K σ a1 a2) : nw_MT l yX5_often cX5_often 3 (some .int) rm5_often P [.ref (P.2.1 37), .int a1, .int a2] σ (nw_Ki K) := by
  refine nw_enter (by decide) (by first | decide | exact Nat.le_of_ble_eq_true rfl) hD ?_
  intro X hl h he hR
  subst hl
  have h : nw_ok P X cX5_often RX5 3 := h
  show nw_G P X 3 σ [(0, .ref (P.2.1 37)), (1, .int a1), (2, .int a2)] 0 []
  have hL_29 :  ∀ (σ : nw_ST) (y0 : Int32), f5_often_29 K σ y0 → nw_G P X 3 σ [] 29 [.int y0] := by
    intro σ y0 hf
    unfold f5_often_29 at hf
    exact nw_iret (pc := 29) h he dX5_often_29 ⟨_, rfl, hf⟩
  have hL_27 :  ∀ (σ : nw_ST), f5_often_27 K σ → nw_G P X 3 σ [] 27 [] := by
    intro σ hf
    unfold f5_often_27 at hf
    refine nw_bipush (pc := 27) (v := -2) h dX5_often_27 (by decide) ?_
    exact hL_29 _ _ (hf)
  unfold f5_often at hf
  refine nw_aload_n (pc := 0) h dX5_often_0 rfl 0 rfl ?_
  refine nw_iload_n (pc := 1) h dX5_often_1 rfl 1 rfl ?_
  refine klX5_125 (pc := 2) h (by rw [hR]; decide) hf (Nat.le_of_ble_eq_true rfl) dX5_often_2 (fun r_2 s_2 hf => ?_)
  refine nw_if_eq (pc := 5) (tgt := 27) h dX5_often_5 (by decide) (fun c_5 => ?_) (fun c_5 => ?_)
  · have hf := hf.1 c_5
    refine nw_sub (lv' := []) [] rfl ?_
    exact hL_27 _ (hf)
  · have hf := hf.2 c_5
    refine nw_iload_n (pc := 8) h dX5_often_8 rfl 2 rfl ?_
    refine nw_iconst (pc := 9) (v := -1) h dX5_often_9 (by decide) ?_
    refine nw_bipush (pc := 10) (v := 97) h dX5_often_10 (by decide) ?_
    refine klX5_89 (pc := 12) h (by rw [hR]; decide) (Nat.le_of_ble_eq_true rfl) dX5_often_12 ?_
    refine nw_if_eq (pc := 15) (tgt := 27) h dX5_often_15 (by decide) (fun c_15 => ?_) (fun c_15 => ?_)
    · have hf := hf.1 c_15
      refine nw_sub (lv' := []) [] rfl ?_
      exact hL_27 _ (hf)
    · have hf := hf.2 c_15
      refine nw_aload_n (pc := 18) h dX5_often_18 rfl 0 rfl ?_
      refine nw_iload_n (pc := 19) h dX5_often_19 rfl 1 rfl ?_
      refine nw_iload_n (pc := 20) h dX5_often_20 rfl 2 rfl ?_
      refine klX5_263 (pc := 21) h (by rw [hR]; decide) hf (Nat.le_of_ble_eq_true rfl) dX5_often_21 (fun r_21 s_21 hf => ?_)
      refine nw_goto (pc := 24) (tgt := 29) h dX5_often_24 (by decide) ?_
      refine nw_sub (lv' := []) [] rfl ?_
      exact hL_29 _ _ (hf)
theorem klX5_270 {P : nw_PT} {X : nw_EX} {cc : ByteArray} {nL : Nat} {σ : nw_ST} {lv : List (Nat × Value)} {pc : Nat} {rest : List Value} {a1 : Int64} {a2 : Int64} {a3 : Int32} (h : nw_ok P X cc RX5 nL) (hR : rm5_lowest.frames + 1 ≤ X.2.2.2.1.frames ∧ 8 + (11 + 11) + rm5_lowest.locals ≤ X.2.2.2.1.locals)  {K : Int64 → nw_ST → Prop} (hf : f5_lowest K σ a1 a2 a3) (hst : (rest.map fun v => v.category).sum ≤ 8) (hd : decode cc pc = .ok (.invokestatic 270, 3)) (k : ∀ (r : Int64) (s2 : nw_ST), K r s2 → nw_G P X nL s2 lv (pc + 3) (.long r :: rest)) : nw_G P X nL σ lv pc (.int a3 :: .long a2 :: .long a1 :: rest) :=
  nw_callS (As := [.long a1, .long a2, .int a3]) (rest := rest) h (ct5_lowest _ P h.2.2 σ a1 a2 a3 K hf) (nw_goodS nw_w547 nw_w548 nw_w342 nw_w549) yd5_lowest.2 rfl hR ⟨rfl, rfl⟩ hst rfl hd (fun v s2 z => by obtain ⟨r, rfl, z⟩ := z; exact k r s2 z)
theorem gf5_68 {P : nw_PT} {X : nw_EX} {cc : ByteArray} {nL : Nat} {σ : nw_ST} {lv : List (Nat × Value)} {pc : Nat} {st : List Value} {q : Nat} (h : nw_ok P X cc RX5 nL) (hq : nw_cl q = 5) {r : Nat} (hr : nw_rf q 31 = r) (hd : decode cc pc = .ok (.getfield 68, 3)) (k : nw_G P X nL σ lv (pc + 3) (.ref (P.2.1 r) :: st)) : nw_G P X nL σ lv pc (.ref (P.2.1 q) :: st) := by
  subst hr; intro H locs ls h1 h2 h3
  exact va_get (D := P.1) (ci := 5) (C := RX5) (T := TX5) (N := 38) h.1.1 h.1.2.1 h.1.2.2.2.2 in_T5 h.1.2.2.2.1 h.2.1.1 h1 q (nw_at5 hq) rfl 31 (by decide) (h.1.2.2.2.2 _ nw_w551) (fun _ z => z) rfl hd (k H locs ls h1 h2 h3)
def f5_hoarseOf_161 (K : Int64 → nw_ST → Prop) (σ : nw_ST) (x3 : Int32) (x4 : Int64) : Prop := (f5_lowest (fun (r_167 : Int64) (s_167 : nw_ST) => (K r_167 s_167)) σ x4 (281474976710656 : Int64) x3)
def f5_hoarseOf_133 (K : Int64 → nw_ST → Prop) (H_48 : nw_ST → Int32 → Int32 → Int32 → Int64 → Int64 → Int32 → Prop) (H_76 : nw_ST → Int32 → Int32 → Int32 → Int64 → Int64 → Int32 → Int32 → Prop) (σ : nw_ST) (x1 : Int32) (x2 : Int32) (x3 : Int32) (x4 : Int64) (x6 : Int64) (x8 : Int32) (x9 : Int32) (y0 : Int64) (y1 : Int64) (y2 : Int32) : Prop := ((vp_in y2 15) ∧ (H_76 (nw_sL σ 57 y2.toNatClampNeg (y1 + y0)) x1 x2 x3 x4 x6 x8 (x9 + (-1 : Int32))))
def f5_hoarseOf_111 (K : Int64 → nw_ST → Prop) (H_48 : nw_ST → Int32 → Int32 → Int32 → Int64 → Int64 → Int32 → Prop) (H_76 : nw_ST → Int32 → Int32 → Int32 → Int64 → Int64 → Int32 → Int32 → Prop) (σ : nw_ST) (x1 : Int32) (x2 : Int32) (x3 : Int32) (x4 : Int64) (x6 : Int64) (x8 : Int32) (x9 : Int32) (y0 : Int64) (y1 : Int32) : Prop := ((((x9 ≤ (1 : Int32)) → True) ∧ (¬ (x9 ≤ (1 : Int32)) → (vp_in (x9 - (2 : Int32)) 15))) ∧ (f5_hoarseOf_133 K H_48 H_76 σ x1 x2 x3 x4 x6 x8 x9 (if (x9 ≤ (1 : Int32)) then (0 : Int64) else ((Int32.toInt64 x1) * (nw_gL σ 57 (x9 - (2 : Int32)).toNatClampNeg))) y0 y1))
def b5_hoarseOf_76 (K : Int64 → nw_ST → Prop) (H_48 : nw_ST → Int32 → Int32 → Int32 → Int64 → Int64 → Int32 → Prop) (H_76 : nw_ST → Int32 → Int32 → Int32 → Int64 → Int64 → Int32 → Int32 → Prop) (σ : nw_ST) (x1 : Int32) (x2 : Int32) (x3 : Int32) (x4 : Int64) (x6 : Int64) (x8 : Int32) (x9 : Int32) : Prop := (((x9 < 0) → ((vp_in x2 15) ∧ (H_48 σ x1 x2 x3 (x4 + ((nw_gL σ 57 x2.toNatClampNeg) * x6)) x6 (x8 + (1 : Int32))))) ∧ (¬ (x9 < 0) → ((((x9 ≤ 0) → True) ∧ (¬ (x9 ≤ 0) → (vp_in (x9 - (1 : Int32)) 15))) ∧ (f5_hoarseOf_111 K H_48 H_76 σ x1 x2 x3 x4 x6 x8 x9 (if (x9 ≤ 0) then (0 : Int64) else ((Int32.toInt64 ((16 : Int32) - x1)) * (nw_gL σ 57 (x9 - (1 : Int32)).toNatClampNeg))) x9))))
def f5_hoarseOf_76 (K : Int64 → nw_ST → Prop) (H_48 : nw_ST → Int32 → Int32 → Int32 → Int64 → Int64 → Int32 → Prop) : Nat → nw_ST → Int32 → Int32 → Int32 → Int64 → Int64 → Int32 → Int32 → Prop
  | 0 => fun _ _ _ _ _ _ _ _ => False
  | n + 1 => b5_hoarseOf_76 K H_48 (f5_hoarseOf_76 K H_48 n)
def b5_hoarseOf_48 (K : Int64 → nw_ST → Prop) (H_48 : nw_ST → Int32 → Int32 → Int32 → Int64 → Int64 → Int32 → Prop) (σ : nw_ST) (x1 : Int32) (x2 : Int32) (x3 : Int32) (x4 : Int64) (x6 : Int64) (x8 : Int32) : Prop := ((((nw_gS σ 37 25) ≤ x8) → (f5_hoarseOf_161 K σ x3 x4)) ∧ (¬ ((nw_gS σ 37 25) ≤ x8) → ((((12 : Int32) ≤ x8) → (f5_hoarseOf_161 K σ x3 x4)) ∧ (¬ ((12 : Int32) ≤ x8) → (∃ n, f5_hoarseOf_76 K H_48 n σ x1 x2 x3 x4 (x6 / (16 : Int64)) x8 (14 : Int32))))))
def f5_hoarseOf_48 (K : Int64 → nw_ST → Prop) : Nat → nw_ST → Int32 → Int32 → Int32 → Int64 → Int64 → Int32 → Prop
  | 0 => fun _ _ _ _ _ _ _ => False
  | n + 1 => b5_hoarseOf_48 K (f5_hoarseOf_48 K n)
def f5_hoarseOf_38 (K : Int64 → nw_ST → Prop) (H_15 : nw_ST → Int32 → Int32 → Int32 → Int64 → Int64 → Int32 → Prop) (σ : nw_ST) (x1 : Int32) (x2 : Int32) (x3 : Int32) (x4 : Int64) (x6 : Int64) (x8 : Int32) (y0 : Int64) (y1 : Int32) : Prop := ((vp_in y1 15) ∧ (H_15 (nw_sL σ 57 y1.toNatClampNeg y0) x1 x2 x3 x4 x6 (x8 + (1 : Int32))))
def b5_hoarseOf_15 (K : Int64 → nw_ST → Prop) (H_15 : nw_ST → Int32 → Int32 → Int32 → Int64 → Int64 → Int32 → Prop) (σ : nw_ST) (x1 : Int32) (x2 : Int32) (x3 : Int32) (x4 : Int64) (x6 : Int64) (x8 : Int32) : Prop := ((((15 : Int32) ≤ x8) → (∃ n, f5_hoarseOf_48 K n σ x1 x2 x3 x4 x6 (0 : Int32))) ∧ (¬ ((15 : Int32) ≤ x8) → (f5_hoarseOf_38 K H_15 σ x1 x2 x3 x4 x6 x8 (if (x8 = 0) then (1 : Int64) else (0 : Int64)) x8)))
def f5_hoarseOf_15 (K : Int64 → nw_ST → Prop) : Nat → nw_ST → Int32 → Int32 → Int32 → Int64 → Int64 → Int32 → Prop
  | 0 => fun _ _ _ _ _ _ _ => False
  | n + 1 => b5_hoarseOf_15 K (f5_hoarseOf_15 K n)
def f5_hoarseOf (K : Int64 → nw_ST → Prop) (σ : nw_ST) (a1 : Int32) (a2 : Int32) (a3 : Int32) : Prop := (f5_laysTold (fun (s_1 : nw_ST) => (∃ n, f5_hoarseOf_15 K n s_1 a1 a2 a3 (0 : Int64) (281474976710656 : Int64) (0 : Int32))) σ)
def rm5_hoarseOf : Room := { frames := 8, cells := 0, slots := 0, locals := 180 }
theorem yd5_hoarseOf : yX5_hoarseOf.cls = RX5 ∧ yX5_hoarseOf.cls ≠ "java/lang/invoke/MethodHandle" ∧ yX5_hoarseOf.cls ≠ "java/lang/invoke/VarHandle" ∧ (parseMethodDescriptor yX5_hoarseOf.desc).map (fun d => d.parameters.length) = some 3 := by decide +kernel
set_option maxHeartbeats 4000000 in
set_option maxRecDepth 100000 in
theorem ct5_hoarseOf (l : Launch) (P : nw_PT) (hD : nw_D P) (σ : nw_ST) (a1 : Int32) (a2 : Int32) (a3 : Int32)  (K : Int64 → nw_ST → Prop) (hf : f5_hoarseOf K σ a1 a2 a3) : nw_MT l yX5_hoarseOf cX5_hoarseOf 10 (some .long) rm5_hoarseOf P [.ref (P.2.1 37), .int a1, .int a2, .int a3] σ (nw_Kl K) := by
  refine nw_enter (by decide) (by first | decide | exact Nat.le_of_ble_eq_true rfl) hD ?_
  intro X hl h he hR
  subst hl
  have h : nw_ok P X cX5_hoarseOf RX5 10 := h
  show nw_G P X 10 σ [(0, .ref (P.2.1 37)), (1, .int a1), (2, .int a2), (3, .int a3)] 0 []
  have hL_161 :  ∀ (σ : nw_ST) (x3 : Int32) (x4 : Int64), f5_hoarseOf_161 K σ x3 x4 → nw_G P X 10 σ [(3, .int x3), (4, .long x4)] 161 [] := by
    intro σ x3 x4 hf
    unfold f5_hoarseOf_161 at hf
    refine nw_lload (pc := 161) h dX5_hoarseOf_161 1 rfl ?_
    refine nw_ldc2 (pc := 163) h nw_w546 dX5_hoarseOf_163 ?_
    refine nw_iload_n (pc := 166) h dX5_hoarseOf_166 rfl 0 rfl ?_
    refine klX5_270 (pc := 167) h (by rw [hR]; decide) hf (Nat.le_of_ble_eq_true rfl) dX5_hoarseOf_167 (fun r_167 s_167 hf => ?_)
    exact nw_lret (pc := 170) h he dX5_hoarseOf_170 ⟨_, rfl, hf⟩
  have hL_133 : ∀ (H_48 : nw_ST → Int32 → Int32 → Int32 → Int64 → Int64 → Int32 → Prop) (hH_48 : (∀ (σ : nw_ST) (x1 : Int32) (x2 : Int32) (x3 : Int32) (x4 : Int64) (x6 : Int64) (x8 : Int32), H_48 σ x1 x2 x3 x4 x6 x8 → nw_G P X 10 σ [(0, .ref (P.2.1 37)), (1, .int x1), (2, .int x2), (3, .int x3), (4, .long x4), (6, .long x6), (8, .int x8)] 48 [])) (H_76 : nw_ST → Int32 → Int32 → Int32 → Int64 → Int64 → Int32 → Int32 → Prop) (hH_76 : (∀ (σ : nw_ST) (x1 : Int32) (x2 : Int32) (x3 : Int32) (x4 : Int64) (x6 : Int64) (x8 : Int32) (x9 : Int32), H_76 σ x1 x2 x3 x4 x6 x8 x9 → nw_G P X 10 σ [(0, .ref (P.2.1 37)), (1, .int x1), (2, .int x2), (3, .int x3), (4, .long x4), (6, .long x6), (8, .int x8), (9, .int x9)] 76 [])), ∀ (σ : nw_ST) (x1 : Int32) (x2 : Int32) (x3 : Int32) (x4 : Int64) (x6 : Int64) (x8 : Int32) (x9 : Int32) (y0 : Int64) (y1 : Int64) (y2 : Int32), f5_hoarseOf_133 K H_48 H_76 σ x1 x2 x3 x4 x6 x8 x9 y0 y1 y2 → nw_G P X 10 σ [(0, .ref (P.2.1 37)), (1, .int x1), (2, .int x2), (3, .int x3), (4, .long x4), (6, .long x6), (8, .int x8), (9, .int x9)] 133 [.long y0, .long y1, .int y2, .ref (P.2.1 57)] := by
    intro H_48 hH_48 H_76 hH_76 σ x1 x2 x3 x4 x6 x8 x9 y0 y1 y2 hf
    unfold f5_hoarseOf_133 at hf
    refine nw_ladd (pc := 133) h dX5_hoarseOf_133 ?_
    obtain ⟨h_134, hf⟩ := hf
    refine nw_last (pc := 134) (n := 15) h rfl rfl h_134 dX5_hoarseOf_134 ?_
    refine nw_iinc (pc := 135) (v := (x9 + (-1 : Int32))) (lv' := [(9, .int (x9 + (-1 : Int32))), (0, .ref (P.2.1 37)), (1, .int x1), (2, .int x2), (3, .int x3), (4, .long x4), (6, .long x6), (8, .int x8)]) h dX5_hoarseOf_135 (j := 7) rfl rfl (by decide) rfl ?_
    refine nw_goto (pc := 138) (tgt := 76) h dX5_hoarseOf_138 (by decide) ?_
    refine nw_sub (lv' := [(0, .ref (P.2.1 37)), (1, .int x1), (2, .int x2), (3, .int x3), (4, .long x4), (6, .long x6), (8, .int x8), (9, .int (x9 + (-1 : Int32)))]) [1, 2, 3, 4, 5, 6, 7, 0] rfl ?_
    exact hH_76 _ _ _ _ _ _ _ _ (hf)
  have hL_111 : ∀ (H_48 : nw_ST → Int32 → Int32 → Int32 → Int64 → Int64 → Int32 → Prop) (hH_48 : (∀ (σ : nw_ST) (x1 : Int32) (x2 : Int32) (x3 : Int32) (x4 : Int64) (x6 : Int64) (x8 : Int32), H_48 σ x1 x2 x3 x4 x6 x8 → nw_G P X 10 σ [(0, .ref (P.2.1 37)), (1, .int x1), (2, .int x2), (3, .int x3), (4, .long x4), (6, .long x6), (8, .int x8)] 48 [])) (H_76 : nw_ST → Int32 → Int32 → Int32 → Int64 → Int64 → Int32 → Int32 → Prop) (hH_76 : (∀ (σ : nw_ST) (x1 : Int32) (x2 : Int32) (x3 : Int32) (x4 : Int64) (x6 : Int64) (x8 : Int32) (x9 : Int32), H_76 σ x1 x2 x3 x4 x6 x8 x9 → nw_G P X 10 σ [(0, .ref (P.2.1 37)), (1, .int x1), (2, .int x2), (3, .int x3), (4, .long x4), (6, .long x6), (8, .int x8), (9, .int x9)] 76 [])), ∀ (σ : nw_ST) (x1 : Int32) (x2 : Int32) (x3 : Int32) (x4 : Int64) (x6 : Int64) (x8 : Int32) (x9 : Int32) (y0 : Int64) (y1 : Int32), f5_hoarseOf_111 K H_48 H_76 σ x1 x2 x3 x4 x6 x8 x9 y0 y1 → nw_G P X 10 σ [(0, .ref (P.2.1 37)), (1, .int x1), (2, .int x2), (3, .int x3), (4, .long x4), (6, .long x6), (8, .int x8), (9, .int x9)] 111 [.long y0, .int y1, .ref (P.2.1 57)] := by
    intro H_48 hH_48 H_76 hH_76 σ x1 x2 x3 x4 x6 x8 x9 y0 y1 hf
    unfold f5_hoarseOf_111 at hf
    refine nw_iload (pc := 111) h dX5_hoarseOf_111 7 rfl ?_
    refine nw_iconst (pc := 113) (v := 1) h dX5_hoarseOf_113 (by decide) ?_
    obtain ⟨ho, hf⟩ := hf
    refine nw_icmp_le (pc := 114) (tgt := 132) h dX5_hoarseOf_114 (by decide) (fun c_114 => ?_) (fun c_114 => ?_)
    · skip
      have ho := ho.1 c_114
      refine nw_lconst (pc := 132) (vl := 0) h dX5_hoarseOf_132 (by decide) ?_
      simp only [if_pos c_114] at hf
      exact hL_133 H_48 hH_48 H_76 hH_76 _ _ _ _ _ _ _ _ _ _ _ hf
    · skip
      have ho := ho.2 c_114
      refine nw_iload_n (pc := 117) h dX5_hoarseOf_117 rfl 1 rfl ?_
      refine nw_i2l (pc := 118) h dX5_hoarseOf_118 ?_
      refine nw_aload_n (pc := 119) h dX5_hoarseOf_119 rfl 0 rfl ?_
      refine gf5_68 (pc := 120) (r := 57) h rfl rfl dX5_hoarseOf_120 ?_
      refine nw_iload (pc := 123) h dX5_hoarseOf_123 7 rfl ?_
      refine nw_iconst (pc := 125) (v := 2) h dX5_hoarseOf_125 (by decide) ?_
      refine nw_isub (pc := 126) h dX5_hoarseOf_126 ?_
      have h_127 := ho
      refine nw_lald (pc := 127) (n := 15) h rfl rfl h_127 dX5_hoarseOf_127 ?_
      refine nw_lmul (pc := 128) h dX5_hoarseOf_128 ?_
      refine nw_goto (pc := 129) (tgt := 133) h dX5_hoarseOf_129 (by decide) ?_
      simp only [if_neg c_114] at hf
      exact hL_133 H_48 hH_48 H_76 hH_76 _ _ _ _ _ _ _ _ _ _ _ hf
  have hB_76 : ∀ (H_48 : nw_ST → Int32 → Int32 → Int32 → Int64 → Int64 → Int32 → Prop) (hH_48 : (∀ (σ : nw_ST) (x1 : Int32) (x2 : Int32) (x3 : Int32) (x4 : Int64) (x6 : Int64) (x8 : Int32), H_48 σ x1 x2 x3 x4 x6 x8 → nw_G P X 10 σ [(0, .ref (P.2.1 37)), (1, .int x1), (2, .int x2), (3, .int x3), (4, .long x4), (6, .long x6), (8, .int x8)] 48 [])) (H_76 : nw_ST → Int32 → Int32 → Int32 → Int64 → Int64 → Int32 → Int32 → Prop) (hH_76 : (∀ (σ : nw_ST) (x1 : Int32) (x2 : Int32) (x3 : Int32) (x4 : Int64) (x6 : Int64) (x8 : Int32) (x9 : Int32), H_76 σ x1 x2 x3 x4 x6 x8 x9 → nw_G P X 10 σ [(0, .ref (P.2.1 37)), (1, .int x1), (2, .int x2), (3, .int x3), (4, .long x4), (6, .long x6), (8, .int x8), (9, .int x9)] 76 [])), ∀ (σ : nw_ST) (x1 : Int32) (x2 : Int32) (x3 : Int32) (x4 : Int64) (x6 : Int64) (x8 : Int32) (x9 : Int32), b5_hoarseOf_76 K H_48 H_76 σ x1 x2 x3 x4 x6 x8 x9 → nw_G P X 10 σ [(0, .ref (P.2.1 37)), (1, .int x1), (2, .int x2), (3, .int x3), (4, .long x4), (6, .long x6), (8, .int x8), (9, .int x9)] 76 [] := by
    intro H_48 hH_48 H_76 hH_76 σ x1 x2 x3 x4 x6 x8 x9 hf
    unfold b5_hoarseOf_76 at hf
    refine nw_iload (pc := 76) h dX5_hoarseOf_76 7 rfl ?_
    refine nw_if_lt (pc := 78) (tgt := 141) h dX5_hoarseOf_78 (by decide) (fun c_78 => ?_) (fun c_78 => ?_)
    · have hf := hf.1 c_78
      refine nw_lload (pc := 141) h dX5_hoarseOf_141 4 rfl ?_
      refine nw_aload_n (pc := 143) h dX5_hoarseOf_143 rfl 0 rfl ?_
      refine gf5_68 (pc := 144) (r := 57) h rfl rfl dX5_hoarseOf_144 ?_
      refine nw_iload_n (pc := 147) h dX5_hoarseOf_147 rfl 2 rfl ?_
      obtain ⟨h_148, hf⟩ := hf
      refine nw_lald (pc := 148) (n := 15) h rfl rfl h_148 dX5_hoarseOf_148 ?_
      refine nw_lload (pc := 149) h dX5_hoarseOf_149 5 rfl ?_
      refine nw_lmul (pc := 151) h dX5_hoarseOf_151 ?_
      refine nw_ladd (pc := 152) h dX5_hoarseOf_152 ?_
      refine nw_lstore (pc := 153) (lv' := [(4, .long (x4 + ((nw_gL σ 57 x2.toNatClampNeg) * x6))), (0, .ref (P.2.1 37)), (1, .int x1), (2, .int x2), (3, .int x3), (6, .long x6), (8, .int x8), (9, .int x9)]) h dX5_hoarseOf_153 (by decide) rfl ?_
      refine nw_iinc (pc := 155) (v := (x8 + (1 : Int32))) (lv' := [(8, .int (x8 + (1 : Int32))), (4, .long (x4 + ((nw_gL σ 57 x2.toNatClampNeg) * x6))), (0, .ref (P.2.1 37)), (1, .int x1), (2, .int x2), (3, .int x3), (6, .long x6), (9, .int x9)]) h dX5_hoarseOf_155 (j := 6) rfl rfl (by decide) rfl ?_
      refine nw_goto (pc := 158) (tgt := 48) h dX5_hoarseOf_158 (by decide) ?_
      refine nw_sub (lv' := [(0, .ref (P.2.1 37)), (1, .int x1), (2, .int x2), (3, .int x3), (4, .long (x4 + ((nw_gL σ 57 x2.toNatClampNeg) * x6))), (6, .long x6), (8, .int (x8 + (1 : Int32)))]) [2, 3, 4, 5, 1, 6, 0] rfl ?_
      exact hH_48 _ _ _ _ _ _ _ (hf)
    · have hf := hf.2 c_78
      refine nw_aload_n (pc := 81) h dX5_hoarseOf_81 rfl 0 rfl ?_
      refine gf5_68 (pc := 82) (r := 57) h rfl rfl dX5_hoarseOf_82 ?_
      refine nw_iload (pc := 85) h dX5_hoarseOf_85 7 rfl ?_
      refine nw_iload (pc := 87) h dX5_hoarseOf_87 7 rfl ?_
      obtain ⟨ho, hf⟩ := hf
      refine nw_if_le (pc := 89) (tgt := 110) h dX5_hoarseOf_89 (by decide) (fun c_89 => ?_) (fun c_89 => ?_)
      · skip
        have ho := ho.1 c_89
        refine nw_lconst (pc := 110) (vl := 0) h dX5_hoarseOf_110 (by decide) ?_
        simp only [if_pos c_89] at hf
        exact hL_111 H_48 hH_48 H_76 hH_76 _ _ _ _ _ _ _ _ _ _ hf
      · skip
        have ho := ho.2 c_89
        refine nw_bipush (pc := 92) (v := 16) h dX5_hoarseOf_92 (by decide) ?_
        refine nw_iload_n (pc := 94) h dX5_hoarseOf_94 rfl 1 rfl ?_
        refine nw_isub (pc := 95) h dX5_hoarseOf_95 ?_
        refine nw_i2l (pc := 96) h dX5_hoarseOf_96 ?_
        refine nw_aload_n (pc := 97) h dX5_hoarseOf_97 rfl 0 rfl ?_
        refine gf5_68 (pc := 98) (r := 57) h rfl rfl dX5_hoarseOf_98 ?_
        refine nw_iload (pc := 101) h dX5_hoarseOf_101 7 rfl ?_
        refine nw_iconst (pc := 103) (v := 1) h dX5_hoarseOf_103 (by decide) ?_
        refine nw_isub (pc := 104) h dX5_hoarseOf_104 ?_
        have h_105 := ho
        refine nw_lald (pc := 105) (n := 15) h rfl rfl h_105 dX5_hoarseOf_105 ?_
        refine nw_lmul (pc := 106) h dX5_hoarseOf_106 ?_
        refine nw_goto (pc := 107) (tgt := 111) h dX5_hoarseOf_107 (by decide) ?_
        simp only [if_neg c_89] at hf
        exact hL_111 H_48 hH_48 H_76 hH_76 _ _ _ _ _ _ _ _ _ _ hf
  have hL_76 : ∀ (H_48 : nw_ST → Int32 → Int32 → Int32 → Int64 → Int64 → Int32 → Prop) (hH_48 : (∀ (σ : nw_ST) (x1 : Int32) (x2 : Int32) (x3 : Int32) (x4 : Int64) (x6 : Int64) (x8 : Int32), H_48 σ x1 x2 x3 x4 x6 x8 → nw_G P X 10 σ [(0, .ref (P.2.1 37)), (1, .int x1), (2, .int x2), (3, .int x3), (4, .long x4), (6, .long x6), (8, .int x8)] 48 [])), ∀ (n : Nat) (σ : nw_ST) (x1 : Int32) (x2 : Int32) (x3 : Int32) (x4 : Int64) (x6 : Int64) (x8 : Int32) (x9 : Int32), f5_hoarseOf_76 K H_48 n σ x1 x2 x3 x4 x6 x8 x9 → nw_G P X 10 σ [(0, .ref (P.2.1 37)), (1, .int x1), (2, .int x2), (3, .int x3), (4, .long x4), (6, .long x6), (8, .int x8), (9, .int x9)] 76 [] := by
    intro H_48 hH_48 n
    induction n with
    | zero => intro σ x1 x2 x3 x4 x6 x8 x9 hf; exact False.elim hf
    | succ n ih => exact hB_76 H_48 hH_48 _ ih
  have hB_48 : ∀ (H_48 : nw_ST → Int32 → Int32 → Int32 → Int64 → Int64 → Int32 → Prop) (hH_48 : (∀ (σ : nw_ST) (x1 : Int32) (x2 : Int32) (x3 : Int32) (x4 : Int64) (x6 : Int64) (x8 : Int32), H_48 σ x1 x2 x3 x4 x6 x8 → nw_G P X 10 σ [(0, .ref (P.2.1 37)), (1, .int x1), (2, .int x2), (3, .int x3), (4, .long x4), (6, .long x6), (8, .int x8)] 48 [])), ∀ (σ : nw_ST) (x1 : Int32) (x2 : Int32) (x3 : Int32) (x4 : Int64) (x6 : Int64) (x8 : Int32), b5_hoarseOf_48 K H_48 σ x1 x2 x3 x4 x6 x8 → nw_G P X 10 σ [(0, .ref (P.2.1 37)), (1, .int x1), (2, .int x2), (3, .int x3), (4, .long x4), (6, .long x6), (8, .int x8)] 48 [] := by
    intro H_48 hH_48 σ x1 x2 x3 x4 x6 x8 hf
    unfold b5_hoarseOf_48 at hf
    refine nw_iload (pc := 48) h dX5_hoarseOf_48 6 rfl ?_
    refine nw_aload_n (pc := 50) h dX5_hoarseOf_50 rfl 0 rfl ?_
    refine gf5_173 (pc := 51) h rfl dX5_hoarseOf_51 ?_
    refine nw_icmp_ge (pc := 54) (tgt := 161) h dX5_hoarseOf_54 (by decide) (fun c_54 => ?_) (fun c_54 => ?_)
    · have hf := hf.1 c_54
      refine nw_sub (lv' := [(3, .int x3), (4, .long x4)]) [3, 4] rfl ?_
      exact hL_161 _ _ _ (hf)
    · have hf := hf.2 c_54
      refine nw_iload (pc := 57) h dX5_hoarseOf_57 6 rfl ?_
      refine nw_bipush (pc := 59) (v := 12) h dX5_hoarseOf_59 (by decide) ?_
      refine nw_icmp_ge (pc := 61) (tgt := 161) h dX5_hoarseOf_61 (by decide) (fun c_61 => ?_) (fun c_61 => ?_)
      · have hf := hf.1 c_61
        refine nw_sub (lv' := [(3, .int x3), (4, .long x4)]) [3, 4] rfl ?_
        exact hL_161 _ _ _ (hf)
      · have hf := hf.2 c_61
        refine nw_lload (pc := 64) h dX5_hoarseOf_64 5 rfl ?_
        refine nw_ldc2 (pc := 66) h nw_w550 dX5_hoarseOf_66 ?_
        refine nw_ldiv_ (pc := 69) h dX5_hoarseOf_69 (by decide) ?_
        refine nw_lstore (pc := 70) (lv' := [(6, .long (x6 / (16 : Int64))), (0, .ref (P.2.1 37)), (1, .int x1), (2, .int x2), (3, .int x3), (4, .long x4), (8, .int x8)]) h dX5_hoarseOf_70 (by decide) rfl ?_
        refine nw_bipush (pc := 72) (v := 14) h dX5_hoarseOf_72 (by decide) ?_
        refine nw_istore (pc := 74) (lv' := [(9, .int (14 : Int32)), (6, .long (x6 / (16 : Int64))), (0, .ref (P.2.1 37)), (1, .int x1), (2, .int x2), (3, .int x3), (4, .long x4), (8, .int x8)]) h dX5_hoarseOf_74 (by decide) rfl ?_
        obtain ⟨n_76, hf⟩ := hf
        refine nw_sub (lv' := [(0, .ref (P.2.1 37)), (1, .int x1), (2, .int x2), (3, .int x3), (4, .long x4), (6, .long (x6 / (16 : Int64))), (8, .int x8), (9, .int (14 : Int32))]) [2, 3, 4, 5, 6, 1, 7, 0] rfl ?_
        exact hL_76 H_48 hH_48 n_76 _ _ _ _ _ _ _ _ hf
  have hL_48 :  ∀ (n : Nat) (σ : nw_ST) (x1 : Int32) (x2 : Int32) (x3 : Int32) (x4 : Int64) (x6 : Int64) (x8 : Int32), f5_hoarseOf_48 K n σ x1 x2 x3 x4 x6 x8 → nw_G P X 10 σ [(0, .ref (P.2.1 37)), (1, .int x1), (2, .int x2), (3, .int x3), (4, .long x4), (6, .long x6), (8, .int x8)] 48 [] := by
    intro n
    induction n with
    | zero => intro σ x1 x2 x3 x4 x6 x8 hf; exact False.elim hf
    | succ n ih => exact hB_48 _ ih
  have hL_38 : ∀ (H_15 : nw_ST → Int32 → Int32 → Int32 → Int64 → Int64 → Int32 → Prop) (hH_15 : (∀ (σ : nw_ST) (x1 : Int32) (x2 : Int32) (x3 : Int32) (x4 : Int64) (x6 : Int64) (x8 : Int32), H_15 σ x1 x2 x3 x4 x6 x8 → nw_G P X 10 σ [(0, .ref (P.2.1 37)), (1, .int x1), (2, .int x2), (3, .int x3), (4, .long x4), (6, .long x6), (8, .int x8)] 15 [])), ∀ (σ : nw_ST) (x1 : Int32) (x2 : Int32) (x3 : Int32) (x4 : Int64) (x6 : Int64) (x8 : Int32) (y0 : Int64) (y1 : Int32), f5_hoarseOf_38 K H_15 σ x1 x2 x3 x4 x6 x8 y0 y1 → nw_G P X 10 σ [(0, .ref (P.2.1 37)), (1, .int x1), (2, .int x2), (3, .int x3), (4, .long x4), (6, .long x6), (8, .int x8)] 38 [.long y0, .int y1, .ref (P.2.1 57)] := by
    intro H_15 hH_15 σ x1 x2 x3 x4 x6 x8 y0 y1 hf
    unfold f5_hoarseOf_38 at hf
    obtain ⟨h_38, hf⟩ := hf
    refine nw_last (pc := 38) (n := 15) h rfl rfl h_38 dX5_hoarseOf_38 ?_
    refine nw_iinc (pc := 39) (v := (x8 + (1 : Int32))) (lv' := [(8, .int (x8 + (1 : Int32))), (0, .ref (P.2.1 37)), (1, .int x1), (2, .int x2), (3, .int x3), (4, .long x4), (6, .long x6)]) h dX5_hoarseOf_39 (j := 6) rfl rfl (by decide) rfl ?_
    refine nw_goto (pc := 42) (tgt := 15) h dX5_hoarseOf_42 (by decide) ?_
    refine nw_sub (lv' := [(0, .ref (P.2.1 37)), (1, .int x1), (2, .int x2), (3, .int x3), (4, .long x4), (6, .long x6), (8, .int (x8 + (1 : Int32)))]) [1, 2, 3, 4, 5, 6, 0] rfl ?_
    exact hH_15 _ _ _ _ _ _ _ (hf)
  have hB_15 : ∀ (H_15 : nw_ST → Int32 → Int32 → Int32 → Int64 → Int64 → Int32 → Prop) (hH_15 : (∀ (σ : nw_ST) (x1 : Int32) (x2 : Int32) (x3 : Int32) (x4 : Int64) (x6 : Int64) (x8 : Int32), H_15 σ x1 x2 x3 x4 x6 x8 → nw_G P X 10 σ [(0, .ref (P.2.1 37)), (1, .int x1), (2, .int x2), (3, .int x3), (4, .long x4), (6, .long x6), (8, .int x8)] 15 [])), ∀ (σ : nw_ST) (x1 : Int32) (x2 : Int32) (x3 : Int32) (x4 : Int64) (x6 : Int64) (x8 : Int32), b5_hoarseOf_15 K H_15 σ x1 x2 x3 x4 x6 x8 → nw_G P X 10 σ [(0, .ref (P.2.1 37)), (1, .int x1), (2, .int x2), (3, .int x3), (4, .long x4), (6, .long x6), (8, .int x8)] 15 [] := by
    intro H_15 hH_15 σ x1 x2 x3 x4 x6 x8 hf
    unfold b5_hoarseOf_15 at hf
    refine nw_iload (pc := 15) h dX5_hoarseOf_15 6 rfl ?_
    refine nw_bipush (pc := 17) (v := 15) h dX5_hoarseOf_17 (by decide) ?_
    refine nw_icmp_ge (pc := 19) (tgt := 45) h dX5_hoarseOf_19 (by decide) (fun c_19 => ?_) (fun c_19 => ?_)
    · have hf := hf.1 c_19
      refine nw_iconst (pc := 45) (v := 0) h dX5_hoarseOf_45 (by decide) ?_
      refine nw_istore (pc := 46) (lv' := [(8, .int (0 : Int32)), (0, .ref (P.2.1 37)), (1, .int x1), (2, .int x2), (3, .int x3), (4, .long x4), (6, .long x6)]) h dX5_hoarseOf_46 (by decide) rfl ?_
      obtain ⟨n_48, hf⟩ := hf
      refine nw_sub (lv' := [(0, .ref (P.2.1 37)), (1, .int x1), (2, .int x2), (3, .int x3), (4, .long x4), (6, .long x6), (8, .int (0 : Int32))]) [1, 2, 3, 4, 5, 6, 0] rfl ?_
      exact hL_48 n_48 _ _ _ _ _ _ _ hf
    · have hf := hf.2 c_19
      refine nw_aload_n (pc := 22) h dX5_hoarseOf_22 rfl 0 rfl ?_
      refine gf5_68 (pc := 23) (r := 57) h rfl rfl dX5_hoarseOf_23 ?_
      refine nw_iload (pc := 26) h dX5_hoarseOf_26 6 rfl ?_
      refine nw_iload (pc := 28) h dX5_hoarseOf_28 6 rfl ?_
      refine nw_if_ne (pc := 30) (tgt := 37) h dX5_hoarseOf_30 (by decide) (fun c_30 => ?_) (fun c_30 => ?_)
      · skip
        refine nw_lconst (pc := 37) (vl := 0) h dX5_hoarseOf_37 (by decide) ?_
        simp only [if_neg c_30] at hf
        exact hL_38 H_15 hH_15 _ _ _ _ _ _ _ _ _ hf
      · skip
        refine nw_lconst (pc := 33) (vl := 1) h dX5_hoarseOf_33 (by decide) ?_
        refine nw_goto (pc := 34) (tgt := 38) h dX5_hoarseOf_34 (by decide) ?_
        simp only [if_pos c_30] at hf
        exact hL_38 H_15 hH_15 _ _ _ _ _ _ _ _ _ hf
  have hL_15 :  ∀ (n : Nat) (σ : nw_ST) (x1 : Int32) (x2 : Int32) (x3 : Int32) (x4 : Int64) (x6 : Int64) (x8 : Int32), f5_hoarseOf_15 K n σ x1 x2 x3 x4 x6 x8 → nw_G P X 10 σ [(0, .ref (P.2.1 37)), (1, .int x1), (2, .int x2), (3, .int x3), (4, .long x4), (6, .long x6), (8, .int x8)] 15 [] := by
    intro n
    induction n with
    | zero => intro σ x1 x2 x3 x4 x6 x8 hf; exact False.elim hf
    | succ n ih => exact hB_15 _ ih
  unfold f5_hoarseOf at hf
  refine nw_aload_n (pc := 0) h dX5_hoarseOf_0 rfl 0 rfl ?_
  refine klX5_198 (pc := 1) h (by rw [hR]; decide) hf (Nat.le_of_ble_eq_true rfl) dX5_hoarseOf_1 (fun s_1 hf => ?_)
  refine nw_lconst (pc := 4) (vl := 0) h dX5_hoarseOf_4 (by decide) ?_
  refine nw_lstore (pc := 5) (lv' := [(4, .long (0 : Int64)), (0, .ref (P.2.1 37)), (1, .int a1), (2, .int a2), (3, .int a3)]) h dX5_hoarseOf_5 (by decide) rfl ?_
  refine nw_ldc2 (pc := 7) h nw_w546 dX5_hoarseOf_7 ?_
  refine nw_lstore (pc := 10) (lv' := [(6, .long (281474976710656 : Int64)), (4, .long (0 : Int64)), (0, .ref (P.2.1 37)), (1, .int a1), (2, .int a2), (3, .int a3)]) h dX5_hoarseOf_10 (by decide) rfl ?_
  refine nw_iconst (pc := 12) (v := 0) h dX5_hoarseOf_12 (by decide) ?_
  refine nw_istore (pc := 13) (lv' := [(8, .int (0 : Int32)), (6, .long (281474976710656 : Int64)), (4, .long (0 : Int64)), (0, .ref (P.2.1 37)), (1, .int a1), (2, .int a2), (3, .int a3)]) h dX5_hoarseOf_13 (by decide) rfl ?_
  obtain ⟨n_15, hf⟩ := hf
  refine nw_sub (lv' := [(0, .ref (P.2.1 37)), (1, .int a1), (2, .int a2), (3, .int a3), (4, .long (0 : Int64)), (6, .long (281474976710656 : Int64)), (8, .int (0 : Int32))]) [3, 4, 5, 6, 2, 1, 0] rfl ?_
  exact hL_15 n_15 _ _ _ _ _ _ _ hf
theorem klX5_278 {P : nw_PT} {X : nw_EX} {cc : ByteArray} {nL : Nat} {σ : nw_ST} {lv : List (Nat × Value)} {pc : Nat} {rest : List Value} {a1 : Int32} (h : nw_ok P X cc RX5 nL) (hR : rm5_no.frames + 1 ≤ X.2.2.2.1.frames ∧ 8 + (1 + 11) + rm5_no.locals ≤ X.2.2.2.1.locals)  (hst : (rest.map fun v => v.category).sum ≤ 8) (hd : decode cc pc = .ok (.invokestatic 278, 3)) (k : nw_G P X nL σ lv (pc + 3) (.long (v5_no a1) :: rest)) : nw_G P X nL σ lv pc (.int a1 :: rest) :=
  nw_callS (As := [.int a1]) (rest := rest) h (ct5_no _ P h.2.2 σ a1) (nw_goodS nw_w552 nw_w553 nw_w342 nw_w554) yd5_no.2 rfl hR ⟨rfl, rfl⟩ hst rfl hd (fun v s2 z => by obtain ⟨r, rfl, rfl, rfl⟩ := z; exact k)
theorem klX5_274 {P : nw_PT} {X : nw_EX} {cc : ByteArray} {nL : Nat} {σ : nw_ST} {lv : List (Nat × Value)} {pc : Nat} {rest : List Value} {a1 : Int32} {a2 : Int32} {a3 : Int32} (h : nw_ok P X cc RX5 nL) (hR : rm5_hoarseOf.frames + 1 ≤ X.2.2.2.1.frames ∧ 8 + (10 + 11) + rm5_hoarseOf.locals ≤ X.2.2.2.1.locals)  {K : Int64 → nw_ST → Prop} (hf : f5_hoarseOf K σ a1 a2 a3) (hst : (rest.map fun v => v.category).sum ≤ 8) (hd : decode cc pc = .ok (.invokevirtual 274, 3)) (k : ∀ (r : Int64) (s2 : nw_ST), K r s2 → nw_G P X nL s2 lv (pc + 3) (.long r :: rest)) : nw_G P X nL σ lv pc (.int a3 :: .int a2 :: .int a1 :: .ref (P.2.1 37) :: rest) :=
  nw_callV (As := [.int a1, .int a2, .int a3]) (rest := rest) (C := RX5) (ci := 5) h (ct5_hoarseOf _ P h.2.2 σ a1 a2 a3 K hf) (nw_goodV nw_w555 nw_w556 nw_w557 nw_w342 nw_w558) yd5_hoarseOf rfl hR ⟨rfl, rfl⟩ rfl (by decide) rfl rfl hst rfl hd (fun v s2 z => by obtain ⟨r, rfl, z⟩ := z; exact k r s2 z)
def f5_hoarse_44 (K : Int64 → nw_ST → Prop) (σ : nw_ST) (y0 : Int64) : Prop := (K y0 σ)
def f5_hoarse_39 (K : Int64 → nw_ST → Prop) (σ : nw_ST) : Prop := (f5_hoarse_44 K σ (v5_no (-2 : Int32)))
def f5_hoarse (K : Int64 → nw_ST → Prop) (σ : nw_ST) (a1 : Int32) (a2 : Int32) (a3 : Int32) : Prop := ((((v5_in a1 (0 : Int32) (16 : Int32)) = 0) → (f5_hoarse_39 K σ)) ∧ (¬ ((v5_in a1 (0 : Int32) (16 : Int32)) = 0) → ((((v5_in a2 (1 : Int32) (12 : Int32)) = 0) → (f5_hoarse_39 K σ)) ∧ (¬ ((v5_in a2 (1 : Int32) (12 : Int32)) = 0) → ((((v5_in a3 (0 : Int32) (1 : Int32)) = 0) → (f5_hoarse_39 K σ)) ∧ (¬ ((v5_in a3 (0 : Int32) (1 : Int32)) = 0) → (f5_hoarseOf (fun (r_33 : Int64) (s_33 : nw_ST) => (f5_hoarse_44 K s_33 r_33)) σ a1 a2 a3)))))))
def rm5_hoarse : Room := { frames := 9, cells := 0, slots := 0, locals := 209 }
theorem yd5_hoarse : yX5_hoarse.cls = RX5 ∧ yX5_hoarse.cls ≠ "java/lang/invoke/MethodHandle" ∧ yX5_hoarse.cls ≠ "java/lang/invoke/VarHandle" ∧ (parseMethodDescriptor yX5_hoarse.desc).map (fun d => d.parameters.length) = some 3 := by decide +kernel
set_option maxHeartbeats 4000000 in
set_option maxRecDepth 100000 in
theorem ct5_hoarse (l : Launch) (P : nw_PT) (hD : nw_D P) (σ : nw_ST) (a1 : Int32) (a2 : Int32) (a3 : Int32)  (K : Int64 → nw_ST → Prop) (hf : f5_hoarse K σ a1 a2 a3) : nw_MT l yX5_hoarse cX5_hoarse 4 (some .long) rm5_hoarse P [.ref (P.2.1 37), .int a1, .int a2, .int a3] σ (nw_Kl K) := by
  refine nw_enter (by decide) (by first | decide | exact Nat.le_of_ble_eq_true rfl) hD ?_
  intro X hl h he hR
  subst hl
  have h : nw_ok P X cX5_hoarse RX5 4 := h
  show nw_G P X 4 σ [(0, .ref (P.2.1 37)), (1, .int a1), (2, .int a2), (3, .int a3)] 0 []
  have hL_44 :  ∀ (σ : nw_ST) (y0 : Int64), f5_hoarse_44 K σ y0 → nw_G P X 4 σ [] 44 [.long y0] := by
    intro σ y0 hf
    unfold f5_hoarse_44 at hf
    exact nw_lret (pc := 44) h he dX5_hoarse_44 ⟨_, rfl, hf⟩
  have hL_39 :  ∀ (σ : nw_ST), f5_hoarse_39 K σ → nw_G P X 4 σ [] 39 [] := by
    intro σ hf
    unfold f5_hoarse_39 at hf
    refine nw_bipush (pc := 39) (v := -2) h dX5_hoarse_39 (by decide) ?_
    refine klX5_278 (pc := 41) h (by rw [hR]; decide) (Nat.le_of_ble_eq_true rfl) dX5_hoarse_41 ?_
    exact hL_44 _ _ (hf)
  unfold f5_hoarse at hf
  refine nw_iload_n (pc := 0) h dX5_hoarse_0 rfl 1 rfl ?_
  refine nw_iconst (pc := 1) (v := 0) h dX5_hoarse_1 (by decide) ?_
  refine nw_bipush (pc := 2) (v := 16) h dX5_hoarse_2 (by decide) ?_
  refine klX5_89 (pc := 4) h (by rw [hR]; decide) (Nat.le_of_ble_eq_true rfl) dX5_hoarse_4 ?_
  refine nw_if_eq (pc := 7) (tgt := 39) h dX5_hoarse_7 (by decide) (fun c_7 => ?_) (fun c_7 => ?_)
  · have hf := hf.1 c_7
    refine nw_sub (lv' := []) [] rfl ?_
    exact hL_39 _ (hf)
  · have hf := hf.2 c_7
    refine nw_iload_n (pc := 10) h dX5_hoarse_10 rfl 2 rfl ?_
    refine nw_iconst (pc := 11) (v := 1) h dX5_hoarse_11 (by decide) ?_
    refine nw_bipush (pc := 12) (v := 12) h dX5_hoarse_12 (by decide) ?_
    refine klX5_89 (pc := 14) h (by rw [hR]; decide) (Nat.le_of_ble_eq_true rfl) dX5_hoarse_14 ?_
    refine nw_if_eq (pc := 17) (tgt := 39) h dX5_hoarse_17 (by decide) (fun c_17 => ?_) (fun c_17 => ?_)
    · have hf := hf.1 c_17
      refine nw_sub (lv' := []) [] rfl ?_
      exact hL_39 _ (hf)
    · have hf := hf.2 c_17
      refine nw_iload_n (pc := 20) h dX5_hoarse_20 rfl 3 rfl ?_
      refine nw_iconst (pc := 21) (v := 0) h dX5_hoarse_21 (by decide) ?_
      refine nw_iconst (pc := 22) (v := 1) h dX5_hoarse_22 (by decide) ?_
      refine klX5_89 (pc := 23) h (by rw [hR]; decide) (Nat.le_of_ble_eq_true rfl) dX5_hoarse_23 ?_
      refine nw_if_eq (pc := 26) (tgt := 39) h dX5_hoarse_26 (by decide) (fun c_26 => ?_) (fun c_26 => ?_)
      · have hf := hf.1 c_26
        refine nw_sub (lv' := []) [] rfl ?_
        exact hL_39 _ (hf)
      · have hf := hf.2 c_26
        refine nw_aload_n (pc := 29) h dX5_hoarse_29 rfl 0 rfl ?_
        refine nw_iload_n (pc := 30) h dX5_hoarse_30 rfl 1 rfl ?_
        refine nw_iload_n (pc := 31) h dX5_hoarse_31 rfl 2 rfl ?_
        refine nw_iload_n (pc := 32) h dX5_hoarse_32 rfl 3 rfl ?_
        refine klX5_274 (pc := 33) h (by rw [hR]; decide) hf (Nat.le_of_ble_eq_true rfl) dX5_hoarse_33 (fun r_33 s_33 hf => ?_)
        refine nw_goto (pc := 36) (tgt := 44) h dX5_hoarse_36 (by decide) ?_
        refine nw_sub (lv' := []) [] rfl ?_
        exact hL_44 _ _ (hf)
def f5_stormOf_102 (K : Int32 → nw_ST → Prop) (σ : nw_ST) (y0 : Int32) : Prop := (K y0 σ)
def f5_stormOf_82 (K : Int32 → nw_ST → Prop) (H_16 : nw_ST → Int32 → Int32 → Int32 → Int32 → Int32 → Int32 → Prop) (σ : nw_ST) (x2 : Int32) (x3 : Int32) (x4 : Int32) (x5 : Int32) (x7 : Int32) (y0 : Int32) (y1 : Int32) : Prop := (H_16 σ x2 x3 x4 x5 (y1 + y0) (x7 + (1 : Int32)))
def f5_stormOf_67 (K : Int32 → nw_ST → Prop) (H_16 : nw_ST → Int32 → Int32 → Int32 → Int32 → Int32 → Int32 → Prop) (σ : nw_ST) (x2 : Int32) (x3 : Int32) (x4 : Int32) (x6 : Int32) (x7 : Int32) (x8 : Int32) (y0 : Int32) (y1 : Int32) : Prop := (f5_stormOf_82 K H_16 σ x2 x3 x4 (y1 + y0) x7 (if (x8 ≤ 0) then (0 : Int32) else (1 : Int32)) x6)
def b5_stormOf_16 (K : Int32 → nw_ST → Prop) (H_16 : nw_ST → Int32 → Int32 → Int32 → Int32 → Int32 → Int32 → Prop) (σ : nw_ST) (x2 : Int32) (x3 : Int32) (x4 : Int32) (x5 : Int32) (x6 : Int32) (x7 : Int32) : Prop := (((x2 ≤ x7) → (f5_stormOf_102 K σ (if (x3 = 0) then x5 else x6))) ∧ (¬ (x2 ≤ x7) → ((vp_in (nw_rem (nw_ushr (((1103515245 : Int32) * x4) + (12345 : Int32)) (16 : Int32)) (240 : Int32)) 240) ∧ ((((nw_gA σ 53 (nw_rem (nw_ushr (((1103515245 : Int32) * x4) + (12345 : Int32)) (16 : Int32)) (240 : Int32)).toNatClampNeg) ≤ 0) → (f5_stormOf_67 K H_16 σ x2 x3 (((1103515245 : Int32) * x4) + (12345 : Int32)) x6 x7 (nw_gA σ 53 (nw_rem (nw_ushr (((1103515245 : Int32) * x4) + (12345 : Int32)) (16 : Int32)) (240 : Int32)).toNatClampNeg) (0 : Int32) x5)) ∧ (¬ ((nw_gA σ 53 (nw_rem (nw_ushr (((1103515245 : Int32) * x4) + (12345 : Int32)) (16 : Int32)) (240 : Int32)).toNatClampNeg) ≤ 0) → (f5_bringsNow (fun (r_60 : Int32) (s_60 : nw_ST) => (f5_stormOf_67 K H_16 s_60 x2 x3 (((1103515245 : Int32) * x4) + (12345 : Int32)) x6 x7 (nw_gA σ 53 (nw_rem (nw_ushr (((1103515245 : Int32) * x4) + (12345 : Int32)) (16 : Int32)) (240 : Int32)).toNatClampNeg) r_60 x5)) σ (nw_gA σ 53 (nw_rem (nw_ushr (((1103515245 : Int32) * x4) + (12345 : Int32)) (16 : Int32)) (240 : Int32)).toNatClampNeg)))))))
def f5_stormOf_16 (K : Int32 → nw_ST → Prop) : Nat → nw_ST → Int32 → Int32 → Int32 → Int32 → Int32 → Int32 → Prop
  | 0 => fun _ _ _ _ _ _ _ => False
  | n + 1 => b5_stormOf_16 K (f5_stormOf_16 K n)
def f5_stormOf (K : Int32 → nw_ST → Prop) (σ : nw_ST) (a1 : Int32) (a2 : Int32) (a3 : Int32) : Prop := (f5_laysTold (fun (s_1 : nw_ST) => (∃ n, f5_stormOf_16 K n s_1 a2 a3 a1 (0 : Int32) (0 : Int32) (0 : Int32))) σ)
def rm5_stormOf : Room := { frames := 8, cells := 0, slots := 0, locals := 180 }
theorem yd5_stormOf : yX5_stormOf.cls = RX5 ∧ yX5_stormOf.cls ≠ "java/lang/invoke/MethodHandle" ∧ yX5_stormOf.cls ≠ "java/lang/invoke/VarHandle" ∧ (parseMethodDescriptor yX5_stormOf.desc).map (fun d => d.parameters.length) = some 3 := by decide +kernel
set_option maxHeartbeats 4000000 in
set_option maxRecDepth 100000 in
theorem ct5_stormOf (l : Launch) (P : nw_PT) (hD : nw_D P) (σ : nw_ST) (a1 : Int32) (a2 : Int32) (a3 : Int32)  (K : Int32 → nw_ST → Prop) (hf : f5_stormOf K σ a1 a2 a3) : nw_MT l yX5_stormOf cX5_stormOf 9 (some .int) rm5_stormOf P [.ref (P.2.1 37), .int a1, .int a2, .int a3] σ (nw_Ki K) := by
  refine nw_enter (by decide) (by first | decide | exact Nat.le_of_ble_eq_true rfl) hD ?_
  intro X hl h he hR
  subst hl
  have h : nw_ok P X cX5_stormOf RX5 9 := h
  show nw_G P X 9 σ [(0, .ref (P.2.1 37)), (1, .int a1), (2, .int a2), (3, .int a3)] 0 []
  have hL_102 :  ∀ (σ : nw_ST) (y0 : Int32), f5_stormOf_102 K σ y0 → nw_G P X 9 σ [] 102 [.int y0] := by
    intro σ y0 hf
    unfold f5_stormOf_102 at hf
    exact nw_iret (pc := 102) h he dX5_stormOf_102 ⟨_, rfl, hf⟩
  have hL_82 : ∀ (H_16 : nw_ST → Int32 → Int32 → Int32 → Int32 → Int32 → Int32 → Prop) (hH_16 : (∀ (σ : nw_ST) (x2 : Int32) (x3 : Int32) (x4 : Int32) (x5 : Int32) (x6 : Int32) (x7 : Int32), H_16 σ x2 x3 x4 x5 x6 x7 → nw_G P X 9 σ [(0, .ref (P.2.1 37)), (2, .int x2), (3, .int x3), (4, .int x4), (5, .int x5), (6, .int x6), (7, .int x7)] 16 [])), ∀ (σ : nw_ST) (x2 : Int32) (x3 : Int32) (x4 : Int32) (x5 : Int32) (x7 : Int32) (y0 : Int32) (y1 : Int32), f5_stormOf_82 K H_16 σ x2 x3 x4 x5 x7 y0 y1 → nw_G P X 9 σ [(0, .ref (P.2.1 37)), (2, .int x2), (3, .int x3), (4, .int x4), (5, .int x5), (7, .int x7)] 82 [.int y0, .int y1] := by
    intro H_16 hH_16 σ x2 x3 x4 x5 x7 y0 y1 hf
    unfold f5_stormOf_82 at hf
    refine nw_iadd (pc := 82) h dX5_stormOf_82 ?_
    refine nw_istore (pc := 83) (lv' := [(6, .int (y1 + y0)), (0, .ref (P.2.1 37)), (2, .int x2), (3, .int x3), (4, .int x4), (5, .int x5), (7, .int x7)]) h dX5_stormOf_83 (by decide) rfl ?_
    refine nw_iinc (pc := 85) (v := (x7 + (1 : Int32))) (lv' := [(7, .int (x7 + (1 : Int32))), (6, .int (y1 + y0)), (0, .ref (P.2.1 37)), (2, .int x2), (3, .int x3), (4, .int x4), (5, .int x5)]) h dX5_stormOf_85 (j := 6) rfl rfl (by decide) rfl ?_
    refine nw_goto (pc := 88) (tgt := 16) h dX5_stormOf_88 (by decide) ?_
    refine nw_sub (lv' := [(0, .ref (P.2.1 37)), (2, .int x2), (3, .int x3), (4, .int x4), (5, .int x5), (6, .int (y1 + y0)), (7, .int (x7 + (1 : Int32)))]) [2, 3, 4, 5, 6, 1, 0] rfl ?_
    exact hH_16 _ _ _ _ _ _ _ (hf)
  have hL_67 : ∀ (H_16 : nw_ST → Int32 → Int32 → Int32 → Int32 → Int32 → Int32 → Prop) (hH_16 : (∀ (σ : nw_ST) (x2 : Int32) (x3 : Int32) (x4 : Int32) (x5 : Int32) (x6 : Int32) (x7 : Int32), H_16 σ x2 x3 x4 x5 x6 x7 → nw_G P X 9 σ [(0, .ref (P.2.1 37)), (2, .int x2), (3, .int x3), (4, .int x4), (5, .int x5), (6, .int x6), (7, .int x7)] 16 [])), ∀ (σ : nw_ST) (x2 : Int32) (x3 : Int32) (x4 : Int32) (x6 : Int32) (x7 : Int32) (x8 : Int32) (y0 : Int32) (y1 : Int32), f5_stormOf_67 K H_16 σ x2 x3 x4 x6 x7 x8 y0 y1 → nw_G P X 9 σ [(0, .ref (P.2.1 37)), (2, .int x2), (3, .int x3), (4, .int x4), (6, .int x6), (7, .int x7), (8, .int x8)] 67 [.int y0, .int y1] := by
    intro H_16 hH_16 σ x2 x3 x4 x6 x7 x8 y0 y1 hf
    unfold f5_stormOf_67 at hf
    refine nw_iadd (pc := 67) h dX5_stormOf_67 ?_
    refine nw_istore (pc := 68) (lv' := [(5, .int (y1 + y0)), (0, .ref (P.2.1 37)), (2, .int x2), (3, .int x3), (4, .int x4), (6, .int x6), (7, .int x7), (8, .int x8)]) h dX5_stormOf_68 (by decide) rfl ?_
    refine nw_iload (pc := 70) h dX5_stormOf_70 5 rfl ?_
    refine nw_iload (pc := 72) h dX5_stormOf_72 7 rfl ?_
    refine nw_if_le (pc := 74) (tgt := 81) h dX5_stormOf_74 (by decide) (fun c_74 => ?_) (fun c_74 => ?_)
    · skip
      refine nw_iconst (pc := 81) (v := 0) h dX5_stormOf_81 (by decide) ?_
      simp only [if_pos c_74] at hf
      refine nw_sub (lv' := [(0, .ref (P.2.1 37)), (2, .int x2), (3, .int x3), (4, .int x4), (5, .int (y1 + y0)), (7, .int x7)]) [1, 2, 3, 4, 0, 6] rfl ?_
      exact hL_82 H_16 hH_16 _ _ _ _ _ _ _ _ hf
    · skip
      refine nw_iconst (pc := 77) (v := 1) h dX5_stormOf_77 (by decide) ?_
      refine nw_goto (pc := 78) (tgt := 82) h dX5_stormOf_78 (by decide) ?_
      simp only [if_neg c_74] at hf
      refine nw_sub (lv' := [(0, .ref (P.2.1 37)), (2, .int x2), (3, .int x3), (4, .int x4), (5, .int (y1 + y0)), (7, .int x7)]) [1, 2, 3, 4, 0, 6] rfl ?_
      exact hL_82 H_16 hH_16 _ _ _ _ _ _ _ _ hf
  have hB_16 : ∀ (H_16 : nw_ST → Int32 → Int32 → Int32 → Int32 → Int32 → Int32 → Prop) (hH_16 : (∀ (σ : nw_ST) (x2 : Int32) (x3 : Int32) (x4 : Int32) (x5 : Int32) (x6 : Int32) (x7 : Int32), H_16 σ x2 x3 x4 x5 x6 x7 → nw_G P X 9 σ [(0, .ref (P.2.1 37)), (2, .int x2), (3, .int x3), (4, .int x4), (5, .int x5), (6, .int x6), (7, .int x7)] 16 [])), ∀ (σ : nw_ST) (x2 : Int32) (x3 : Int32) (x4 : Int32) (x5 : Int32) (x6 : Int32) (x7 : Int32), b5_stormOf_16 K H_16 σ x2 x3 x4 x5 x6 x7 → nw_G P X 9 σ [(0, .ref (P.2.1 37)), (2, .int x2), (3, .int x3), (4, .int x4), (5, .int x5), (6, .int x6), (7, .int x7)] 16 [] := by
    intro H_16 hH_16 σ x2 x3 x4 x5 x6 x7 hf
    unfold b5_stormOf_16 at hf
    refine nw_iload (pc := 16) h dX5_stormOf_16 6 rfl ?_
    refine nw_iload_n (pc := 18) h dX5_stormOf_18 rfl 1 rfl ?_
    refine nw_icmp_ge (pc := 19) (tgt := 91) h dX5_stormOf_19 (by decide) (fun c_19 => ?_) (fun c_19 => ?_)
    · have hf := hf.1 c_19
      refine nw_iload_n (pc := 91) h dX5_stormOf_91 rfl 2 rfl ?_
      refine nw_if_ne (pc := 92) (tgt := 100) h dX5_stormOf_92 (by decide) (fun c_92 => ?_) (fun c_92 => ?_)
      · skip
        refine nw_iload (pc := 100) h dX5_stormOf_100 5 rfl ?_
        simp only [if_neg c_92] at hf
        refine nw_sub (lv' := []) [] rfl ?_
        exact hL_102 _ _ hf
      · skip
        refine nw_iload (pc := 95) h dX5_stormOf_95 4 rfl ?_
        refine nw_goto (pc := 97) (tgt := 102) h dX5_stormOf_97 (by decide) ?_
        simp only [if_pos c_92] at hf
        refine nw_sub (lv' := []) [] rfl ?_
        exact hL_102 _ _ hf
    · have hf := hf.2 c_19
      refine nw_ldcw (pc := 22) h nw_w559 dX5_stormOf_22 ?_
      refine nw_iload (pc := 25) h dX5_stormOf_25 3 rfl ?_
      refine nw_imul (pc := 27) h dX5_stormOf_27 ?_
      refine nw_sipush (pc := 28) (v := 12345) h dX5_stormOf_28 (by decide) ?_
      refine nw_iadd (pc := 31) h dX5_stormOf_31 ?_
      refine nw_istore (pc := 32) (lv' := [(4, .int (((1103515245 : Int32) * x4) + (12345 : Int32))), (0, .ref (P.2.1 37)), (2, .int x2), (3, .int x3), (5, .int x5), (6, .int x6), (7, .int x7)]) h dX5_stormOf_32 (by decide) rfl ?_
      refine nw_aload_n (pc := 34) h dX5_stormOf_34 rfl 1 rfl ?_
      refine gf5_55 (pc := 35) (r := 53) h rfl rfl dX5_stormOf_35 ?_
      refine nw_iload (pc := 38) h dX5_stormOf_38 0 rfl ?_
      refine nw_bipush (pc := 40) (v := 16) h dX5_stormOf_40 (by decide) ?_
      refine nw_iushr (pc := 42) h dX5_stormOf_42 ?_
      refine nw_sipush (pc := 43) (v := 240) h dX5_stormOf_43 (by decide) ?_
      refine nw_irem (pc := 46) h dX5_stormOf_46 (by decide) ?_
      obtain ⟨h_47, hf⟩ := hf
      refine nw_iald (pc := 47) (n := 240) h rfl rfl h_47 dX5_stormOf_47 ?_
      refine nw_istore (pc := 48) (lv' := [(8, .int (nw_gA σ 53 (nw_rem (nw_ushr (((1103515245 : Int32) * x4) + (12345 : Int32)) (16 : Int32)) (240 : Int32)).toNatClampNeg)), (4, .int (((1103515245 : Int32) * x4) + (12345 : Int32))), (0, .ref (P.2.1 37)), (2, .int x2), (3, .int x3), (5, .int x5), (6, .int x6), (7, .int x7)]) h dX5_stormOf_48 (by decide) rfl ?_
      refine nw_iload (pc := 50) h dX5_stormOf_50 5 rfl ?_
      refine nw_iload (pc := 52) h dX5_stormOf_52 0 rfl ?_
      refine nw_if_le (pc := 54) (tgt := 66) h dX5_stormOf_54 (by decide) (fun c_54 => ?_) (fun c_54 => ?_)
      · have hf := hf.1 c_54
        refine nw_iconst (pc := 66) (v := 0) h dX5_stormOf_66 (by decide) ?_
        refine nw_sub (lv' := [(0, .ref (P.2.1 37)), (2, .int x2), (3, .int x3), (4, .int (((1103515245 : Int32) * x4) + (12345 : Int32))), (6, .int x6), (7, .int x7), (8, .int (nw_gA σ 53 (nw_rem (nw_ushr (((1103515245 : Int32) * x4) + (12345 : Int32)) (16 : Int32)) (240 : Int32)).toNatClampNeg))]) [2, 3, 4, 1, 6, 7, 0] rfl ?_
        exact hL_67 H_16 hH_16 _ _ _ _ _ _ _ _ _ (hf)
      · have hf := hf.2 c_54
        refine nw_aload_n (pc := 57) h dX5_stormOf_57 rfl 2 rfl ?_
        refine nw_iload (pc := 58) h dX5_stormOf_58 0 rfl ?_
        refine klX5_216 (pc := 60) h (by rw [hR]; decide) hf (Nat.le_of_ble_eq_true rfl) dX5_stormOf_60 (fun r_60 s_60 hf => ?_)
        refine nw_goto (pc := 63) (tgt := 67) h dX5_stormOf_63 (by decide) ?_
        refine nw_sub (lv' := [(0, .ref (P.2.1 37)), (2, .int x2), (3, .int x3), (4, .int (((1103515245 : Int32) * x4) + (12345 : Int32))), (6, .int x6), (7, .int x7), (8, .int (nw_gA σ 53 (nw_rem (nw_ushr (((1103515245 : Int32) * x4) + (12345 : Int32)) (16 : Int32)) (240 : Int32)).toNatClampNeg))]) [2, 3, 4, 1, 6, 7, 0] rfl ?_
        exact hL_67 H_16 hH_16 _ _ _ _ _ _ _ _ _ (hf)
  have hL_16 :  ∀ (n : Nat) (σ : nw_ST) (x2 : Int32) (x3 : Int32) (x4 : Int32) (x5 : Int32) (x6 : Int32) (x7 : Int32), f5_stormOf_16 K n σ x2 x3 x4 x5 x6 x7 → nw_G P X 9 σ [(0, .ref (P.2.1 37)), (2, .int x2), (3, .int x3), (4, .int x4), (5, .int x5), (6, .int x6), (7, .int x7)] 16 [] := by
    intro n
    induction n with
    | zero => intro σ x2 x3 x4 x5 x6 x7 hf; exact False.elim hf
    | succ n ih => exact hB_16 _ ih
  unfold f5_stormOf at hf
  refine nw_aload_n (pc := 0) h dX5_stormOf_0 rfl 0 rfl ?_
  refine klX5_198 (pc := 1) h (by rw [hR]; decide) hf (Nat.le_of_ble_eq_true rfl) dX5_stormOf_1 (fun s_1 hf => ?_)
  refine nw_iload_n (pc := 4) h dX5_stormOf_4 rfl 1 rfl ?_
  refine nw_istore (pc := 5) (lv' := [(4, .int a1), (0, .ref (P.2.1 37)), (1, .int a1), (2, .int a2), (3, .int a3)]) h dX5_stormOf_5 (by decide) rfl ?_
  refine nw_iconst (pc := 7) (v := 0) h dX5_stormOf_7 (by decide) ?_
  refine nw_istore (pc := 8) (lv' := [(5, .int (0 : Int32)), (4, .int a1), (0, .ref (P.2.1 37)), (1, .int a1), (2, .int a2), (3, .int a3)]) h dX5_stormOf_8 (by decide) rfl ?_
  refine nw_iconst (pc := 10) (v := 0) h dX5_stormOf_10 (by decide) ?_
  refine nw_istore (pc := 11) (lv' := [(6, .int (0 : Int32)), (5, .int (0 : Int32)), (4, .int a1), (0, .ref (P.2.1 37)), (1, .int a1), (2, .int a2), (3, .int a3)]) h dX5_stormOf_11 (by decide) rfl ?_
  refine nw_iconst (pc := 13) (v := 0) h dX5_stormOf_13 (by decide) ?_
  refine nw_istore (pc := 14) (lv' := [(7, .int (0 : Int32)), (6, .int (0 : Int32)), (5, .int (0 : Int32)), (4, .int a1), (0, .ref (P.2.1 37)), (1, .int a1), (2, .int a2), (3, .int a3)]) h dX5_stormOf_14 (by decide) rfl ?_
  obtain ⟨n_16, hf⟩ := hf
  refine nw_sub (lv' := [(0, .ref (P.2.1 37)), (2, .int a2), (3, .int a3), (4, .int a1), (5, .int (0 : Int32)), (6, .int (0 : Int32)), (7, .int (0 : Int32))]) [4, 6, 7, 3, 2, 1, 0] rfl ?_
  exact hL_16 n_16 _ _ _ _ _ _ _ hf
theorem klX5_283 {P : nw_PT} {X : nw_EX} {cc : ByteArray} {nL : Nat} {σ : nw_ST} {lv : List (Nat × Value)} {pc : Nat} {rest : List Value} {a1 : Int32} {a2 : Int32} {a3 : Int32} (h : nw_ok P X cc RX5 nL) (hR : rm5_stormOf.frames + 1 ≤ X.2.2.2.1.frames ∧ 8 + (9 + 11) + rm5_stormOf.locals ≤ X.2.2.2.1.locals)  {K : Int32 → nw_ST → Prop} (hf : f5_stormOf K σ a1 a2 a3) (hst : (rest.map fun v => v.category).sum ≤ 8) (hd : decode cc pc = .ok (.invokevirtual 283, 3)) (k : ∀ (r : Int32) (s2 : nw_ST), K r s2 → nw_G P X nL s2 lv (pc + 3) (.int r :: rest)) : nw_G P X nL σ lv pc (.int a3 :: .int a2 :: .int a1 :: .ref (P.2.1 37) :: rest) :=
  nw_callV (As := [.int a1, .int a2, .int a3]) (rest := rest) (C := RX5) (ci := 5) h (ct5_stormOf _ P h.2.2 σ a1 a2 a3 K hf) (nw_goodV nw_w560 nw_w561 nw_w562 nw_w342 nw_w563) yd5_stormOf rfl hR ⟨rfl, rfl⟩ rfl (by decide) rfl rfl hst rfl hd (fun v s2 z => by obtain ⟨r, rfl, z⟩ := z; exact k r s2 z)
def f5_storm_31 (K : Int32 → nw_ST → Prop) (σ : nw_ST) (y0 : Int32) : Prop := (K y0 σ)
def f5_storm_29 (K : Int32 → nw_ST → Prop) (σ : nw_ST) : Prop := (f5_storm_31 K σ (-2 : Int32))
def f5_storm (K : Int32 → nw_ST → Prop) (σ : nw_ST) (a1 : Int32) (a2 : Int32) (a3 : Int32) : Prop := ((((v5_in a2 (1 : Int32) (99 : Int32)) = 0) → (f5_storm_29 K σ)) ∧ (¬ ((v5_in a2 (1 : Int32) (99 : Int32)) = 0) → ((((v5_in a3 (0 : Int32) (1 : Int32)) = 0) → (f5_storm_29 K σ)) ∧ (¬ ((v5_in a3 (0 : Int32) (1 : Int32)) = 0) → (f5_stormOf (fun (r_23 : Int32) (s_23 : nw_ST) => (f5_storm_31 K s_23 r_23)) σ a1 a2 a3)))))
def rm5_storm : Room := { frames := 9, cells := 0, slots := 0, locals := 208 }
theorem yd5_storm : yX5_storm.cls = RX5 ∧ yX5_storm.cls ≠ "java/lang/invoke/MethodHandle" ∧ yX5_storm.cls ≠ "java/lang/invoke/VarHandle" ∧ (parseMethodDescriptor yX5_storm.desc).map (fun d => d.parameters.length) = some 3 := by decide +kernel
set_option maxHeartbeats 4000000 in
set_option maxRecDepth 100000 in
theorem ct5_storm (l : Launch) (P : nw_PT) (hD : nw_D P) (σ : nw_ST) (a1 : Int32) (a2 : Int32) (a3 : Int32)  (K : Int32 → nw_ST → Prop) (hf : f5_storm K σ a1 a2 a3) : nw_MT l yX5_storm cX5_storm 4 (some .int) rm5_storm P [.ref (P.2.1 37), .int a1, .int a2, .int a3] σ (nw_Ki K) := by
  refine nw_enter (by decide) (by first | decide | exact Nat.le_of_ble_eq_true rfl) hD ?_
  intro X hl h he hR
  subst hl
  have h : nw_ok P X cX5_storm RX5 4 := h
  show nw_G P X 4 σ [(0, .ref (P.2.1 37)), (1, .int a1), (2, .int a2), (3, .int a3)] 0 []
  have hL_31 :  ∀ (σ : nw_ST) (y0 : Int32), f5_storm_31 K σ y0 → nw_G P X 4 σ [] 31 [.int y0] := by
    intro σ y0 hf
    unfold f5_storm_31 at hf
    exact nw_iret (pc := 31) h he dX5_storm_31 ⟨_, rfl, hf⟩
  have hL_29 :  ∀ (σ : nw_ST), f5_storm_29 K σ → nw_G P X 4 σ [] 29 [] := by
    intro σ hf
    unfold f5_storm_29 at hf
    refine nw_bipush (pc := 29) (v := -2) h dX5_storm_29 (by decide) ?_
    exact hL_31 _ _ (hf)
  unfold f5_storm at hf
  refine nw_iload_n (pc := 0) h dX5_storm_0 rfl 2 rfl ?_
  refine nw_iconst (pc := 1) (v := 1) h dX5_storm_1 (by decide) ?_
  refine nw_bipush (pc := 2) (v := 99) h dX5_storm_2 (by decide) ?_
  refine klX5_89 (pc := 4) h (by rw [hR]; decide) (Nat.le_of_ble_eq_true rfl) dX5_storm_4 ?_
  refine nw_if_eq (pc := 7) (tgt := 29) h dX5_storm_7 (by decide) (fun c_7 => ?_) (fun c_7 => ?_)
  · have hf := hf.1 c_7
    refine nw_sub (lv' := []) [] rfl ?_
    exact hL_29 _ (hf)
  · have hf := hf.2 c_7
    refine nw_iload_n (pc := 10) h dX5_storm_10 rfl 3 rfl ?_
    refine nw_iconst (pc := 11) (v := 0) h dX5_storm_11 (by decide) ?_
    refine nw_iconst (pc := 12) (v := 1) h dX5_storm_12 (by decide) ?_
    refine klX5_89 (pc := 13) h (by rw [hR]; decide) (Nat.le_of_ble_eq_true rfl) dX5_storm_13 ?_
    refine nw_if_eq (pc := 16) (tgt := 29) h dX5_storm_16 (by decide) (fun c_16 => ?_) (fun c_16 => ?_)
    · have hf := hf.1 c_16
      refine nw_sub (lv' := []) [] rfl ?_
      exact hL_29 _ (hf)
    · have hf := hf.2 c_16
      refine nw_aload_n (pc := 19) h dX5_storm_19 rfl 0 rfl ?_
      refine nw_iload_n (pc := 20) h dX5_storm_20 rfl 1 rfl ?_
      refine nw_iload_n (pc := 21) h dX5_storm_21 rfl 2 rfl ?_
      refine nw_iload_n (pc := 22) h dX5_storm_22 rfl 3 rfl ?_
      refine klX5_283 (pc := 23) h (by rw [hR]; decide) hf (Nat.le_of_ble_eq_true rfl) dX5_storm_23 (fun r_23 s_23 hf => ?_)
      refine nw_goto (pc := 26) (tgt := 31) h dX5_storm_26 (by decide) ?_
      refine nw_sub (lv' := []) [] rfl ?_
      exact hL_31 _ _ (hf)
theorem gf5_75 {P : nw_PT} {X : nw_EX} {cc : ByteArray} {nL : Nat} {σ : nw_ST} {lv : List (Nat × Value)} {pc : Nat} {st : List Value} {q : Nat} (h : nw_ok P X cc RX5 nL) (hq : nw_cl q = 5) {r : Nat} (hr : nw_rf q 33 = r) (hd : decode cc pc = .ok (.getfield 75, 3)) (k : nw_G P X nL σ lv (pc + 3) (.ref (P.2.1 r) :: st)) : nw_G P X nL σ lv pc (.ref (P.2.1 q) :: st) := by
  subst hr; intro H locs ls h1 h2 h3
  exact va_get (D := P.1) (ci := 5) (C := RX5) (T := TX5) (N := 38) h.1.1 h.1.2.1 h.1.2.2.2.2 in_T5 h.1.2.2.2.1 h.2.1.1 h1 q (nw_at5 hq) rfl 33 (by decide) (h.1.2.2.2.2 _ nw_w564) (fun _ z => z) rfl hd (k H locs ls h1 h2 h3)
def f5_sheet_22 (K : Int32 → nw_ST → Prop) (σ : nw_ST) : Prop := (K (-2 : Int32) σ)
def b5_sheet_59 (K : Int32 → nw_ST → Prop) (H_59 : nw_ST → Int32 → Int32 → Int32 → Prop) (σ : nw_ST) (x1 : Int32) (x3 : Int32) (x4 : Int32) : Prop := ((((48 : Int32) ≤ x4) → (K x3 σ)) ∧ (¬ ((48 : Int32) ≤ x4) → ((vp_in (((48 : Int32) * x1) + x4) 192) ∧ (H_59 (nw_sA σ 61 (((48 : Int32) * x1) + x4).toNatClampNeg (0 : Int32)) x1 x3 (x4 + (1 : Int32))))))
def f5_sheet_59 (K : Int32 → nw_ST → Prop) : Nat → nw_ST → Int32 → Int32 → Int32 → Prop
  | 0 => fun _ _ _ _ => False
  | n + 1 => b5_sheet_59 K (f5_sheet_59 K n)
def f5_sheet (K : Int32 → nw_ST → Prop) (σ : nw_ST) (a1 : Int32) (a2 : Int32) (a3 : Int32) : Prop := ((((v5_isSheet a1) = 0) → (f5_sheet_22 K σ)) ∧ (¬ ((v5_isSheet a1) = 0) → ((((v5_in a2 (0 : Int32) (2 : Int32)) = 0) → (f5_sheet_22 K σ)) ∧ (¬ ((v5_in a2 (0 : Int32) (2 : Int32)) = 0) → (((a3 ≤ (48 : Int32)) → (((0 ≤ a3) → ((vp_in a1 4) ∧ ((vp_in a1 4) ∧ ((vp_in a1 4) ∧ (∃ n, f5_sheet_59 K n (nw_sA (nw_sA (nw_sA σ 58 a1.toNatClampNeg (1 : Int32)) 59 a1.toNatClampNeg a2) 60 a1.toNatClampNeg a3) a1 a3 (0 : Int32)))))) ∧ (¬ (0 ≤ a3) → (f5_meets (fun (r_31 : Int32) (s_31 : nw_ST) => (K r_31 s_31)) σ (5 : Int32))))) ∧ (¬ (a3 ≤ (48 : Int32)) → (f5_sheet_22 K σ)))))))
def rm5_sheet : Room := { frames := 2, cells := 0, slots := 0, locals := 42 }
theorem yd5_sheet : yX5_sheet.cls = RX5 ∧ yX5_sheet.cls ≠ "java/lang/invoke/MethodHandle" ∧ yX5_sheet.cls ≠ "java/lang/invoke/VarHandle" ∧ (parseMethodDescriptor yX5_sheet.desc).map (fun d => d.parameters.length) = some 3 := by decide +kernel
set_option maxHeartbeats 4000000 in
set_option maxRecDepth 100000 in
theorem ct5_sheet (l : Launch) (P : nw_PT) (hD : nw_D P) (σ : nw_ST) (a1 : Int32) (a2 : Int32) (a3 : Int32)  (K : Int32 → nw_ST → Prop) (hf : f5_sheet K σ a1 a2 a3) : nw_MT l yX5_sheet cX5_sheet 5 (some .int) rm5_sheet P [.ref (P.2.1 37), .int a1, .int a2, .int a3] σ (nw_Ki K) := by
  refine nw_enter (by decide) (by first | decide | exact Nat.le_of_ble_eq_true rfl) hD ?_
  intro X hl h he hR
  subst hl
  have h : nw_ok P X cX5_sheet RX5 5 := h
  show nw_G P X 5 σ [(0, .ref (P.2.1 37)), (1, .int a1), (2, .int a2), (3, .int a3)] 0 []
  have hL_22 :  ∀ (σ : nw_ST), f5_sheet_22 K σ → nw_G P X 5 σ [] 22 [] := by
    intro σ hf
    unfold f5_sheet_22 at hf
    refine nw_bipush (pc := 22) (v := -2) h dX5_sheet_22 (by decide) ?_
    exact nw_iret (pc := 24) h he dX5_sheet_24 ⟨_, rfl, hf⟩
  have hB_59 : ∀ (H_59 : nw_ST → Int32 → Int32 → Int32 → Prop) (hH_59 : (∀ (σ : nw_ST) (x1 : Int32) (x3 : Int32) (x4 : Int32), H_59 σ x1 x3 x4 → nw_G P X 5 σ [(0, .ref (P.2.1 37)), (1, .int x1), (3, .int x3), (4, .int x4)] 59 [])), ∀ (σ : nw_ST) (x1 : Int32) (x3 : Int32) (x4 : Int32), b5_sheet_59 K H_59 σ x1 x3 x4 → nw_G P X 5 σ [(0, .ref (P.2.1 37)), (1, .int x1), (3, .int x3), (4, .int x4)] 59 [] := by
    intro H_59 hH_59 σ x1 x3 x4 hf
    unfold b5_sheet_59 at hf
    refine nw_iload (pc := 59) h dX5_sheet_59 3 rfl ?_
    refine nw_bipush (pc := 61) (v := 48) h dX5_sheet_61 (by decide) ?_
    refine nw_icmp_ge (pc := 63) (tgt := 85) h dX5_sheet_63 (by decide) (fun c_63 => ?_) (fun c_63 => ?_)
    · have hf := hf.1 c_63
      refine nw_iload_n (pc := 85) h dX5_sheet_85 rfl 2 rfl ?_
      exact nw_iret (pc := 86) h he dX5_sheet_86 ⟨_, rfl, hf⟩
    · have hf := hf.2 c_63
      refine nw_aload_n (pc := 66) h dX5_sheet_66 rfl 0 rfl ?_
      refine gf5_81 (pc := 67) (r := 61) h rfl rfl dX5_sheet_67 ?_
      refine nw_bipush (pc := 70) (v := 48) h dX5_sheet_70 (by decide) ?_
      refine nw_iload_n (pc := 72) h dX5_sheet_72 rfl 1 rfl ?_
      refine nw_imul (pc := 73) h dX5_sheet_73 ?_
      refine nw_iload (pc := 74) h dX5_sheet_74 3 rfl ?_
      refine nw_iadd (pc := 76) h dX5_sheet_76 ?_
      refine nw_iconst (pc := 77) (v := 0) h dX5_sheet_77 (by decide) ?_
      obtain ⟨h_78, hf⟩ := hf
      refine nw_iast (pc := 78) (n := 192) h rfl rfl h_78 dX5_sheet_78 ?_
      refine nw_iinc (pc := 79) (v := (x4 + (1 : Int32))) (lv' := [(4, .int (x4 + (1 : Int32))), (0, .ref (P.2.1 37)), (1, .int x1), (3, .int x3)]) h dX5_sheet_79 (j := 3) rfl rfl (by decide) rfl ?_
      refine nw_goto (pc := 82) (tgt := 59) h dX5_sheet_82 (by decide) ?_
      refine nw_sub (lv' := [(0, .ref (P.2.1 37)), (1, .int x1), (3, .int x3), (4, .int (x4 + (1 : Int32)))]) [1, 2, 3, 0] rfl ?_
      exact hH_59 _ _ _ _ (hf)
  have hL_59 :  ∀ (n : Nat) (σ : nw_ST) (x1 : Int32) (x3 : Int32) (x4 : Int32), f5_sheet_59 K n σ x1 x3 x4 → nw_G P X 5 σ [(0, .ref (P.2.1 37)), (1, .int x1), (3, .int x3), (4, .int x4)] 59 [] := by
    intro n
    induction n with
    | zero => intro σ x1 x3 x4 hf; exact False.elim hf
    | succ n ih => exact hB_59 _ ih
  unfold f5_sheet at hf
  refine nw_iload_n (pc := 0) h dX5_sheet_0 rfl 1 rfl ?_
  refine klX5_155 (pc := 1) h (by rw [hR]; decide) (Nat.le_of_ble_eq_true rfl) dX5_sheet_1 ?_
  refine nw_if_eq (pc := 4) (tgt := 22) h dX5_sheet_4 (by decide) (fun c_4 => ?_) (fun c_4 => ?_)
  · have hf := hf.1 c_4
    refine nw_sub (lv' := []) [] rfl ?_
    exact hL_22 _ (hf)
  · have hf := hf.2 c_4
    refine nw_iload_n (pc := 7) h dX5_sheet_7 rfl 2 rfl ?_
    refine nw_iconst (pc := 8) (v := 0) h dX5_sheet_8 (by decide) ?_
    refine nw_iconst (pc := 9) (v := 2) h dX5_sheet_9 (by decide) ?_
    refine klX5_89 (pc := 10) h (by rw [hR]; decide) (Nat.le_of_ble_eq_true rfl) dX5_sheet_10 ?_
    refine nw_if_eq (pc := 13) (tgt := 22) h dX5_sheet_13 (by decide) (fun c_13 => ?_) (fun c_13 => ?_)
    · have hf := hf.1 c_13
      refine nw_sub (lv' := []) [] rfl ?_
      exact hL_22 _ (hf)
    · have hf := hf.2 c_13
      refine nw_iload_n (pc := 16) h dX5_sheet_16 rfl 3 rfl ?_
      refine nw_bipush (pc := 17) (v := 48) h dX5_sheet_17 (by decide) ?_
      refine nw_icmp_le (pc := 19) (tgt := 25) h dX5_sheet_19 (by decide) (fun c_19 => ?_) (fun c_19 => ?_)
      · have hf := hf.1 c_19
        refine nw_iload_n (pc := 25) h dX5_sheet_25 rfl 3 rfl ?_
        refine nw_if_ge (pc := 26) (tgt := 35) h dX5_sheet_26 (by decide) (fun c_26 => ?_) (fun c_26 => ?_)
        · have hf := hf.1 c_26
          refine nw_aload_n (pc := 35) h dX5_sheet_35 rfl 0 rfl ?_
          refine gf5_72 (pc := 36) (r := 58) h rfl rfl dX5_sheet_36 ?_
          refine nw_iload_n (pc := 39) h dX5_sheet_39 rfl 1 rfl ?_
          refine nw_iconst (pc := 40) (v := 1) h dX5_sheet_40 (by decide) ?_
          obtain ⟨h_41, hf⟩ := hf
          refine nw_zast (pc := 41) (n := 4) h rfl rfl h_41 (by decide) dX5_sheet_41 ?_
          refine nw_aload_n (pc := 42) h dX5_sheet_42 rfl 0 rfl ?_
          refine gf5_75 (pc := 43) (r := 59) h rfl rfl dX5_sheet_43 ?_
          refine nw_iload_n (pc := 46) h dX5_sheet_46 rfl 1 rfl ?_
          refine nw_iload_n (pc := 47) h dX5_sheet_47 rfl 2 rfl ?_
          obtain ⟨h_48, hf⟩ := hf
          refine nw_iast (pc := 48) (n := 4) h rfl rfl h_48 dX5_sheet_48 ?_
          refine nw_aload_n (pc := 49) h dX5_sheet_49 rfl 0 rfl ?_
          refine gf5_78 (pc := 50) (r := 60) h rfl rfl dX5_sheet_50 ?_
          refine nw_iload_n (pc := 53) h dX5_sheet_53 rfl 1 rfl ?_
          refine nw_iload_n (pc := 54) h dX5_sheet_54 rfl 3 rfl ?_
          obtain ⟨h_55, hf⟩ := hf
          refine nw_iast (pc := 55) (n := 4) h rfl rfl h_55 dX5_sheet_55 ?_
          refine nw_iconst (pc := 56) (v := 0) h dX5_sheet_56 (by decide) ?_
          refine nw_istore (pc := 57) (lv' := [(4, .int (0 : Int32)), (0, .ref (P.2.1 37)), (1, .int a1), (2, .int a2), (3, .int a3)]) h dX5_sheet_57 (by decide) rfl ?_
          obtain ⟨n_59, hf⟩ := hf
          refine nw_sub (lv' := [(0, .ref (P.2.1 37)), (1, .int a1), (3, .int a3), (4, .int (0 : Int32))]) [1, 2, 4, 0] rfl ?_
          exact hL_59 n_59 _ _ _ _ hf
        · have hf := hf.2 c_26
          refine nw_aload_n (pc := 29) h dX5_sheet_29 rfl 0 rfl ?_
          refine nw_iconst (pc := 30) (v := 5) h dX5_sheet_30 (by decide) ?_
          refine klX5_158 (pc := 31) h (by rw [hR]; decide) hf (Nat.le_of_ble_eq_true rfl) dX5_sheet_31 (fun r_31 s_31 hf => ?_)
          exact nw_iret (pc := 34) h he dX5_sheet_34 ⟨_, rfl, hf⟩
      · have hf := hf.2 c_19
        refine nw_sub (lv' := []) [] rfl ?_
        exact hL_22 _ (hf)
def f5_lose (K : Int32 → nw_ST → Prop) (σ : nw_ST) (a1 : Int32) : Prop := ((((v5_isSheet a1) = 0) → (K (-2 : Int32) σ)) ∧ (¬ ((v5_isSheet a1) = 0) → ((vp_in a1 4) ∧ ((((nw_gA σ 58 a1.toNatClampNeg) = 0) → (f5_meets (fun (r_21 : Int32) (s_21 : nw_ST) => (K r_21 s_21)) σ (1 : Int32))) ∧ (¬ ((nw_gA σ 58 a1.toNatClampNeg) = 0) → ((vp_in a1 4) ∧ ((vp_in a1 4) ∧ (K (nw_gA (nw_sA σ 58 a1.toNatClampNeg (0 : Int32)) 60 a1.toNatClampNeg) (nw_sA σ 58 a1.toNatClampNeg (0 : Int32))))))))))
def rm5_lose : Room := { frames := 2, cells := 0, slots := 0, locals := 42 }
theorem yd5_lose : yX5_lose.cls = RX5 ∧ yX5_lose.cls ≠ "java/lang/invoke/MethodHandle" ∧ yX5_lose.cls ≠ "java/lang/invoke/VarHandle" ∧ (parseMethodDescriptor yX5_lose.desc).map (fun d => d.parameters.length) = some 1 := by decide +kernel
set_option maxHeartbeats 4000000 in
set_option maxRecDepth 100000 in
theorem ct5_lose (l : Launch) (P : nw_PT) (hD : nw_D P) (σ : nw_ST) (a1 : Int32)  (K : Int32 → nw_ST → Prop) (hf : f5_lose K σ a1) : nw_MT l yX5_lose cX5_lose 2 (some .int) rm5_lose P [.ref (P.2.1 37), .int a1] σ (nw_Ki K) := by
  refine nw_enter (by decide) (by first | decide | exact Nat.le_of_ble_eq_true rfl) hD ?_
  intro X hl h he hR
  subst hl
  have h : nw_ok P X cX5_lose RX5 2 := h
  show nw_G P X 2 σ [(0, .ref (P.2.1 37)), (1, .int a1)] 0 []
  unfold f5_lose at hf
  refine nw_iload_n (pc := 0) h dX5_lose_0 rfl 1 rfl ?_
  refine klX5_155 (pc := 1) h (by rw [hR]; decide) (Nat.le_of_ble_eq_true rfl) dX5_lose_1 ?_
  refine nw_if_ne (pc := 4) (tgt := 10) h dX5_lose_4 (by decide) (fun c_4 => ?_) (fun c_4 => ?_)
  · have hf := hf.2 c_4
    refine nw_aload_n (pc := 10) h dX5_lose_10 rfl 0 rfl ?_
    refine gf5_72 (pc := 11) (r := 58) h rfl rfl dX5_lose_11 ?_
    refine nw_iload_n (pc := 14) h dX5_lose_14 rfl 1 rfl ?_
    obtain ⟨h_15, hf⟩ := hf
    refine nw_zald (pc := 15) (n := 4) h rfl rfl h_15 dX5_lose_15 ?_
    refine nw_if_ne (pc := 16) (tgt := 25) h dX5_lose_16 (by decide) (fun c_16 => ?_) (fun c_16 => ?_)
    · have hf := hf.2 c_16
      refine nw_aload_n (pc := 25) h dX5_lose_25 rfl 0 rfl ?_
      refine gf5_72 (pc := 26) (r := 58) h rfl rfl dX5_lose_26 ?_
      refine nw_iload_n (pc := 29) h dX5_lose_29 rfl 1 rfl ?_
      refine nw_iconst (pc := 30) (v := 0) h dX5_lose_30 (by decide) ?_
      obtain ⟨h_31, hf⟩ := hf
      refine nw_zast (pc := 31) (n := 4) h rfl rfl h_31 (by decide) dX5_lose_31 ?_
      refine nw_aload_n (pc := 32) h dX5_lose_32 rfl 0 rfl ?_
      refine gf5_78 (pc := 33) (r := 60) h rfl rfl dX5_lose_33 ?_
      refine nw_iload_n (pc := 36) h dX5_lose_36 rfl 1 rfl ?_
      obtain ⟨h_37, hf⟩ := hf
      refine nw_iald (pc := 37) (n := 4) h rfl rfl h_37 dX5_lose_37 ?_
      exact nw_iret (pc := 38) h he dX5_lose_38 ⟨_, rfl, hf⟩
    · have hf := hf.1 c_16
      refine nw_aload_n (pc := 19) h dX5_lose_19 rfl 0 rfl ?_
      refine nw_iconst (pc := 20) (v := 1) h dX5_lose_20 (by decide) ?_
      refine klX5_158 (pc := 21) h (by rw [hR]; decide) hf (Nat.le_of_ble_eq_true rfl) dX5_lose_21 (fun r_21 s_21 hf => ?_)
      exact nw_iret (pc := 24) h he dX5_lose_24 ⟨_, rfl, hf⟩
  · have hf := hf.1 c_4
    refine nw_bipush (pc := 7) (v := -2) h dX5_lose_7 (by decide) ?_
    exact nw_iret (pc := 9) h he dX5_lose_9 ⟨_, rfl, hf⟩
def v5_lacks (σ : nw_ST) (a1 : Int32) (a2 : Int32) (a3 : Int32) : Int32 := (if ((nw_gA σ 58 a1.toNatClampNeg) = 0) then (1 : Int32) else (if ((nw_gA σ 59 a1.toNatClampNeg) = a2) then (if ((v5_in a3 (0 : Int32) ((nw_gA σ 60 a1.toNatClampNeg) - (1 : Int32))) = 0) then (2 : Int32) else (0 : Int32)) else (3 : Int32)))
def o5_lacks (σ : nw_ST) (a1 : Int32) (a2 : Int32) (a3 : Int32) : Prop := ((vp_in a1 4) ∧ ((((nw_gA σ 58 a1.toNatClampNeg) = 0) → True) ∧ (¬ ((nw_gA σ 58 a1.toNatClampNeg) = 0) → ((vp_in a1 4) ∧ ((((nw_gA σ 59 a1.toNatClampNeg) = a2) → (vp_in a1 4)) ∧ (¬ ((nw_gA σ 59 a1.toNatClampNeg) = a2) → True))))))
def rm5_lacks : Room := { frames := 1, cells := 0, slots := 0, locals := 22 }
theorem yd5_lacks : yX5_lacks.cls = RX5 ∧ yX5_lacks.cls ≠ "java/lang/invoke/MethodHandle" ∧ yX5_lacks.cls ≠ "java/lang/invoke/VarHandle" ∧ (parseMethodDescriptor yX5_lacks.desc).map (fun d => d.parameters.length) = some 3 := by decide +kernel
set_option maxHeartbeats 4000000 in
set_option maxRecDepth 100000 in
theorem ct5_lacks (l : Launch) (P : nw_PT) (hD : nw_D P) (σ : nw_ST) (a1 : Int32) (a2 : Int32) (a3 : Int32)  (ho : o5_lacks σ a1 a2 a3) : nw_MT l yX5_lacks cX5_lacks 4 (some .int) rm5_lacks P [.ref (P.2.1 37), .int a1, .int a2, .int a3] σ (nw_Ki (fun r s2 => r = (v5_lacks σ a1 a2 a3) ∧ s2 = σ)) := by
  refine nw_enter (by decide) (by first | decide | exact Nat.le_of_ble_eq_true rfl) hD ?_
  intro X hl h he hR
  subst hl
  have h : nw_ok P X cX5_lacks RX5 4 := h
  show nw_G P X 4 σ [(0, .ref (P.2.1 37)), (1, .int a1), (2, .int a2), (3, .int a3)] 0 []
  unfold o5_lacks at ho
  refine nw_aload_n (pc := 0) h dX5_lacks_0 rfl 0 rfl ?_
  refine gf5_72 (pc := 1) (r := 58) h rfl rfl dX5_lacks_1 ?_
  refine nw_iload_n (pc := 4) h dX5_lacks_4 rfl 1 rfl ?_
  obtain ⟨h_5, ho⟩ := ho
  refine nw_zald (pc := 5) (n := 4) h rfl rfl h_5 dX5_lacks_5 ?_
  refine nw_if_ne (pc := 6) (tgt := 13) h dX5_lacks_6 (by decide) (fun c_6 => ?_) (fun c_6 => ?_)
  · skip
    have ho := ho.2 c_6
    refine nw_aload_n (pc := 13) h dX5_lacks_13 rfl 0 rfl ?_
    refine gf5_75 (pc := 14) (r := 59) h rfl rfl dX5_lacks_14 ?_
    refine nw_iload_n (pc := 17) h dX5_lacks_17 rfl 1 rfl ?_
    obtain ⟨h_18, ho⟩ := ho
    refine nw_iald (pc := 18) (n := 4) h rfl rfl h_18 dX5_lacks_18 ?_
    refine nw_iload_n (pc := 19) h dX5_lacks_19 rfl 2 rfl ?_
    refine nw_icmp_eq (pc := 20) (tgt := 27) h dX5_lacks_20 (by decide) (fun c_20 => ?_) (fun c_20 => ?_)
    · skip
      have ho := ho.1 c_20
      refine nw_iload_n (pc := 27) h dX5_lacks_27 rfl 3 rfl ?_
      refine nw_iconst (pc := 28) (v := 0) h dX5_lacks_28 (by decide) ?_
      refine nw_aload_n (pc := 29) h dX5_lacks_29 rfl 0 rfl ?_
      refine gf5_78 (pc := 30) (r := 60) h rfl rfl dX5_lacks_30 ?_
      refine nw_iload_n (pc := 33) h dX5_lacks_33 rfl 1 rfl ?_
      have h_34 := ho
      refine nw_iald (pc := 34) (n := 4) h rfl rfl h_34 dX5_lacks_34 ?_
      refine nw_iconst (pc := 35) (v := 1) h dX5_lacks_35 (by decide) ?_
      refine nw_isub (pc := 36) h dX5_lacks_36 ?_
      refine klX5_89 (pc := 37) h (by rw [hR]; decide) (Nat.le_of_ble_eq_true rfl) dX5_lacks_37 ?_
      refine nw_if_eq (pc := 40) (tgt := 47) h dX5_lacks_40 (by decide) (fun c_40 => ?_) (fun c_40 => ?_)
      · skip
        refine nw_iconst (pc := 47) (v := 2) h dX5_lacks_47 (by decide) ?_
        exact nw_iret (pc := 48) h he dX5_lacks_48 ⟨_, rfl, (by unfold v5_lacks; rw [if_neg c_6, if_pos c_20, if_pos c_40]), rfl⟩
      · skip
        refine nw_iconst (pc := 43) (v := 0) h dX5_lacks_43 (by decide) ?_
        refine nw_goto (pc := 44) (tgt := 48) h dX5_lacks_44 (by decide) ?_
        exact nw_iret (pc := 48) h he dX5_lacks_48 ⟨_, rfl, (by unfold v5_lacks; rw [if_neg c_6, if_pos c_20, if_neg c_40]), rfl⟩
    · skip
      have ho := ho.2 c_20
      refine nw_iconst (pc := 23) (v := 3) h dX5_lacks_23 (by decide) ?_
      refine nw_goto (pc := 24) (tgt := 48) h dX5_lacks_24 (by decide) ?_
      exact nw_iret (pc := 48) h he dX5_lacks_48 ⟨_, rfl, (by unfold v5_lacks; rw [if_neg c_6, if_neg c_20]), rfl⟩
  · skip
    have ho := ho.1 c_6
    refine nw_iconst (pc := 9) (v := 1) h dX5_lacks_9 (by decide) ?_
    refine nw_goto (pc := 10) (tgt := 48) h dX5_lacks_10 (by decide) ?_
    exact nw_iret (pc := 48) h he dX5_lacks_48 ⟨_, rfl, (by unfold v5_lacks; rw [if_pos c_6]), rfl⟩
def f5_keep_40 (K : nw_ST → Prop) (σ : nw_ST) (y0 : Int32) (y1 : Int32) : Prop := ((vp_in y1 192) ∧ (K (nw_sA σ 61 y1.toNatClampNeg y0)))
def f5_keep (K : nw_ST → Prop) (σ : nw_ST) (a1 : Int32) (a2 : Int32) (a3 : Int32) : Prop := ((vp_in a1 4) ∧ (((((nw_gA σ 59 a1.toNatClampNeg) = 0) → True) ∧ (¬ ((nw_gA σ 59 a1.toNatClampNeg) = 0) → (vp_in a1 4))) ∧ (f5_keep_40 K σ (if ((nw_gA σ 59 a1.toNatClampNeg) = 0) then (nw_b a3) else (if ((nw_gA σ 59 a1.toNatClampNeg) = (1 : Int32)) then (nw_s16 a3) else a3)) (((48 : Int32) * a1) + a2))))
def rm5_keep : Room := { frames := 0, cells := 0, slots := 0, locals := 0 }
theorem yd5_keep : yX5_keep.cls = RX5 ∧ yX5_keep.cls ≠ "java/lang/invoke/MethodHandle" ∧ yX5_keep.cls ≠ "java/lang/invoke/VarHandle" ∧ (parseMethodDescriptor yX5_keep.desc).map (fun d => d.parameters.length) = some 3 := by decide +kernel
set_option maxHeartbeats 4000000 in
set_option maxRecDepth 100000 in
theorem ct5_keep (l : Launch) (P : nw_PT) (hD : nw_D P) (σ : nw_ST) (a1 : Int32) (a2 : Int32) (a3 : Int32)  (K : nw_ST → Prop) (hf : f5_keep K σ a1 a2 a3) : nw_MT l yX5_keep cX5_keep 4 none rm5_keep P [.ref (P.2.1 37), .int a1, .int a2, .int a3] σ (nw_Kv K) := by
  refine nw_enter (by decide) (by first | decide | exact Nat.le_of_ble_eq_true rfl) hD ?_
  intro X hl h he hR
  subst hl
  have h : nw_ok P X cX5_keep RX5 4 := h
  show nw_G P X 4 σ [(0, .ref (P.2.1 37)), (1, .int a1), (2, .int a2), (3, .int a3)] 0 []
  have hL_40 :  ∀ (σ : nw_ST) (y0 : Int32) (y1 : Int32), f5_keep_40 K σ y0 y1 → nw_G P X 4 σ [] 40 [.int y0, .int y1, .ref (P.2.1 61)] := by
    intro σ y0 y1 hf
    unfold f5_keep_40 at hf
    obtain ⟨h_40, hf⟩ := hf
    refine nw_iast (pc := 40) (n := 192) h rfl rfl h_40 dX5_keep_40 ?_
    exact nw_vret (pc := 41) h he dX5_keep_41 ⟨rfl, hf⟩
  unfold f5_keep at hf
  refine nw_aload_n (pc := 0) h dX5_keep_0 rfl 0 rfl ?_
  refine gf5_81 (pc := 1) (r := 61) h rfl rfl dX5_keep_1 ?_
  refine nw_bipush (pc := 4) (v := 48) h dX5_keep_4 (by decide) ?_
  refine nw_iload_n (pc := 6) h dX5_keep_6 rfl 1 rfl ?_
  refine nw_imul (pc := 7) h dX5_keep_7 ?_
  refine nw_iload_n (pc := 8) h dX5_keep_8 rfl 2 rfl ?_
  refine nw_iadd (pc := 9) h dX5_keep_9 ?_
  refine nw_aload_n (pc := 10) h dX5_keep_10 rfl 0 rfl ?_
  refine gf5_75 (pc := 11) (r := 59) h rfl rfl dX5_keep_11 ?_
  refine nw_iload_n (pc := 14) h dX5_keep_14 rfl 1 rfl ?_
  obtain ⟨h_15, hf⟩ := hf
  refine nw_iald (pc := 15) (n := 4) h rfl rfl h_15 dX5_keep_15 ?_
  obtain ⟨ho, hf⟩ := hf
  refine nw_if_ne (pc := 16) (tgt := 24) h dX5_keep_16 (by decide) (fun c_16 => ?_) (fun c_16 => ?_)
  · skip
    have ho := ho.2 c_16
    refine nw_aload_n (pc := 24) h dX5_keep_24 rfl 0 rfl ?_
    refine gf5_75 (pc := 25) (r := 59) h rfl rfl dX5_keep_25 ?_
    refine nw_iload_n (pc := 28) h dX5_keep_28 rfl 1 rfl ?_
    have h_29 := ho
    refine nw_iald (pc := 29) (n := 4) h rfl rfl h_29 dX5_keep_29 ?_
    refine nw_iconst (pc := 30) (v := 1) h dX5_keep_30 (by decide) ?_
    refine nw_icmp_ne (pc := 31) (tgt := 39) h dX5_keep_31 (by decide) (fun c_31 => ?_) (fun c_31 => ?_)
    · skip
      refine nw_iload_n (pc := 39) h dX5_keep_39 rfl 3 rfl ?_
      simp only [if_neg c_16, if_neg c_31] at hf
      refine nw_sub (lv' := []) [] rfl ?_
      exact hL_40 _ _ _ hf
    · skip
      refine nw_iload_n (pc := 34) h dX5_keep_34 rfl 3 rfl ?_
      refine nw_i2s (pc := 35) h dX5_keep_35 ?_
      refine nw_goto (pc := 36) (tgt := 40) h dX5_keep_36 (by decide) ?_
      simp only [if_neg c_16, if_pos c_31] at hf
      refine nw_sub (lv' := []) [] rfl ?_
      exact hL_40 _ _ _ hf
  · skip
    have ho := ho.1 c_16
    refine nw_iload_n (pc := 19) h dX5_keep_19 rfl 3 rfl ?_
    refine nw_i2b (pc := 20) h dX5_keep_20 ?_
    refine nw_goto (pc := 21) (tgt := 40) h dX5_keep_21 (by decide) ?_
    simp only [if_pos c_16] at hf
    refine nw_sub (lv' := []) [] rfl ?_
    exact hL_40 _ _ _ hf
theorem klX5_289 {P : nw_PT} {X : nw_EX} {cc : ByteArray} {nL : Nat} {σ : nw_ST} {lv : List (Nat × Value)} {pc : Nat} {rest : List Value} {a1 : Int32} {a2 : Int32} {a3 : Int32} (h : nw_ok P X cc RX5 nL) (hR : rm5_lacks.frames + 1 ≤ X.2.2.2.1.frames ∧ 8 + (4 + 11) + rm5_lacks.locals ≤ X.2.2.2.1.locals)  (ho : o5_lacks σ a1 a2 a3) (hst : (rest.map fun v => v.category).sum ≤ 8) (hd : decode cc pc = .ok (.invokevirtual 289, 3)) (k : nw_G P X nL σ lv (pc + 3) (.int (v5_lacks σ a1 a2 a3) :: rest)) : nw_G P X nL σ lv pc (.int a3 :: .int a2 :: .int a1 :: .ref (P.2.1 37) :: rest) :=
  nw_callV (As := [.int a1, .int a2, .int a3]) (rest := rest) (C := RX5) (ci := 5) h (ct5_lacks _ P h.2.2 σ a1 a2 a3 ho) (nw_goodV nw_w565 nw_w566 nw_w567 nw_w342 nw_w568) yd5_lacks rfl hR ⟨rfl, rfl⟩ rfl (by decide) rfl rfl hst rfl hd (fun v s2 z => by obtain ⟨r, rfl, rfl, rfl⟩ := z; exact k)
theorem klX5_292 {P : nw_PT} {X : nw_EX} {cc : ByteArray} {nL : Nat} {σ : nw_ST} {lv : List (Nat × Value)} {pc : Nat} {rest : List Value} {a1 : Int32} {a2 : Int32} {a3 : Int32} (h : nw_ok P X cc RX5 nL) (hR : rm5_keep.frames + 1 ≤ X.2.2.2.1.frames ∧ 8 + (4 + 11) + rm5_keep.locals ≤ X.2.2.2.1.locals)  {K : nw_ST → Prop} (hf : f5_keep K σ a1 a2 a3) (hst : (rest.map fun v => v.category).sum ≤ 8) (hd : decode cc pc = .ok (.invokevirtual 292, 3)) (k : ∀ (s2 : nw_ST), K s2 → nw_G P X nL s2 lv (pc + 3) rest) : nw_G P X nL σ lv pc (.int a3 :: .int a2 :: .int a1 :: .ref (P.2.1 37) :: rest) :=
  nw_callV (As := [.int a1, .int a2, .int a3]) (rest := rest) (C := RX5) (ci := 5) h (ct5_keep _ P h.2.2 σ a1 a2 a3 K hf) (nw_goodV nw_w569 nw_w570 nw_w571 nw_w342 nw_w572) yd5_keep rfl hR ⟨rfl, rfl⟩ rfl (by decide) rfl rfl hst rfl hd (fun v s2 z => by obtain ⟨rfl, z⟩ := z; exact k s2 z)
def f5_put_16 (K : Int32 → nw_ST → Prop) (σ : nw_ST) : Prop := (K (-2 : Int32) σ)
def f5_put (K : Int32 → nw_ST → Prop) (σ : nw_ST) (a1 : Int32) (a2 : Int32) (a3 : Int32) (a4 : Int32) : Prop := ((((v5_isSheet a1) = 0) → (f5_put_16 K σ)) ∧ (¬ ((v5_isSheet a1) = 0) → ((((v5_in a2 (0 : Int32) (2 : Int32)) = 0) → (f5_put_16 K σ)) ∧ (¬ ((v5_in a2 (0 : Int32) (2 : Int32)) = 0) → ((o5_lacks σ a1 a2 a3) ∧ ((((v5_lacks σ a1 a2 a3) ≤ 0) → (f5_keep (fun (s_45 : nw_ST) => (K (1 : Int32) s_45)) σ a1 a3 a4)) ∧ (¬ ((v5_lacks σ a1 a2 a3) ≤ 0) → (f5_meets (fun (r_36 : Int32) (s_36 : nw_ST) => (K r_36 s_36)) σ (v5_lacks σ a1 a2 a3)))))))))
def rm5_put : Room := { frames := 2, cells := 0, slots := 0, locals := 45 }
theorem yd5_put : yX5_put.cls = RX5 ∧ yX5_put.cls ≠ "java/lang/invoke/MethodHandle" ∧ yX5_put.cls ≠ "java/lang/invoke/VarHandle" ∧ (parseMethodDescriptor yX5_put.desc).map (fun d => d.parameters.length) = some 4 := by decide +kernel
set_option maxHeartbeats 4000000 in
set_option maxRecDepth 100000 in
theorem ct5_put (l : Launch) (P : nw_PT) (hD : nw_D P) (σ : nw_ST) (a1 : Int32) (a2 : Int32) (a3 : Int32) (a4 : Int32)  (K : Int32 → nw_ST → Prop) (hf : f5_put K σ a1 a2 a3 a4) : nw_MT l yX5_put cX5_put 6 (some .int) rm5_put P [.ref (P.2.1 37), .int a1, .int a2, .int a3, .int a4] σ (nw_Ki K) := by
  refine nw_enter (by decide) (by first | decide | exact Nat.le_of_ble_eq_true rfl) hD ?_
  intro X hl h he hR
  subst hl
  have h : nw_ok P X cX5_put RX5 6 := h
  show nw_G P X 6 σ [(0, .ref (P.2.1 37)), (1, .int a1), (2, .int a2), (3, .int a3), (4, .int a4)] 0 []
  have hL_16 :  ∀ (σ : nw_ST), f5_put_16 K σ → nw_G P X 6 σ [] 16 [] := by
    intro σ hf
    unfold f5_put_16 at hf
    refine nw_bipush (pc := 16) (v := -2) h dX5_put_16 (by decide) ?_
    exact nw_iret (pc := 18) h he dX5_put_18 ⟨_, rfl, hf⟩
  unfold f5_put at hf
  refine nw_iload_n (pc := 0) h dX5_put_0 rfl 1 rfl ?_
  refine klX5_155 (pc := 1) h (by rw [hR]; decide) (Nat.le_of_ble_eq_true rfl) dX5_put_1 ?_
  refine nw_if_eq (pc := 4) (tgt := 16) h dX5_put_4 (by decide) (fun c_4 => ?_) (fun c_4 => ?_)
  · have hf := hf.1 c_4
    refine nw_sub (lv' := []) [] rfl ?_
    exact hL_16 _ (hf)
  · have hf := hf.2 c_4
    refine nw_iload_n (pc := 7) h dX5_put_7 rfl 2 rfl ?_
    refine nw_iconst (pc := 8) (v := 0) h dX5_put_8 (by decide) ?_
    refine nw_iconst (pc := 9) (v := 2) h dX5_put_9 (by decide) ?_
    refine klX5_89 (pc := 10) h (by rw [hR]; decide) (Nat.le_of_ble_eq_true rfl) dX5_put_10 ?_
    refine nw_if_ne (pc := 13) (tgt := 19) h dX5_put_13 (by decide) (fun c_13 => ?_) (fun c_13 => ?_)
    · have hf := hf.2 c_13
      refine nw_aload_n (pc := 19) h dX5_put_19 rfl 0 rfl ?_
      refine nw_iload_n (pc := 20) h dX5_put_20 rfl 1 rfl ?_
      refine nw_iload_n (pc := 21) h dX5_put_21 rfl 2 rfl ?_
      refine nw_iload_n (pc := 22) h dX5_put_22 rfl 3 rfl ?_
      obtain ⟨h_23, hf⟩ := hf
      refine klX5_289 (pc := 23) h (by rw [hR]; decide) h_23 (Nat.le_of_ble_eq_true rfl) dX5_put_23 ?_
      refine nw_istore (pc := 26) (lv' := [(5, .int (v5_lacks σ a1 a2 a3)), (0, .ref (P.2.1 37)), (1, .int a1), (2, .int a2), (3, .int a3), (4, .int a4)]) h dX5_put_26 (by decide) rfl ?_
      refine nw_iload (pc := 28) h dX5_put_28 0 rfl ?_
      refine nw_if_le (pc := 30) (tgt := 40) h dX5_put_30 (by decide) (fun c_30 => ?_) (fun c_30 => ?_)
      · have hf := hf.1 c_30
        refine nw_aload_n (pc := 40) h dX5_put_40 rfl 1 rfl ?_
        refine nw_iload_n (pc := 41) h dX5_put_41 rfl 2 rfl ?_
        refine nw_iload_n (pc := 42) h dX5_put_42 rfl 4 rfl ?_
        refine nw_iload (pc := 43) h dX5_put_43 5 rfl ?_
        refine klX5_292 (pc := 45) h (by rw [hR]; decide) hf (Nat.le_of_ble_eq_true rfl) dX5_put_45 (fun s_45 hf => ?_)
        refine nw_iconst (pc := 48) (v := 1) h dX5_put_48 (by decide) ?_
        exact nw_iret (pc := 49) h he dX5_put_49 ⟨_, rfl, hf⟩
      · have hf := hf.2 c_30
        refine nw_aload_n (pc := 33) h dX5_put_33 rfl 1 rfl ?_
        refine nw_iload (pc := 34) h dX5_put_34 0 rfl ?_
        refine klX5_158 (pc := 36) h (by rw [hR]; decide) hf (Nat.le_of_ble_eq_true rfl) dX5_put_36 (fun r_36 s_36 hf => ?_)
        exact nw_iret (pc := 39) h he dX5_put_39 ⟨_, rfl, hf⟩
    · have hf := hf.1 c_13
      refine nw_sub (lv' := []) [] rfl ?_
      exact hL_16 _ (hf)
def f5_get_16 (K : Int32 → nw_ST → Prop) (σ : nw_ST) : Prop := (K (-2147483648 : Int32) σ)
def f5_get (K : Int32 → nw_ST → Prop) (σ : nw_ST) (a1 : Int32) (a2 : Int32) (a3 : Int32) : Prop := ((((v5_isSheet a1) = 0) → (f5_get_16 K σ)) ∧ (¬ ((v5_isSheet a1) = 0) → ((((v5_in a2 (0 : Int32) (2 : Int32)) = 0) → (f5_get_16 K σ)) ∧ (¬ ((v5_in a2 (0 : Int32) (2 : Int32)) = 0) → ((o5_lacks σ a1 a2 a3) ∧ ((((v5_lacks σ a1 a2 a3) ≤ 0) → ((vp_in (((48 : Int32) * a1) + a3) 192) ∧ (K (nw_gA σ 61 (((48 : Int32) * a1) + a3).toNatClampNeg) σ))) ∧ (¬ ((v5_lacks σ a1 a2 a3) ≤ 0) → (K (-2147483648 : Int32) (nw_sS σ 37 37 (v5_lacks σ a1 a2 a3))))))))))
def rm5_get : Room := { frames := 2, cells := 0, slots := 0, locals := 45 }
theorem yd5_get : yX5_get.cls = RX5 ∧ yX5_get.cls ≠ "java/lang/invoke/MethodHandle" ∧ yX5_get.cls ≠ "java/lang/invoke/VarHandle" ∧ (parseMethodDescriptor yX5_get.desc).map (fun d => d.parameters.length) = some 3 := by decide +kernel
set_option maxHeartbeats 4000000 in
set_option maxRecDepth 100000 in
theorem ct5_get (l : Launch) (P : nw_PT) (hD : nw_D P) (σ : nw_ST) (a1 : Int32) (a2 : Int32) (a3 : Int32)  (K : Int32 → nw_ST → Prop) (hf : f5_get K σ a1 a2 a3) : nw_MT l yX5_get cX5_get 5 (some .int) rm5_get P [.ref (P.2.1 37), .int a1, .int a2, .int a3] σ (nw_Ki K) := by
  refine nw_enter (by decide) (by first | decide | exact Nat.le_of_ble_eq_true rfl) hD ?_
  intro X hl h he hR
  subst hl
  have h : nw_ok P X cX5_get RX5 5 := h
  show nw_G P X 5 σ [(0, .ref (P.2.1 37)), (1, .int a1), (2, .int a2), (3, .int a3)] 0 []
  have hL_16 :  ∀ (σ : nw_ST), f5_get_16 K σ → nw_G P X 5 σ [] 16 [] := by
    intro σ hf
    unfold f5_get_16 at hf
    refine nw_ldcw (pc := 16) h nw_w573 dX5_get_16 ?_
    exact nw_iret (pc := 19) h he dX5_get_19 ⟨_, rfl, hf⟩
  unfold f5_get at hf
  refine nw_iload_n (pc := 0) h dX5_get_0 rfl 1 rfl ?_
  refine klX5_155 (pc := 1) h (by rw [hR]; decide) (Nat.le_of_ble_eq_true rfl) dX5_get_1 ?_
  refine nw_if_eq (pc := 4) (tgt := 16) h dX5_get_4 (by decide) (fun c_4 => ?_) (fun c_4 => ?_)
  · have hf := hf.1 c_4
    refine nw_sub (lv' := []) [] rfl ?_
    exact hL_16 _ (hf)
  · have hf := hf.2 c_4
    refine nw_iload_n (pc := 7) h dX5_get_7 rfl 2 rfl ?_
    refine nw_iconst (pc := 8) (v := 0) h dX5_get_8 (by decide) ?_
    refine nw_iconst (pc := 9) (v := 2) h dX5_get_9 (by decide) ?_
    refine klX5_89 (pc := 10) h (by rw [hR]; decide) (Nat.le_of_ble_eq_true rfl) dX5_get_10 ?_
    refine nw_if_ne (pc := 13) (tgt := 20) h dX5_get_13 (by decide) (fun c_13 => ?_) (fun c_13 => ?_)
    · have hf := hf.2 c_13
      refine nw_aload_n (pc := 20) h dX5_get_20 rfl 0 rfl ?_
      refine nw_iload_n (pc := 21) h dX5_get_21 rfl 1 rfl ?_
      refine nw_iload_n (pc := 22) h dX5_get_22 rfl 2 rfl ?_
      refine nw_iload_n (pc := 23) h dX5_get_23 rfl 3 rfl ?_
      obtain ⟨h_24, hf⟩ := hf
      refine klX5_289 (pc := 24) h (by rw [hR]; decide) h_24 (Nat.le_of_ble_eq_true rfl) dX5_get_24 ?_
      refine nw_istore (pc := 27) (lv' := [(4, .int (v5_lacks σ a1 a2 a3)), (0, .ref (P.2.1 37)), (1, .int a1), (2, .int a2), (3, .int a3)]) h dX5_get_27 (by decide) rfl ?_
      refine nw_iload (pc := 29) h dX5_get_29 0 rfl ?_
      refine nw_if_le (pc := 31) (tgt := 44) h dX5_get_31 (by decide) (fun c_31 => ?_) (fun c_31 => ?_)
      · have hf := hf.1 c_31
        refine nw_aload_n (pc := 44) h dX5_get_44 rfl 1 rfl ?_
        refine gf5_81 (pc := 45) (r := 61) h rfl rfl dX5_get_45 ?_
        refine nw_bipush (pc := 48) (v := 48) h dX5_get_48 (by decide) ?_
        refine nw_iload_n (pc := 50) h dX5_get_50 rfl 2 rfl ?_
        refine nw_imul (pc := 51) h dX5_get_51 ?_
        refine nw_iload_n (pc := 52) h dX5_get_52 rfl 4 rfl ?_
        refine nw_iadd (pc := 53) h dX5_get_53 ?_
        obtain ⟨h_54, hf⟩ := hf
        refine nw_iald (pc := 54) (n := 192) h rfl rfl h_54 dX5_get_54 ?_
        exact nw_iret (pc := 55) h he dX5_get_55 ⟨_, rfl, hf⟩
      · have hf := hf.2 c_31
        refine nw_aload_n (pc := 34) h dX5_get_34 rfl 1 rfl ?_
        refine nw_iload (pc := 35) h dX5_get_35 0 rfl ?_
        refine pf5_286 (pc := 37) h rfl dX5_get_37 ?_
        refine nw_ldcw (pc := 40) h nw_w573 dX5_get_40 ?_
        exact nw_iret (pc := 43) h he dX5_get_43 ⟨_, rfl, hf⟩
    · have hf := hf.1 c_13
      refine nw_sub (lv' := []) [] rfl ?_
      exact hL_16 _ (hf)
theorem gf5_84 {P : nw_PT} {X : nw_EX} {cc : ByteArray} {nL : Nat} {σ : nw_ST} {lv : List (Nat × Value)} {pc : Nat} {st : List Value} {q : Nat} (h : nw_ok P X cc RX5 nL) (hq : nw_cl q = 5) {r : Nat} (hr : nw_rf q 36 = r) (hd : decode cc pc = .ok (.getfield 84, 3)) (k : nw_G P X nL σ lv (pc + 3) (.ref (P.2.1 r) :: st)) : nw_G P X nL σ lv pc (.ref (P.2.1 q) :: st) := by
  subst hr; intro H locs ls h1 h2 h3
  exact va_get (D := P.1) (ci := 5) (C := RX5) (T := TX5) (N := 38) h.1.1 h.1.2.1 h.1.2.2.2.2 in_T5 h.1.2.2.2.1 h.2.1.1 h1 q (nw_at5 hq) rfl 36 (by decide) (h.1.2.2.2.2 _ nw_w574) (fun _ z => z) rfl hd (k H locs ls h1 h2 h3)
def f5_copy_14 (K : Int32 → nw_ST → Prop) (σ : nw_ST) : Prop := (K (-2 : Int32) σ)
def f5_copy_35 (K : Int32 → nw_ST → Prop) (σ : nw_ST) : Prop := (f5_meets (fun (r_37 : Int32) (s_37 : nw_ST) => (K r_37 s_37)) σ (1 : Int32))
def f5_copy_111 (K : Int32 → nw_ST → Prop) (σ : nw_ST) : Prop := (f5_meets (fun (r_113 : Int32) (s_113 : nw_ST) => (K r_113 s_113)) σ (2 : Int32))
def b5_copy_157 (K : Int32 → nw_ST → Prop) (H_157 : nw_ST → Int32 → Int32 → Int32 → Int32 → Prop) (σ : nw_ST) (x3 : Int32) (x4 : Int32) (x5 : Int32) (x6 : Int32) : Prop := (((x5 ≤ x6) → (K (1 : Int32) σ)) ∧ (¬ (x5 ≤ x6) → ((vp_in x6 48) ∧ ((vp_in ((((48 : Int32) * x3) + x4) + x6) 192) ∧ (H_157 (nw_sA σ 61 ((((48 : Int32) * x3) + x4) + x6).toNatClampNeg (nw_gA σ 62 x6.toNatClampNeg)) x3 x4 x5 (x6 + (1 : Int32)))))))
def f5_copy_157 (K : Int32 → nw_ST → Prop) : Nat → nw_ST → Int32 → Int32 → Int32 → Int32 → Prop
  | 0 => fun _ _ _ _ _ => False
  | n + 1 => b5_copy_157 K (f5_copy_157 K n)
def b5_copy_120 (K : Int32 → nw_ST → Prop) (H_120 : nw_ST → Int32 → Int32 → Int32 → Int32 → Int32 → Int32 → Prop) (σ : nw_ST) (x1 : Int32) (x2 : Int32) (x3 : Int32) (x4 : Int32) (x5 : Int32) (x6 : Int32) : Prop := (((x5 ≤ x6) → (∃ n, f5_copy_157 K n σ x3 x4 x5 (0 : Int32))) ∧ (¬ (x5 ≤ x6) → ((vp_in ((((48 : Int32) * x1) + x2) + x6) 192) ∧ ((vp_in x6 48) ∧ (H_120 (nw_sA σ 62 x6.toNatClampNeg (nw_gA σ 61 ((((48 : Int32) * x1) + x2) + x6).toNatClampNeg)) x1 x2 x3 x4 x5 (x6 + (1 : Int32)))))))
def f5_copy_120 (K : Int32 → nw_ST → Prop) : Nat → nw_ST → Int32 → Int32 → Int32 → Int32 → Int32 → Int32 → Prop
  | 0 => fun _ _ _ _ _ _ _ => False
  | n + 1 => b5_copy_120 K (f5_copy_120 K n)
def f5_copy (K : Int32 → nw_ST → Prop) (σ : nw_ST) (a1 : Int32) (a2 : Int32) (a3 : Int32) (a4 : Int32) (a5 : Int32) : Prop := ((((v5_isSheet a1) = 0) → (f5_copy_14 K σ)) ∧ (¬ ((v5_isSheet a1) = 0) → ((((v5_isSheet a3) = 0) → (f5_copy_14 K σ)) ∧ (¬ ((v5_isSheet a3) = 0) → ((vp_in a1 4) ∧ ((((nw_gA σ 58 a1.toNatClampNeg) = 0) → (f5_copy_35 K σ)) ∧ (¬ ((nw_gA σ 58 a1.toNatClampNeg) = 0) → ((vp_in a3 4) ∧ ((((nw_gA σ 58 a3.toNatClampNeg) = 0) → (f5_copy_35 K σ)) ∧ (¬ ((nw_gA σ 58 a3.toNatClampNeg) = 0) → ((vp_in a1 4) ∧ ((vp_in a3 4) ∧ ((((nw_gA σ 59 a1.toNatClampNeg) = (nw_gA σ 59 a3.toNatClampNeg)) → (((a2 < 0) → (f5_copy_111 K σ)) ∧ (¬ (a2 < 0) → (((a4 < 0) → (f5_copy_111 K σ)) ∧ (¬ (a4 < 0) → (((a5 < 0) → (f5_copy_111 K σ)) ∧ (¬ (a5 < 0) → ((vp_in a1 4) ∧ (((0 < (lg_cmp ((Int32.toInt64 a2) + (Int32.toInt64 a5)) (Int32.toInt64 (nw_gA σ 60 a1.toNatClampNeg)))) → (f5_copy_111 K σ)) ∧ (¬ (0 < (lg_cmp ((Int32.toInt64 a2) + (Int32.toInt64 a5)) (Int32.toInt64 (nw_gA σ 60 a1.toNatClampNeg)))) → ((vp_in a3 4) ∧ ((((lg_cmp ((Int32.toInt64 a4) + (Int32.toInt64 a5)) (Int32.toInt64 (nw_gA σ 60 a3.toNatClampNeg))) ≤ 0) → (∃ n, f5_copy_120 K n σ a1 a2 a3 a4 a5 (0 : Int32))) ∧ (¬ ((lg_cmp ((Int32.toInt64 a4) + (Int32.toInt64 a5)) (Int32.toInt64 (nw_gA σ 60 a3.toNatClampNeg))) ≤ 0) → (f5_copy_111 K σ)))))))))))))) ∧ (¬ ((nw_gA σ 59 a1.toNatClampNeg) = (nw_gA σ 59 a3.toNatClampNeg)) → (f5_meets (fun (r_58 : Int32) (s_58 : nw_ST) => (K r_58 s_58)) σ (4 : Int32))))))))))))))))
def rm5_copy : Room := { frames := 2, cells := 0, slots := 0, locals := 42 }
theorem yd5_copy : yX5_copy.cls = RX5 ∧ yX5_copy.cls ≠ "java/lang/invoke/MethodHandle" ∧ yX5_copy.cls ≠ "java/lang/invoke/VarHandle" ∧ (parseMethodDescriptor yX5_copy.desc).map (fun d => d.parameters.length) = some 5 := by decide +kernel
set_option maxHeartbeats 4000000 in
set_option maxRecDepth 100000 in
theorem ct5_copy (l : Launch) (P : nw_PT) (hD : nw_D P) (σ : nw_ST) (a1 : Int32) (a2 : Int32) (a3 : Int32) (a4 : Int32) (a5 : Int32)  (K : Int32 → nw_ST → Prop) (hf : f5_copy K σ a1 a2 a3 a4 a5) : nw_MT l yX5_copy cX5_copy 7 (some .int) rm5_copy P [.ref (P.2.1 37), .int a1, .int a2, .int a3, .int a4, .int a5] σ (nw_Ki K) := by
  refine nw_enter (by decide) (by first | decide | exact Nat.le_of_ble_eq_true rfl) hD ?_
  intro X hl h he hR
  subst hl
  have h : nw_ok P X cX5_copy RX5 7 := h
  show nw_G P X 7 σ [(0, .ref (P.2.1 37)), (1, .int a1), (2, .int a2), (3, .int a3), (4, .int a4), (5, .int a5)] 0 []
  have hL_14 :  ∀ (σ : nw_ST), f5_copy_14 K σ → nw_G P X 7 σ [] 14 [] := by
    intro σ hf
    unfold f5_copy_14 at hf
    refine nw_bipush (pc := 14) (v := -2) h dX5_copy_14 (by decide) ?_
    exact nw_iret (pc := 16) h he dX5_copy_16 ⟨_, rfl, hf⟩
  have hL_35 :  ∀ (σ : nw_ST), f5_copy_35 K σ → nw_G P X 7 σ [(0, .ref (P.2.1 37))] 35 [] := by
    intro σ hf
    unfold f5_copy_35 at hf
    refine nw_aload_n (pc := 35) h dX5_copy_35 rfl 0 rfl ?_
    refine nw_iconst (pc := 36) (v := 1) h dX5_copy_36 (by decide) ?_
    refine klX5_158 (pc := 37) h (by rw [hR]; decide) hf (Nat.le_of_ble_eq_true rfl) dX5_copy_37 (fun r_37 s_37 hf => ?_)
    exact nw_iret (pc := 40) h he dX5_copy_40 ⟨_, rfl, hf⟩
  have hL_111 :  ∀ (σ : nw_ST), f5_copy_111 K σ → nw_G P X 7 σ [(0, .ref (P.2.1 37))] 111 [] := by
    intro σ hf
    unfold f5_copy_111 at hf
    refine nw_aload_n (pc := 111) h dX5_copy_111 rfl 0 rfl ?_
    refine nw_iconst (pc := 112) (v := 2) h dX5_copy_112 (by decide) ?_
    refine klX5_158 (pc := 113) h (by rw [hR]; decide) hf (Nat.le_of_ble_eq_true rfl) dX5_copy_113 (fun r_113 s_113 hf => ?_)
    exact nw_iret (pc := 116) h he dX5_copy_116 ⟨_, rfl, hf⟩
  have hB_157 : ∀ (H_157 : nw_ST → Int32 → Int32 → Int32 → Int32 → Prop) (hH_157 : (∀ (σ : nw_ST) (x3 : Int32) (x4 : Int32) (x5 : Int32) (x6 : Int32), H_157 σ x3 x4 x5 x6 → nw_G P X 7 σ [(0, .ref (P.2.1 37)), (3, .int x3), (4, .int x4), (5, .int x5), (6, .int x6)] 157 [])), ∀ (σ : nw_ST) (x3 : Int32) (x4 : Int32) (x5 : Int32) (x6 : Int32), b5_copy_157 K H_157 σ x3 x4 x5 x6 → nw_G P X 7 σ [(0, .ref (P.2.1 37)), (3, .int x3), (4, .int x4), (5, .int x5), (6, .int x6)] 157 [] := by
    intro H_157 hH_157 σ x3 x4 x5 x6 hf
    unfold b5_copy_157 at hf
    refine nw_iload (pc := 157) h dX5_copy_157 4 rfl ?_
    refine nw_iload (pc := 159) h dX5_copy_159 3 rfl ?_
    refine nw_icmp_ge (pc := 161) (tgt := 192) h dX5_copy_161 (by decide) (fun c_161 => ?_) (fun c_161 => ?_)
    · have hf := hf.1 c_161
      refine nw_iconst (pc := 192) (v := 1) h dX5_copy_192 (by decide) ?_
      exact nw_iret (pc := 193) h he dX5_copy_193 ⟨_, rfl, hf⟩
    · have hf := hf.2 c_161
      refine nw_aload_n (pc := 164) h dX5_copy_164 rfl 0 rfl ?_
      refine gf5_81 (pc := 165) (r := 61) h rfl rfl dX5_copy_165 ?_
      refine nw_bipush (pc := 168) (v := 48) h dX5_copy_168 (by decide) ?_
      refine nw_iload_n (pc := 170) h dX5_copy_170 rfl 1 rfl ?_
      refine nw_imul (pc := 171) h dX5_copy_171 ?_
      refine nw_iload (pc := 172) h dX5_copy_172 2 rfl ?_
      refine nw_iadd (pc := 174) h dX5_copy_174 ?_
      refine nw_iload (pc := 175) h dX5_copy_175 4 rfl ?_
      refine nw_iadd (pc := 177) h dX5_copy_177 ?_
      refine nw_aload_n (pc := 178) h dX5_copy_178 rfl 0 rfl ?_
      refine gf5_84 (pc := 179) (r := 62) h rfl rfl dX5_copy_179 ?_
      refine nw_iload (pc := 182) h dX5_copy_182 4 rfl ?_
      obtain ⟨h_184, hf⟩ := hf
      refine nw_iald (pc := 184) (n := 48) h rfl rfl h_184 dX5_copy_184 ?_
      obtain ⟨h_185, hf⟩ := hf
      refine nw_iast (pc := 185) (n := 192) h rfl rfl h_185 dX5_copy_185 ?_
      refine nw_iinc (pc := 186) (v := (x6 + (1 : Int32))) (lv' := [(6, .int (x6 + (1 : Int32))), (0, .ref (P.2.1 37)), (3, .int x3), (4, .int x4), (5, .int x5)]) h dX5_copy_186 (j := 4) rfl rfl (by decide) rfl ?_
      refine nw_goto (pc := 189) (tgt := 157) h dX5_copy_189 (by decide) ?_
      refine nw_sub (lv' := [(0, .ref (P.2.1 37)), (3, .int x3), (4, .int x4), (5, .int x5), (6, .int (x6 + (1 : Int32)))]) [1, 2, 3, 4, 0] rfl ?_
      exact hH_157 _ _ _ _ _ (hf)
  have hL_157 :  ∀ (n : Nat) (σ : nw_ST) (x3 : Int32) (x4 : Int32) (x5 : Int32) (x6 : Int32), f5_copy_157 K n σ x3 x4 x5 x6 → nw_G P X 7 σ [(0, .ref (P.2.1 37)), (3, .int x3), (4, .int x4), (5, .int x5), (6, .int x6)] 157 [] := by
    intro n
    induction n with
    | zero => intro σ x3 x4 x5 x6 hf; exact False.elim hf
    | succ n ih => exact hB_157 _ ih
  have hB_120 : ∀ (H_120 : nw_ST → Int32 → Int32 → Int32 → Int32 → Int32 → Int32 → Prop) (hH_120 : (∀ (σ : nw_ST) (x1 : Int32) (x2 : Int32) (x3 : Int32) (x4 : Int32) (x5 : Int32) (x6 : Int32), H_120 σ x1 x2 x3 x4 x5 x6 → nw_G P X 7 σ [(0, .ref (P.2.1 37)), (1, .int x1), (2, .int x2), (3, .int x3), (4, .int x4), (5, .int x5), (6, .int x6)] 120 [])), ∀ (σ : nw_ST) (x1 : Int32) (x2 : Int32) (x3 : Int32) (x4 : Int32) (x5 : Int32) (x6 : Int32), b5_copy_120 K H_120 σ x1 x2 x3 x4 x5 x6 → nw_G P X 7 σ [(0, .ref (P.2.1 37)), (1, .int x1), (2, .int x2), (3, .int x3), (4, .int x4), (5, .int x5), (6, .int x6)] 120 [] := by
    intro H_120 hH_120 σ x1 x2 x3 x4 x5 x6 hf
    unfold b5_copy_120 at hf
    refine nw_iload (pc := 120) h dX5_copy_120 6 rfl ?_
    refine nw_iload (pc := 122) h dX5_copy_122 5 rfl ?_
    refine nw_icmp_ge (pc := 124) (tgt := 154) h dX5_copy_124 (by decide) (fun c_124 => ?_) (fun c_124 => ?_)
    · have hf := hf.1 c_124
      refine nw_iconst (pc := 154) (v := 0) h dX5_copy_154 (by decide) ?_
      refine nw_istore (pc := 155) (lv' := [(6, .int (0 : Int32)), (0, .ref (P.2.1 37)), (1, .int x1), (2, .int x2), (3, .int x3), (4, .int x4), (5, .int x5)]) h dX5_copy_155 (by decide) rfl ?_
      obtain ⟨n_157, hf⟩ := hf
      refine nw_sub (lv' := [(0, .ref (P.2.1 37)), (3, .int x3), (4, .int x4), (5, .int x5), (6, .int (0 : Int32))]) [1, 4, 5, 6, 0] rfl ?_
      exact hL_157 n_157 _ _ _ _ _ hf
    · have hf := hf.2 c_124
      refine nw_aload_n (pc := 127) h dX5_copy_127 rfl 0 rfl ?_
      refine gf5_84 (pc := 128) (r := 62) h rfl rfl dX5_copy_128 ?_
      refine nw_iload (pc := 131) h dX5_copy_131 6 rfl ?_
      refine nw_aload_n (pc := 133) h dX5_copy_133 rfl 0 rfl ?_
      refine gf5_81 (pc := 134) (r := 61) h rfl rfl dX5_copy_134 ?_
      refine nw_bipush (pc := 137) (v := 48) h dX5_copy_137 (by decide) ?_
      refine nw_iload_n (pc := 139) h dX5_copy_139 rfl 1 rfl ?_
      refine nw_imul (pc := 140) h dX5_copy_140 ?_
      refine nw_iload_n (pc := 141) h dX5_copy_141 rfl 2 rfl ?_
      refine nw_iadd (pc := 142) h dX5_copy_142 ?_
      refine nw_iload (pc := 143) h dX5_copy_143 6 rfl ?_
      refine nw_iadd (pc := 145) h dX5_copy_145 ?_
      obtain ⟨h_146, hf⟩ := hf
      refine nw_iald (pc := 146) (n := 192) h rfl rfl h_146 dX5_copy_146 ?_
      obtain ⟨h_147, hf⟩ := hf
      refine nw_iast (pc := 147) (n := 48) h rfl rfl h_147 dX5_copy_147 ?_
      refine nw_iinc (pc := 148) (v := (x6 + (1 : Int32))) (lv' := [(6, .int (x6 + (1 : Int32))), (0, .ref (P.2.1 37)), (1, .int x1), (2, .int x2), (3, .int x3), (4, .int x4), (5, .int x5)]) h dX5_copy_148 (j := 6) rfl rfl (by decide) rfl ?_
      refine nw_goto (pc := 151) (tgt := 120) h dX5_copy_151 (by decide) ?_
      refine nw_sub (lv' := [(0, .ref (P.2.1 37)), (1, .int x1), (2, .int x2), (3, .int x3), (4, .int x4), (5, .int x5), (6, .int (x6 + (1 : Int32)))]) [1, 2, 3, 4, 5, 6, 0] rfl ?_
      exact hH_120 _ _ _ _ _ _ _ (hf)
  have hL_120 :  ∀ (n : Nat) (σ : nw_ST) (x1 : Int32) (x2 : Int32) (x3 : Int32) (x4 : Int32) (x5 : Int32) (x6 : Int32), f5_copy_120 K n σ x1 x2 x3 x4 x5 x6 → nw_G P X 7 σ [(0, .ref (P.2.1 37)), (1, .int x1), (2, .int x2), (3, .int x3), (4, .int x4), (5, .int x5), (6, .int x6)] 120 [] := by
    intro n
    induction n with
    | zero => intro σ x1 x2 x3 x4 x5 x6 hf; exact False.elim hf
    | succ n ih => exact hB_120 _ ih
  unfold f5_copy at hf
  refine nw_iload_n (pc := 0) h dX5_copy_0 rfl 1 rfl ?_
  refine klX5_155 (pc := 1) h (by rw [hR]; decide) (Nat.le_of_ble_eq_true rfl) dX5_copy_1 ?_
  refine nw_if_eq (pc := 4) (tgt := 14) h dX5_copy_4 (by decide) (fun c_4 => ?_) (fun c_4 => ?_)
  · have hf := hf.1 c_4
    refine nw_sub (lv' := []) [] rfl ?_
    exact hL_14 _ (hf)
  · have hf := hf.2 c_4
    refine nw_iload_n (pc := 7) h dX5_copy_7 rfl 3 rfl ?_
    refine klX5_155 (pc := 8) h (by rw [hR]; decide) (Nat.le_of_ble_eq_true rfl) dX5_copy_8 ?_
    refine nw_if_ne (pc := 11) (tgt := 17) h dX5_copy_11 (by decide) (fun c_11 => ?_) (fun c_11 => ?_)
    · have hf := hf.2 c_11
      refine nw_aload_n (pc := 17) h dX5_copy_17 rfl 0 rfl ?_
      refine gf5_72 (pc := 18) (r := 58) h rfl rfl dX5_copy_18 ?_
      refine nw_iload_n (pc := 21) h dX5_copy_21 rfl 1 rfl ?_
      obtain ⟨h_22, hf⟩ := hf
      refine nw_zald (pc := 22) (n := 4) h rfl rfl h_22 dX5_copy_22 ?_
      refine nw_if_eq (pc := 23) (tgt := 35) h dX5_copy_23 (by decide) (fun c_23 => ?_) (fun c_23 => ?_)
      · have hf := hf.1 c_23
        refine nw_sub (lv' := [(0, .ref (P.2.1 37))]) [0] rfl ?_
        exact hL_35 _ (hf)
      · have hf := hf.2 c_23
        refine nw_aload_n (pc := 26) h dX5_copy_26 rfl 0 rfl ?_
        refine gf5_72 (pc := 27) (r := 58) h rfl rfl dX5_copy_27 ?_
        refine nw_iload_n (pc := 30) h dX5_copy_30 rfl 3 rfl ?_
        obtain ⟨h_31, hf⟩ := hf
        refine nw_zald (pc := 31) (n := 4) h rfl rfl h_31 dX5_copy_31 ?_
        refine nw_if_ne (pc := 32) (tgt := 41) h dX5_copy_32 (by decide) (fun c_32 => ?_) (fun c_32 => ?_)
        · have hf := hf.2 c_32
          refine nw_aload_n (pc := 41) h dX5_copy_41 rfl 0 rfl ?_
          refine gf5_75 (pc := 42) (r := 59) h rfl rfl dX5_copy_42 ?_
          refine nw_iload_n (pc := 45) h dX5_copy_45 rfl 1 rfl ?_
          obtain ⟨h_46, hf⟩ := hf
          refine nw_iald (pc := 46) (n := 4) h rfl rfl h_46 dX5_copy_46 ?_
          refine nw_aload_n (pc := 47) h dX5_copy_47 rfl 0 rfl ?_
          refine gf5_75 (pc := 48) (r := 59) h rfl rfl dX5_copy_48 ?_
          refine nw_iload_n (pc := 51) h dX5_copy_51 rfl 3 rfl ?_
          obtain ⟨h_52, hf⟩ := hf
          refine nw_iald (pc := 52) (n := 4) h rfl rfl h_52 dX5_copy_52 ?_
          refine nw_icmp_eq (pc := 53) (tgt := 62) h dX5_copy_53 (by decide) (fun c_53 => ?_) (fun c_53 => ?_)
          · have hf := hf.1 c_53
            refine nw_iload_n (pc := 62) h dX5_copy_62 rfl 2 rfl ?_
            refine nw_if_lt (pc := 63) (tgt := 111) h dX5_copy_63 (by decide) (fun c_63 => ?_) (fun c_63 => ?_)
            · have hf := hf.1 c_63
              refine nw_sub (lv' := [(0, .ref (P.2.1 37))]) [0] rfl ?_
              exact hL_111 _ (hf)
            · have hf := hf.2 c_63
              refine nw_iload (pc := 66) h dX5_copy_66 4 rfl ?_
              refine nw_if_lt (pc := 68) (tgt := 111) h dX5_copy_68 (by decide) (fun c_68 => ?_) (fun c_68 => ?_)
              · have hf := hf.1 c_68
                refine nw_sub (lv' := [(0, .ref (P.2.1 37))]) [0] rfl ?_
                exact hL_111 _ (hf)
              · have hf := hf.2 c_68
                refine nw_iload (pc := 71) h dX5_copy_71 5 rfl ?_
                refine nw_if_lt (pc := 73) (tgt := 111) h dX5_copy_73 (by decide) (fun c_73 => ?_) (fun c_73 => ?_)
                · have hf := hf.1 c_73
                  refine nw_sub (lv' := [(0, .ref (P.2.1 37))]) [0] rfl ?_
                  exact hL_111 _ (hf)
                · have hf := hf.2 c_73
                  refine nw_iload_n (pc := 76) h dX5_copy_76 rfl 2 rfl ?_
                  refine nw_i2l (pc := 77) h dX5_copy_77 ?_
                  refine nw_iload (pc := 78) h dX5_copy_78 5 rfl ?_
                  refine nw_i2l (pc := 80) h dX5_copy_80 ?_
                  refine nw_ladd (pc := 81) h dX5_copy_81 ?_
                  refine nw_aload_n (pc := 82) h dX5_copy_82 rfl 0 rfl ?_
                  refine gf5_78 (pc := 83) (r := 60) h rfl rfl dX5_copy_83 ?_
                  refine nw_iload_n (pc := 86) h dX5_copy_86 rfl 1 rfl ?_
                  obtain ⟨h_87, hf⟩ := hf
                  refine nw_iald (pc := 87) (n := 4) h rfl rfl h_87 dX5_copy_87 ?_
                  refine nw_i2l (pc := 88) h dX5_copy_88 ?_
                  refine nw_lcmp (pc := 89) h dX5_copy_89 ?_
                  refine nw_if_gt (pc := 90) (tgt := 111) h dX5_copy_90 (by decide) (fun c_90 => ?_) (fun c_90 => ?_)
                  · have hf := hf.1 c_90
                    refine nw_sub (lv' := [(0, .ref (P.2.1 37))]) [0] rfl ?_
                    exact hL_111 _ (hf)
                  · have hf := hf.2 c_90
                    refine nw_iload (pc := 93) h dX5_copy_93 4 rfl ?_
                    refine nw_i2l (pc := 95) h dX5_copy_95 ?_
                    refine nw_iload (pc := 96) h dX5_copy_96 5 rfl ?_
                    refine nw_i2l (pc := 98) h dX5_copy_98 ?_
                    refine nw_ladd (pc := 99) h dX5_copy_99 ?_
                    refine nw_aload_n (pc := 100) h dX5_copy_100 rfl 0 rfl ?_
                    refine gf5_78 (pc := 101) (r := 60) h rfl rfl dX5_copy_101 ?_
                    refine nw_iload_n (pc := 104) h dX5_copy_104 rfl 3 rfl ?_
                    obtain ⟨h_105, hf⟩ := hf
                    refine nw_iald (pc := 105) (n := 4) h rfl rfl h_105 dX5_copy_105 ?_
                    refine nw_i2l (pc := 106) h dX5_copy_106 ?_
                    refine nw_lcmp (pc := 107) h dX5_copy_107 ?_
                    refine nw_if_le (pc := 108) (tgt := 117) h dX5_copy_108 (by decide) (fun c_108 => ?_) (fun c_108 => ?_)
                    · have hf := hf.1 c_108
                      refine nw_iconst (pc := 117) (v := 0) h dX5_copy_117 (by decide) ?_
                      refine nw_istore (pc := 118) (lv' := [(6, .int (0 : Int32)), (0, .ref (P.2.1 37)), (1, .int a1), (2, .int a2), (3, .int a3), (4, .int a4), (5, .int a5)]) h dX5_copy_118 (by decide) rfl ?_
                      obtain ⟨n_120, hf⟩ := hf
                      refine nw_sub (lv' := [(0, .ref (P.2.1 37)), (1, .int a1), (2, .int a2), (3, .int a3), (4, .int a4), (5, .int a5), (6, .int (0 : Int32))]) [1, 2, 3, 4, 5, 6, 0] rfl ?_
                      exact hL_120 n_120 _ _ _ _ _ _ _ hf
                    · have hf := hf.2 c_108
                      refine nw_sub (lv' := [(0, .ref (P.2.1 37))]) [0] rfl ?_
                      exact hL_111 _ (hf)
          · have hf := hf.2 c_53
            refine nw_aload_n (pc := 56) h dX5_copy_56 rfl 0 rfl ?_
            refine nw_iconst (pc := 57) (v := 4) h dX5_copy_57 (by decide) ?_
            refine klX5_158 (pc := 58) h (by rw [hR]; decide) hf (Nat.le_of_ble_eq_true rfl) dX5_copy_58 (fun r_58 s_58 hf => ?_)
            exact nw_iret (pc := 61) h he dX5_copy_61 ⟨_, rfl, hf⟩
        · have hf := hf.1 c_32
          refine nw_sub (lv' := [(0, .ref (P.2.1 37))]) [0] rfl ?_
          exact hL_35 _ (hf)
    · have hf := hf.1 c_11
      refine nw_sub (lv' := []) [] rfl ?_
      exact hL_14 _ (hf)
def f5_write_14 (K : Int32 → nw_ST → Prop) (σ : nw_ST) : Prop := (K (-2 : Int32) σ)
def f5_write_77 (K : Int32 → nw_ST → Prop) (σ : nw_ST) (x3 : Int32) : Prop := (K x3 σ)
def b5_write_38 (K : Int32 → nw_ST → Prop) (H_38 : nw_ST → Int32 → Int32 → Int32 → Prop) (σ : nw_ST) (x1 : Int32) (x2 : Int32) (x3 : Int32) : Prop := ((vp_in x2 4) ∧ ((((nw_gA σ 60 x2.toNatClampNeg) ≤ x3) → (f5_write_77 K σ x3)) ∧ (¬ ((nw_gA σ 60 x2.toNatClampNeg) ≤ x3) → ((((240 : Int32) ≤ (x1 + x3)) → (f5_write_77 K σ x3)) ∧ (¬ ((240 : Int32) ≤ (x1 + x3)) → ((vp_in (x1 + x3) 240) ∧ (f5_keep (fun (s_68 : nw_ST) => (H_38 s_68 x1 x2 (x3 + (1 : Int32)))) σ x2 x3 (nw_gA σ 53 (x1 + x3).toNatClampNeg))))))))
def f5_write_38 (K : Int32 → nw_ST → Prop) : Nat → nw_ST → Int32 → Int32 → Int32 → Prop
  | 0 => fun _ _ _ _ => False
  | n + 1 => b5_write_38 K (f5_write_38 K n)
def f5_write (K : Int32 → nw_ST → Prop) (σ : nw_ST) (a1 : Int32) (a2 : Int32) : Prop := ((((v5_isTime a1) = 0) → (f5_write_14 K σ)) ∧ (¬ ((v5_isTime a1) = 0) → ((((v5_isSheet a2) = 0) → (f5_write_14 K σ)) ∧ (¬ ((v5_isSheet a2) = 0) → ((vp_in a2 4) ∧ ((((nw_gA σ 58 a2.toNatClampNeg) = 0) → (f5_meets (fun (r_28 : Int32) (s_28 : nw_ST) => (K r_28 s_28)) σ (1 : Int32))) ∧ (¬ ((nw_gA σ 58 a2.toNatClampNeg) = 0) → (f5_laysTold (fun (s_33 : nw_ST) => (∃ n, f5_write_38 K n s_33 a1 a2 (0 : Int32))) σ))))))))
def rm5_write : Room := { frames := 8, cells := 0, slots := 0, locals := 180 }
theorem yd5_write : yX5_write.cls = RX5 ∧ yX5_write.cls ≠ "java/lang/invoke/MethodHandle" ∧ yX5_write.cls ≠ "java/lang/invoke/VarHandle" ∧ (parseMethodDescriptor yX5_write.desc).map (fun d => d.parameters.length) = some 2 := by decide +kernel
set_option maxHeartbeats 4000000 in
set_option maxRecDepth 100000 in
theorem ct5_write (l : Launch) (P : nw_PT) (hD : nw_D P) (σ : nw_ST) (a1 : Int32) (a2 : Int32)  (K : Int32 → nw_ST → Prop) (hf : f5_write K σ a1 a2) : nw_MT l yX5_write cX5_write 4 (some .int) rm5_write P [.ref (P.2.1 37), .int a1, .int a2] σ (nw_Ki K) := by
  refine nw_enter (by decide) (by first | decide | exact Nat.le_of_ble_eq_true rfl) hD ?_
  intro X hl h he hR
  subst hl
  have h : nw_ok P X cX5_write RX5 4 := h
  show nw_G P X 4 σ [(0, .ref (P.2.1 37)), (1, .int a1), (2, .int a2)] 0 []
  have hL_14 :  ∀ (σ : nw_ST), f5_write_14 K σ → nw_G P X 4 σ [] 14 [] := by
    intro σ hf
    unfold f5_write_14 at hf
    refine nw_bipush (pc := 14) (v := -2) h dX5_write_14 (by decide) ?_
    exact nw_iret (pc := 16) h he dX5_write_16 ⟨_, rfl, hf⟩
  have hL_77 :  ∀ (σ : nw_ST) (x3 : Int32), f5_write_77 K σ x3 → nw_G P X 4 σ [(3, .int x3)] 77 [] := by
    intro σ x3 hf
    unfold f5_write_77 at hf
    refine nw_iload_n (pc := 77) h dX5_write_77 rfl 0 rfl ?_
    exact nw_iret (pc := 78) h he dX5_write_78 ⟨_, rfl, hf⟩
  have hB_38 : ∀ (H_38 : nw_ST → Int32 → Int32 → Int32 → Prop) (hH_38 : (∀ (σ : nw_ST) (x1 : Int32) (x2 : Int32) (x3 : Int32), H_38 σ x1 x2 x3 → nw_G P X 4 σ [(0, .ref (P.2.1 37)), (1, .int x1), (2, .int x2), (3, .int x3)] 38 [])), ∀ (σ : nw_ST) (x1 : Int32) (x2 : Int32) (x3 : Int32), b5_write_38 K H_38 σ x1 x2 x3 → nw_G P X 4 σ [(0, .ref (P.2.1 37)), (1, .int x1), (2, .int x2), (3, .int x3)] 38 [] := by
    intro H_38 hH_38 σ x1 x2 x3 hf
    unfold b5_write_38 at hf
    refine nw_iload_n (pc := 38) h dX5_write_38 rfl 3 rfl ?_
    refine nw_aload_n (pc := 39) h dX5_write_39 rfl 0 rfl ?_
    refine gf5_78 (pc := 40) (r := 60) h rfl rfl dX5_write_40 ?_
    refine nw_iload_n (pc := 43) h dX5_write_43 rfl 2 rfl ?_
    obtain ⟨h_44, hf⟩ := hf
    refine nw_iald (pc := 44) (n := 4) h rfl rfl h_44 dX5_write_44 ?_
    refine nw_icmp_ge (pc := 45) (tgt := 77) h dX5_write_45 (by decide) (fun c_45 => ?_) (fun c_45 => ?_)
    · have hf := hf.1 c_45
      refine nw_sub (lv' := [(3, .int x3)]) [3] rfl ?_
      exact hL_77 _ _ (hf)
    · have hf := hf.2 c_45
      refine nw_iload_n (pc := 48) h dX5_write_48 rfl 1 rfl ?_
      refine nw_iload_n (pc := 49) h dX5_write_49 rfl 3 rfl ?_
      refine nw_iadd (pc := 50) h dX5_write_50 ?_
      refine nw_sipush (pc := 51) (v := 240) h dX5_write_51 (by decide) ?_
      refine nw_icmp_ge (pc := 54) (tgt := 77) h dX5_write_54 (by decide) (fun c_54 => ?_) (fun c_54 => ?_)
      · have hf := hf.1 c_54
        refine nw_sub (lv' := [(3, .int x3)]) [3] rfl ?_
        exact hL_77 _ _ (hf)
      · have hf := hf.2 c_54
        refine nw_aload_n (pc := 57) h dX5_write_57 rfl 0 rfl ?_
        refine nw_iload_n (pc := 58) h dX5_write_58 rfl 2 rfl ?_
        refine nw_iload_n (pc := 59) h dX5_write_59 rfl 3 rfl ?_
        refine nw_aload_n (pc := 60) h dX5_write_60 rfl 0 rfl ?_
        refine gf5_55 (pc := 61) (r := 53) h rfl rfl dX5_write_61 ?_
        refine nw_iload_n (pc := 64) h dX5_write_64 rfl 1 rfl ?_
        refine nw_iload_n (pc := 65) h dX5_write_65 rfl 3 rfl ?_
        refine nw_iadd (pc := 66) h dX5_write_66 ?_
        obtain ⟨h_67, hf⟩ := hf
        refine nw_iald (pc := 67) (n := 240) h rfl rfl h_67 dX5_write_67 ?_
        refine klX5_292 (pc := 68) h (by rw [hR]; decide) hf (Nat.le_of_ble_eq_true rfl) dX5_write_68 (fun s_68 hf => ?_)
        refine nw_iinc (pc := 71) (v := (x3 + (1 : Int32))) (lv' := [(3, .int (x3 + (1 : Int32))), (0, .ref (P.2.1 37)), (1, .int x1), (2, .int x2)]) h dX5_write_71 (j := 3) rfl rfl (by decide) rfl ?_
        refine nw_goto (pc := 74) (tgt := 38) h dX5_write_74 (by decide) ?_
        refine nw_sub (lv' := [(0, .ref (P.2.1 37)), (1, .int x1), (2, .int x2), (3, .int (x3 + (1 : Int32)))]) [1, 2, 3, 0] rfl ?_
        exact hH_38 _ _ _ _ (hf)
  have hL_38 :  ∀ (n : Nat) (σ : nw_ST) (x1 : Int32) (x2 : Int32) (x3 : Int32), f5_write_38 K n σ x1 x2 x3 → nw_G P X 4 σ [(0, .ref (P.2.1 37)), (1, .int x1), (2, .int x2), (3, .int x3)] 38 [] := by
    intro n
    induction n with
    | zero => intro σ x1 x2 x3 hf; exact False.elim hf
    | succ n ih => exact hB_38 _ ih
  unfold f5_write at hf
  refine nw_iload_n (pc := 0) h dX5_write_0 rfl 1 rfl ?_
  refine klX5_143 (pc := 1) h (by rw [hR]; decide) (Nat.le_of_ble_eq_true rfl) dX5_write_1 ?_
  refine nw_if_eq (pc := 4) (tgt := 14) h dX5_write_4 (by decide) (fun c_4 => ?_) (fun c_4 => ?_)
  · have hf := hf.1 c_4
    refine nw_sub (lv' := []) [] rfl ?_
    exact hL_14 _ (hf)
  · have hf := hf.2 c_4
    refine nw_iload_n (pc := 7) h dX5_write_7 rfl 2 rfl ?_
    refine klX5_155 (pc := 8) h (by rw [hR]; decide) (Nat.le_of_ble_eq_true rfl) dX5_write_8 ?_
    refine nw_if_ne (pc := 11) (tgt := 17) h dX5_write_11 (by decide) (fun c_11 => ?_) (fun c_11 => ?_)
    · have hf := hf.2 c_11
      refine nw_aload_n (pc := 17) h dX5_write_17 rfl 0 rfl ?_
      refine gf5_72 (pc := 18) (r := 58) h rfl rfl dX5_write_18 ?_
      refine nw_iload_n (pc := 21) h dX5_write_21 rfl 2 rfl ?_
      obtain ⟨h_22, hf⟩ := hf
      refine nw_zald (pc := 22) (n := 4) h rfl rfl h_22 dX5_write_22 ?_
      refine nw_if_ne (pc := 23) (tgt := 32) h dX5_write_23 (by decide) (fun c_23 => ?_) (fun c_23 => ?_)
      · have hf := hf.2 c_23
        refine nw_aload_n (pc := 32) h dX5_write_32 rfl 0 rfl ?_
        refine klX5_198 (pc := 33) h (by rw [hR]; decide) hf (Nat.le_of_ble_eq_true rfl) dX5_write_33 (fun s_33 hf => ?_)
        refine nw_iconst (pc := 36) (v := 0) h dX5_write_36 (by decide) ?_
        refine nw_istore_n (pc := 37) (lv' := [(3, .int (0 : Int32)), (0, .ref (P.2.1 37)), (1, .int a1), (2, .int a2)]) h dX5_write_37 rfl (by decide) rfl ?_
        obtain ⟨n_38, hf⟩ := hf
        refine nw_sub (lv' := [(0, .ref (P.2.1 37)), (1, .int a1), (2, .int a2), (3, .int (0 : Int32))]) [1, 2, 3, 0] rfl ?_
        exact hL_38 n_38 _ _ _ _ hf
      · have hf := hf.1 c_23
        refine nw_aload_n (pc := 26) h dX5_write_26 rfl 0 rfl ?_
        refine nw_iconst (pc := 27) (v := 1) h dX5_write_27 (by decide) ?_
        refine klX5_158 (pc := 28) h (by rw [hR]; decide) hf (Nat.le_of_ble_eq_true rfl) dX5_write_28 (fun r_28 s_28 hf => ?_)
        exact nw_iret (pc := 31) h he dX5_write_31 ⟨_, rfl, hf⟩
    · have hf := hf.1 c_11
      refine nw_sub (lv' := []) [] rfl ?_
      exact hL_14 _ (hf)
