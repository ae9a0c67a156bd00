def v4_isBelow (a1 : Int32) (a2 : Int32) : Int32 := (if (a1 < 0) then (0 : Int32) else (if (a2 ≤ a1) then (0 : Int32) else (1 : Int32)))
theorem z4_isBelow (a1 : Int32) (a2 : Int32) : nw_isZ (v4_isBelow a1 a2) := by
  unfold v4_isBelow; repeat' split
  all_goals first | exact (Or.inl rfl) | exact (Or.inr rfl)
def rm4_isBelow : Room := { frames := 0, cells := 0, slots := 0, locals := 0 }
theorem yd4_isBelow : yX4_isBelow.cls = RX4 ∧ yX4_isBelow.cls ≠ "java/lang/invoke/MethodHandle" ∧ yX4_isBelow.cls ≠ "java/lang/invoke/VarHandle" ∧ (parseMethodDescriptor yX4_isBelow.desc).map (fun d => d.parameters.length) = some 2 := by decide +kernel
set_option maxHeartbeats 4000000 in
set_option maxRecDepth 100000 in
theorem ct4_isBelow (l : Launch) (P : nw_PT) (hD : nw_D P) (σ : nw_ST) (a1 : Int32) (a2 : Int32)   : nw_MT l yX4_isBelow cX4_isBelow 2 (some .boolean) rm4_isBelow P [.int a1, .int a2] σ (nw_Ki (fun r s2 => r = (v4_isBelow a1 a2) ∧ s2 = σ)) := by
  refine nw_enter (by decide) (by first | decide | exact Nat.le_of_ble_eq_true rfl) hD ?_
  intro X hl h he hR
  subst hl
  have h : nw_ok P X cX4_isBelow RX4 2 := h
  show nw_G P X 2 σ [(0, .int a1), (1, .int a2)] 0 []
  refine nw_iload_n (pc := 0) h dX4_isBelow_0 rfl 0 rfl ?_
  refine nw_if_lt (pc := 1) (tgt := 13) h dX4_isBelow_1 (by decide) (fun c_1 => ?_) (fun c_1 => ?_)
  · skip
    refine nw_iconst (pc := 13) (v := 0) h dX4_isBelow_13 (by decide) ?_
    exact nw_zret (pc := 14) h he dX4_isBelow_14 (Or.inl rfl) ⟨_, rfl, (by unfold v4_isBelow; rw [if_pos c_1]), rfl⟩
  · skip
    refine nw_iload_n (pc := 4) h dX4_isBelow_4 rfl 0 rfl ?_
    refine nw_iload_n (pc := 5) h dX4_isBelow_5 rfl 1 rfl ?_
    refine nw_icmp_ge (pc := 6) (tgt := 13) h dX4_isBelow_6 (by decide) (fun c_6 => ?_) (fun c_6 => ?_)
    · skip
      refine nw_iconst (pc := 13) (v := 0) h dX4_isBelow_13 (by decide) ?_
      exact nw_zret (pc := 14) h he dX4_isBelow_14 (Or.inl rfl) ⟨_, rfl, (by unfold v4_isBelow; rw [if_neg c_1, if_pos c_6]), rfl⟩
    · skip
      refine nw_iconst (pc := 9) (v := 1) h dX4_isBelow_9 (by decide) ?_
      refine nw_goto (pc := 10) (tgt := 14) h dX4_isBelow_10 (by decide) ?_
      exact nw_zret (pc := 14) h he dX4_isBelow_14 (Or.inr rfl) ⟨_, rfl, (by unfold v4_isBelow; rw [if_neg c_1, if_neg c_6]), rfl⟩
theorem gf4_31 {P : nw_PT} {X : nw_EX} {cc : ByteArray} {nL : Nat} {σ : nw_ST} {lv : List (Nat × Value)} {pc : Nat} {st : List Value} {q : Nat} (h : nw_ok P X cc RX4 nL) (hq : nw_cl q = 4) {r : Nat} (hr : nw_rf q 1 = r) (hd : decode cc pc = .ok (.getfield 31, 3)) (k : nw_G P X nL σ lv (pc + 3) (.ref (P.2.1 r) :: st)) : nw_G P X nL σ lv pc (.ref (P.2.1 q) :: st) := by
  subst hr; intro H locs ls h1 h2 h3
  exact va_get (D := P.1) (ci := 4) (C := RX4) (T := TX4) (N := 13) h.1.1 h.1.2.1 h.1.2.2.2.2 in_T4 h.1.2.2.2.1 h.2.1.1 h1 q (nw_at4 hq) rfl 1 (by decide) (h.1.2.2.2.2 _ nw_w0) (fun _ z => z) rfl hd (k H locs ls h1 h2 h3)
theorem gf4_21 {P : nw_PT} {X : nw_EX} {cc : ByteArray} {nL : Nat} {σ : nw_ST} {lv : List (Nat × Value)} {pc : Nat} {st : List Value} {q : Nat} (h : nw_ok P X cc RX4 nL) (hq : nw_cl q = 4) {r : Nat} (hr : nw_rf q 0 = r) (hd : decode cc pc = .ok (.getfield 21, 3)) (k : nw_G P X nL σ lv (pc + 3) (.ref (P.2.1 r) :: st)) : nw_G P X nL σ lv pc (.ref (P.2.1 q) :: st) := by
  subst hr; intro H locs ls h1 h2 h3
  exact va_get (D := P.1) (ci := 4) (C := RX4) (T := TX4) (N := 13) h.1.1 h.1.2.1 h.1.2.2.2.2 in_T4 h.1.2.2.2.1 h.2.1.1 h1 q (nw_at4 hq) rfl 0 (by decide) (h.1.2.2.2.2 _ nw_w1) (fun _ z => z) rfl hd (k H locs ls h1 h2 h3)
def v4_textOf (a1 : Int32) : Nat := (if (a1 = 0) then 1 else 4)
theorem cl4_textOf (a1 : Int32) : nw_cl (v4_textOf a1) = 2 := by
  unfold v4_textOf; repeat' split
  all_goals first | exact rfl
def rm4_textOf : Room := { frames := 0, cells := 0, slots := 0, locals := 0 }
theorem yd4_textOf : yX4_textOf.cls = RX4 ∧ yX4_textOf.cls ≠ "java/lang/invoke/MethodHandle" ∧ yX4_textOf.cls ≠ "java/lang/invoke/VarHandle" ∧ (parseMethodDescriptor yX4_textOf.desc).map (fun d => d.parameters.length) = some 1 := by decide +kernel
set_option maxHeartbeats 4000000 in
set_option maxRecDepth 100000 in
theorem ct4_textOf (l : Launch) (P : nw_PT) (hD : nw_D P) (σ : nw_ST) (a1 : Int32)   : nw_MT l yX4_textOf cX4_textOf 2 (some (.object "NumberedWaves$Text")) rm4_textOf P [.ref (P.2.1 0), .int a1] σ (nw_Kr P 2 (fun r s2 => r = (v4_textOf a1) ∧ s2 = σ)) := by
  refine nw_enter (by decide) (by first | decide | exact Nat.le_of_ble_eq_true rfl) hD ?_
  intro X hl h he hR
  subst hl
  have h : nw_ok P X cX4_textOf RX4 2 := h
  show nw_G P X 2 σ [(0, .ref (P.2.1 0)), (1, .int a1)] 0 []
  refine nw_iload_n (pc := 0) h dX4_textOf_0 rfl 1 rfl ?_
  refine nw_if_ne (pc := 1) (tgt := 11) h dX4_textOf_1 (by decide) (fun c_1 => ?_) (fun c_1 => ?_)
  · skip
    refine nw_aload_n (pc := 11) h dX4_textOf_11 rfl 0 rfl ?_
    refine gf4_31 (pc := 12) (r := 4) h rfl rfl dX4_textOf_12 ?_
    exact nw_aret (pc := 15) h he dX4_textOf_15 ⟨_, rfl, rfl, (by unfold v4_textOf; rw [if_neg c_1]), rfl⟩
  · skip
    refine nw_aload_n (pc := 4) h dX4_textOf_4 rfl 0 rfl ?_
    refine gf4_21 (pc := 5) (r := 1) h rfl rfl dX4_textOf_5 ?_
    refine nw_goto (pc := 8) (tgt := 15) h dX4_textOf_8 (by decide) ?_
    exact nw_aret (pc := 15) h he dX4_textOf_15 ⟨_, rfl, rfl, (by unfold v4_textOf; rw [if_pos c_1]), rfl⟩
def bJ7_fill_53178_5 (K : nw_ST → Prop) (H_5 : nw_ST → Nat → Int32 → Int32 → Int32 → Prop) (σ : nw_ST) (x0 : Nat) (x1 : Int32) (x2 : Int32) (x3 : Int32) : Prop := (((x3 ≤ x2) → (K σ)) ∧ (¬ (x3 ≤ x2) → ((vp_in x2 (nw_len x0)) ∧ (H_5 (nw_sA σ x0 x2.toNatClampNeg x1) x0 x1 (x2 + (1 : Int32)) x3))))
def fJ7_fill_53178_5 (K : nw_ST → Prop) : Nat → nw_ST → Nat → Int32 → Int32 → Int32 → Prop
  | 0 => fun _ _ _ _ _ => False
  | n + 1 => bJ7_fill_53178_5 K (fJ7_fill_53178_5 K n)
def fJ7_fill_53178 (K : nw_ST → Prop) (σ : nw_ST) (q1 : Nat) (a2 : Int32) : Prop := (∃ n, fJ7_fill_53178_5 K n σ q1 a2 (0 : Int32) (Int32.ofNat (nw_len q1)))
def rmJ7_fill_53178 : Room := { frames := 0, cells := 0, slots := 0, locals := 0 }
theorem ydJ7_fill_53178 : yJ7_fill_53178.cls = RJ7 ∧ yJ7_fill_53178.cls ≠ "java/lang/invoke/MethodHandle" ∧ yJ7_fill_53178.cls ≠ "java/lang/invoke/VarHandle" ∧ (parseMethodDescriptor yJ7_fill_53178.desc).map (fun d => d.parameters.length) = some 2 := by decide +kernel
set_option maxHeartbeats 4000000 in
set_option maxRecDepth 100000 in
theorem ctJ7_fill_53178 (l : Launch) (P : nw_PT) (hD : nw_D P) (σ : nw_ST) (q1 : Nat) (a2 : Int32) (hc_q1 : nw_cl q1 = 10) (K : nw_ST → Prop) (hf : fJ7_fill_53178 K σ q1 a2) : nw_MT l yJ7_fill_53178 cJ7_fill_53178 4 none rmJ7_fill_53178 P [.ref (P.2.1 q1), .int a2] σ (nw_Kv K) := by
  refine nw_enter (by decide) (by first | decide | exact Nat.le_of_ble_eq_true rfl) hD ?_
  intro X hl h he hR
  subst hl
  have h : nw_ok P X cJ7_fill_53178 RJ7 4 := h
  show nw_G P X 4 σ [(0, .ref (P.2.1 q1)), (1, .int a2)] 0 []
  have hB_5 : ∀ (H_5 : nw_ST → Nat → Int32 → Int32 → Int32 → Prop) (hH_5 : (∀ (σ : nw_ST) (x0 : Nat) (x1 : Int32) (x2 : Int32) (x3 : Int32), nw_cl x0 = 10 → H_5 σ x0 x1 x2 x3 → nw_G P X 4 σ [(0, .ref (P.2.1 x0)), (1, .int x1), (2, .int x2), (3, .int x3)] 5 [])), ∀ (σ : nw_ST) (x0 : Nat) (x1 : Int32) (x2 : Int32) (x3 : Int32), nw_cl x0 = 10 → bJ7_fill_53178_5 K H_5 σ x0 x1 x2 x3 → nw_G P X 4 σ [(0, .ref (P.2.1 x0)), (1, .int x1), (2, .int x2), (3, .int x3)] 5 [] := by
    intro H_5 hH_5 σ x0 x1 x2 x3 hc_x0 hf
    unfold bJ7_fill_53178_5 at hf
    refine nw_iload_n (pc := 5) h dJ7_fill_53178_5 rfl 2 rfl ?_
    refine nw_iload_n (pc := 6) h dJ7_fill_53178_6 rfl 3 rfl ?_
    refine nw_icmp_ge (pc := 7) (tgt := 20) h dJ7_fill_53178_7 (by decide) (fun c_7 => ?_) (fun c_7 => ?_)
    · have hf := hf.1 c_7
      exact nw_vret (pc := 20) h he dJ7_fill_53178_20 ⟨rfl, hf⟩
    · have hf := hf.2 c_7
      refine nw_aload_n (pc := 10) h dJ7_fill_53178_10 rfl 0 rfl ?_
      refine nw_iload_n (pc := 11) h dJ7_fill_53178_11 rfl 2 rfl ?_
      refine nw_iload_n (pc := 12) h dJ7_fill_53178_12 rfl 1 rfl ?_
      obtain ⟨h_13, hf⟩ := hf
      refine nw_iast (pc := 13) (n := (nw_len x0)) h hc_x0 rfl h_13 dJ7_fill_53178_13 ?_
      refine nw_iinc (pc := 14) (v := (x2 + (1 : Int32))) (lv' := [(2, .int (x2 + (1 : Int32))), (0, .ref (P.2.1 x0)), (1, .int x1), (3, .int x3)]) h dJ7_fill_53178_14 (j := 2) rfl rfl (by decide) rfl ?_
      refine nw_goto (pc := 17) (tgt := 5) h dJ7_fill_53178_17 (by decide) ?_
      refine nw_sub (lv' := [(0, .ref (P.2.1 x0)), (1, .int x1), (2, .int (x2 + (1 : Int32))), (3, .int x3)]) [1, 2, 0, 3] rfl ?_
      exact hH_5 _ _ _ _ _ hc_x0 (hf)
  have hL_5 :  ∀ (n : Nat) (σ : nw_ST) (x0 : Nat) (x1 : Int32) (x2 : Int32) (x3 : Int32), nw_cl x0 = 10 → fJ7_fill_53178_5 K n σ x0 x1 x2 x3 → nw_G P X 4 σ [(0, .ref (P.2.1 x0)), (1, .int x1), (2, .int x2), (3, .int x3)] 5 [] := by
    intro n
    induction n with
    | zero => intro σ x0 x1 x2 x3 hc_x0 hf; exact False.elim hf
    | succ n ih => exact hB_5 _ ih
  unfold fJ7_fill_53178 at hf
  refine nw_iconst (pc := 0) (v := 0) h dJ7_fill_53178_0 (by decide) ?_
  refine nw_istore_n (pc := 1) (lv' := [(2, .int (0 : Int32)), (0, .ref (P.2.1 q1)), (1, .int a2)]) h dJ7_fill_53178_1 rfl (by decide) rfl ?_
  refine nw_aload_n (pc := 2) h dJ7_fill_53178_2 rfl 1 rfl ?_
  refine nw_ilen (pc := 3) (n := (nw_len q1)) (v := (Int32.ofNat (nw_len q1))) h hc_q1 rfl rfl dJ7_fill_53178_3 ?_
  refine nw_istore_n (pc := 4) (lv' := [(3, .int (Int32.ofNat (nw_len q1))), (2, .int (0 : Int32)), (0, .ref (P.2.1 q1)), (1, .int a2)]) h dJ7_fill_53178_4 rfl (by decide) rfl ?_
  obtain ⟨n_5, hf⟩ := hf
  refine nw_sub (lv' := [(0, .ref (P.2.1 q1)), (1, .int a2), (2, .int (0 : Int32)), (3, .int (Int32.ofNat (nw_len q1)))]) [2, 3, 1, 0] rfl ?_
  exact hL_5 n_5 _ _ _ _ _ hc_q1 hf
theorem gf2_9 {P : nw_PT} {X : nw_EX} {cc : ByteArray} {nL : Nat} {σ : nw_ST} {lv : List (Nat × Value)} {pc : Nat} {st : List Value} {q : Nat} (h : nw_ok P X cc RX2 nL) (hq : nw_cl q = 2) {r : Nat} (hr : nw_rf q 0 = r) (hd : decode cc pc = .ok (.getfield 9, 3)) (k : nw_G P X nL σ lv (pc + 3) (.ref (P.2.1 r) :: st)) : nw_G P X nL σ lv pc (.ref (P.2.1 q) :: st) := by
  subst hr; intro H locs ls h1 h2 h3
  exact va_get (D := P.1) (ci := 2) (C := RX2) (T := TX2) (N := 7) h.1.1 h.1.2.1 h.1.2.2.2.2 in_T2 h.1.2.2.2.1 h.2.1.1 h1 q (nw_at2 hq) rfl 0 (by decide) (h.1.2.2.2.2 _ nw_w2) (fun _ z => z) rfl hd (k H locs ls h1 h2 h3)
theorem gf2_15 {P : nw_PT} {X : nw_EX} {cc : ByteArray} {nL : Nat} {σ : nw_ST} {lv : List (Nat × Value)} {pc : Nat} {st : List Value} {q : Nat} (h : nw_ok P X cc RX2 nL) (hq : nw_cl q = 2) {r : Nat} (hr : nw_rf q 1 = r) (hd : decode cc pc = .ok (.getfield 15, 3)) (k : nw_G P X nL σ lv (pc + 3) (.ref (P.2.1 r) :: st)) : nw_G P X nL σ lv pc (.ref (P.2.1 q) :: st) := by
  subst hr; intro H locs ls h1 h2 h3
  exact va_get (D := P.1) (ci := 2) (C := RX2) (T := TX2) (N := 7) h.1.1 h.1.2.1 h.1.2.2.2.2 in_T2 h.1.2.2.2.1 h.2.1.1 h1 q (nw_at2 hq) rfl 1 (by decide) (h.1.2.2.2.2 _ nw_w3) (fun _ z => z) rfl hd (k H locs ls h1 h2 h3)
theorem gf2_21 {P : nw_PT} {X : nw_EX} {cc : ByteArray} {nL : Nat} {σ : nw_ST} {lv : List (Nat × Value)} {pc : Nat} {st : List Value} {q : Nat} (h : nw_ok P X cc RX2 nL) (hq : nw_cl q = 2) {r : Nat} (hr : nw_rf q 3 = r) (hd : decode cc pc = .ok (.getfield 21, 3)) (k : nw_G P X nL σ lv (pc + 3) (.ref (P.2.1 r) :: st)) : nw_G P X nL σ lv pc (.ref (P.2.1 q) :: st) := by
  subst hr; intro H locs ls h1 h2 h3
  exact va_get (D := P.1) (ci := 2) (C := RX2) (T := TX2) (N := 7) h.1.1 h.1.2.1 h.1.2.2.2.2 in_T2 h.1.2.2.2.1 h.2.1.1 h1 q (nw_at2 hq) rfl 3 (by decide) (h.1.2.2.2.2 _ nw_w4) (fun _ z => z) rfl hd (k H locs ls h1 h2 h3)
theorem gf2_18 {P : nw_PT} {X : nw_EX} {cc : ByteArray} {nL : Nat} {σ : nw_ST} {lv : List (Nat × Value)} {pc : Nat} {st : List Value} {q : Nat} (h : nw_ok P X cc RX2 nL) (hq : nw_cl q = 2) {r : Nat} (hr : nw_rf q 2 = r) (hd : decode cc pc = .ok (.getfield 18, 3)) (k : nw_G P X nL σ lv (pc + 3) (.ref (P.2.1 r) :: st)) : nw_G P X nL σ lv pc (.ref (P.2.1 q) :: st) := by
  subst hr; intro H locs ls h1 h2 h3
  exact va_get (D := P.1) (ci := 2) (C := RX2) (T := TX2) (N := 7) h.1.1 h.1.2.1 h.1.2.2.2.2 in_T2 h.1.2.2.2.1 h.2.1.1 h1 q (nw_at2 hq) rfl 2 (by decide) (h.1.2.2.2.2 _ nw_w5) (fun _ z => z) rfl hd (k H locs ls h1 h2 h3)
def f2_goesOn_47 (K : Int32 → nw_ST → Prop) (σ : nw_ST) : Prop := (K (0 : Int32) σ)
def f2_goesOn_139 (K : Int32 → nw_ST → Prop) (σ : nw_ST) (y0 : Int32) : Prop := ((nw_isZ y0) ∧ (K y0 σ))
def f2_goesOn_110 (K : Int32 → nw_ST → Prop) (σ : nw_ST) (x0 : Nat) (x4 : Int32) (x5 : Int32) (y0 : Int32) : Prop := ((((y0 = 0) → True) ∧ (¬ (y0 = 0) → ((vp_in x5 (nw_len (nw_rf x0 3))) ∧ (vp_in x4 (nw_len (nw_rf x0 2)))))) ∧ (f2_goesOn_139 K σ (if (y0 = 0) then (1 : Int32) else (if ((nw_gA σ (nw_rf x0 3) x5.toNatClampNeg) < (nw_cst (nw_rf x0 2) x4.toNatClampNeg)) then (0 : Int32) else (1 : Int32)))))
def f2_goesOn_26 (K : Int32 → nw_ST → Prop) (σ : nw_ST) (y0 : Int32) : Prop := ((nw_isZ y0) ∧ (K y0 σ))
def f2_goesOn (K : Int32 → nw_ST → Prop) (σ : nw_ST) (q0 : Nat) (a1 : Int32) : Prop := ((((nw_rem a1 (6 : Int32)) = (5 : Int32)) → ((vp_in a1 (nw_len (nw_rf q0 0))) ∧ (f2_goesOn_26 K σ (if ((nw_gA σ (nw_rf q0 0) a1.toNatClampNeg) = (59 : Int32)) then (1 : Int32) else (0 : Int32))))) ∧ (¬ ((nw_rem a1 (6 : Int32)) = (5 : Int32)) → ((vp_in a1 (nw_len (nw_rf q0 0))) ∧ (((((nw_gA σ (nw_rf q0 0) a1.toNatClampNeg) - (48 : Int32)) < 0) → (f2_goesOn_47 K σ)) ∧ (¬ (((nw_gA σ (nw_rf q0 0) a1.toNatClampNeg) - (48 : Int32)) < 0) → (((((nw_gA σ (nw_rf q0 0) a1.toNatClampNeg) - (48 : Int32)) ≤ (9 : Int32)) → ((vp_in (nw_rem a1 (6 : Int32)) (nw_len (nw_rf q0 1))) ∧ ((vp_in (((3 : Int32) * (a1 / (6 : Int32))) + (nw_cst (nw_rf q0 1) (nw_rem a1 (6 : Int32)).toNatClampNeg)) (nw_len (nw_rf q0 3))) ∧ ((vp_in (((3 : Int32) * (a1 / (6 : Int32))) + (nw_cst (nw_rf q0 1) (nw_rem a1 (6 : Int32)).toNatClampNeg)) (nw_len (nw_rf q0 3))) ∧ (((((nw_rem a1 (6 : Int32)) = (4 : Int32)) → True) ∧ (¬ ((nw_rem a1 (6 : Int32)) = (4 : Int32)) → (vp_in ((nw_rem a1 (6 : Int32)) + (1 : Int32)) (nw_len (nw_rf q0 1))))) ∧ (f2_goesOn_110 K (nw_sA σ (nw_rf q0 3) (((3 : Int32) * (a1 / (6 : Int32))) + (nw_cst (nw_rf q0 1) (nw_rem a1 (6 : Int32)).toNatClampNeg)).toNatClampNeg (((10 : Int32) * (nw_gA σ (nw_rf q0 3) (((3 : Int32) * (a1 / (6 : Int32))) + (nw_cst (nw_rf q0 1) (nw_rem a1 (6 : Int32)).toNatClampNeg)).toNatClampNeg)) + ((nw_gA σ (nw_rf q0 0) a1.toNatClampNeg) - (48 : Int32)))) q0 (nw_cst (nw_rf q0 1) (nw_rem a1 (6 : Int32)).toNatClampNeg) (((3 : Int32) * (a1 / (6 : Int32))) + (nw_cst (nw_rf q0 1) (nw_rem a1 (6 : Int32)).toNatClampNeg)) (if ((nw_rem a1 (6 : Int32)) = (4 : Int32)) then (1 : Int32) else (if ((nw_cst (nw_rf q0 1) ((nw_rem a1 (6 : Int32)) + (1 : Int32)).toNatClampNeg) = (nw_cst (nw_rf q0 1) (nw_rem a1 (6 : Int32)).toNatClampNeg)) then (0 : Int32) else (1 : Int32))))))))) ∧ (¬ (((nw_gA σ (nw_rf q0 0) a1.toNatClampNeg) - (48 : Int32)) ≤ (9 : Int32)) → (f2_goesOn_47 K σ))))))))
def rm2_goesOn : Room := { frames := 0, cells := 0, slots := 0, locals := 0 }
theorem yd2_goesOn : yX2_goesOn.cls = RX2 ∧ yX2_goesOn.cls ≠ "java/lang/invoke/MethodHandle" ∧ yX2_goesOn.cls ≠ "java/lang/invoke/VarHandle" ∧ (parseMethodDescriptor yX2_goesOn.desc).map (fun d => d.parameters.length) = some 1 := by decide +kernel
set_option maxHeartbeats 4000000 in
set_option maxRecDepth 100000 in
theorem ct2_goesOn (l : Launch) (P : nw_PT) (hD : nw_D P) (σ : nw_ST) (q0 : Nat) (a1 : Int32) (hc_q0 : nw_cl q0 = 2) (K : Int32 → nw_ST → Prop) (hf : f2_goesOn K σ q0 a1) : nw_MT l yX2_goesOn cX2_goesOn 7 (some .boolean) rm2_goesOn P [.ref (P.2.1 q0), .int a1] σ (nw_Ki K) := by
  refine nw_enter (by decide) (by first | decide | exact Nat.le_of_ble_eq_true rfl) hD ?_
  intro X hl h he hR
  subst hl
  have h : nw_ok P X cX2_goesOn RX2 7 := h
  show nw_G P X 7 σ [(0, .ref (P.2.1 q0)), (1, .int a1)] 0 []
  have hL_47 :  ∀ (σ : nw_ST), f2_goesOn_47 K σ → nw_G P X 7 σ [] 47 [] := by
    intro σ hf
    unfold f2_goesOn_47 at hf
    refine nw_iconst (pc := 47) (v := 0) h dX2_goesOn_47 (by decide) ?_
    exact nw_zret (pc := 48) h he dX2_goesOn_48 (Or.inl rfl) ⟨_, rfl, hf⟩
  have hL_139 :  ∀ (σ : nw_ST) (y0 : Int32), f2_goesOn_139 K σ y0 → nw_G P X 7 σ [] 139 [.int y0] := by
    intro σ y0 hf
    unfold f2_goesOn_139 at hf
    exact nw_zret (pc := 139) h he dX2_goesOn_139 hf.1 ⟨_, rfl, hf.2⟩
  have hL_110 :  ∀ (σ : nw_ST) (x0 : Nat) (x4 : Int32) (x5 : Int32) (y0 : Int32), nw_cl x0 = 2 → f2_goesOn_110 K σ x0 x4 x5 y0 → nw_G P X 7 σ [(0, .ref (P.2.1 x0)), (4, .int x4), (5, .int x5)] 110 [.int y0] := by
    intro σ x0 x4 x5 y0 hc_x0 hf
    unfold f2_goesOn_110 at hf
    refine nw_istore (pc := 110) (lv' := [(6, .int y0), (0, .ref (P.2.1 x0)), (4, .int x4), (5, .int x5)]) h dX2_goesOn_110 (by decide) rfl ?_
    refine nw_iload (pc := 112) h dX2_goesOn_112 0 rfl ?_
    obtain ⟨ho, hf⟩ := hf
    refine nw_if_eq (pc := 114) (tgt := 134) h dX2_goesOn_114 (by decide) (fun c_114 => ?_) (fun c_114 => ?_)
    · skip
      have ho := ho.1 c_114
      refine nw_iconst (pc := 134) (v := 1) h dX2_goesOn_134 (by decide) ?_
      refine nw_goto (pc := 135) (tgt := 139) h dX2_goesOn_135 (by decide) ?_
      simp only [if_pos c_114] at hf
      refine nw_sub (lv' := []) [] rfl ?_
      exact hL_139 _ _ hf
    · skip
      have ho := ho.2 c_114
      refine nw_aload_n (pc := 117) h dX2_goesOn_117 rfl 1 rfl ?_
      refine gf2_21 (pc := 118) h hc_x0 rfl dX2_goesOn_118 ?_
      refine nw_iload (pc := 121) h dX2_goesOn_121 3 rfl ?_
      obtain ⟨h_123, ho⟩ := ho
      refine nw_iald (pc := 123) (n := (nw_len (nw_rf x0 3))) h (nw_wt2_3 hc_x0) rfl h_123 dX2_goesOn_123 ?_
      refine nw_aload_n (pc := 124) h dX2_goesOn_124 rfl 1 rfl ?_
      refine gf2_18 (pc := 125) h hc_x0 rfl dX2_goesOn_125 ?_
      refine nw_iload (pc := 128) h dX2_goesOn_128 2 rfl ?_
      have h_130 := ho
      refine nw_tald (pc := 130) (n := (nw_len (nw_rf x0 2))) h (nw_wt2_2 hc_x0) rfl h_130 dX2_goesOn_130 ?_
      refine nw_icmp_lt (pc := 131) (tgt := 138) h dX2_goesOn_131 (by decide) (fun c_131 => ?_) (fun c_131 => ?_)
      · skip
        refine nw_iconst (pc := 138) (v := 0) h dX2_goesOn_138 (by decide) ?_
        simp only [if_neg c_114, if_pos c_131] at hf
        refine nw_sub (lv' := []) [] rfl ?_
        exact hL_139 _ _ hf
      · skip
        refine nw_iconst (pc := 134) (v := 1) h dX2_goesOn_134 (by decide) ?_
        refine nw_goto (pc := 135) (tgt := 139) h dX2_goesOn_135 (by decide) ?_
        simp only [if_neg c_114, if_neg c_131] at hf
        refine nw_sub (lv' := []) [] rfl ?_
        exact hL_139 _ _ hf
  have hL_26 :  ∀ (σ : nw_ST) (y0 : Int32), f2_goesOn_26 K σ y0 → nw_G P X 7 σ [] 26 [.int y0] := by
    intro σ y0 hf
    unfold f2_goesOn_26 at hf
    exact nw_zret (pc := 26) h he dX2_goesOn_26 hf.1 ⟨_, rfl, hf.2⟩
  unfold f2_goesOn at hf
  refine nw_iload_n (pc := 0) h dX2_goesOn_0 rfl 1 rfl ?_
  refine nw_bipush (pc := 1) (v := 6) h dX2_goesOn_1 (by decide) ?_
  refine nw_irem (pc := 3) h dX2_goesOn_3 (by decide) ?_
  refine nw_istore_n (pc := 4) (lv' := [(2, .int (nw_rem a1 (6 : Int32))), (0, .ref (P.2.1 q0)), (1, .int a1)]) h dX2_goesOn_4 rfl (by decide) rfl ?_
  refine nw_iload_n (pc := 5) h dX2_goesOn_5 rfl 0 rfl ?_
  refine nw_iconst (pc := 6) (v := 5) h dX2_goesOn_6 (by decide) ?_
  refine nw_icmp_ne (pc := 7) (tgt := 27) h dX2_goesOn_7 (by decide) (fun c_7 => ?_) (fun c_7 => ?_)
  · have hf := hf.2 c_7
    refine nw_aload_n (pc := 27) h dX2_goesOn_27 rfl 1 rfl ?_
    refine gf2_9 (pc := 28) h hc_q0 rfl dX2_goesOn_28 ?_
    refine nw_iload_n (pc := 31) h dX2_goesOn_31 rfl 2 rfl ?_
    obtain ⟨h_32, hf⟩ := hf
    refine nw_iald (pc := 32) (n := (nw_len (nw_rf q0 0))) h (nw_wt2_0 hc_q0) rfl h_32 dX2_goesOn_32 ?_
    refine nw_bipush (pc := 33) (v := 48) h dX2_goesOn_33 (by decide) ?_
    refine nw_isub (pc := 35) h dX2_goesOn_35 ?_
    refine nw_istore_n (pc := 36) (lv' := [(3, .int ((nw_gA σ (nw_rf q0 0) a1.toNatClampNeg) - (48 : Int32))), (2, .int (nw_rem a1 (6 : Int32))), (0, .ref (P.2.1 q0)), (1, .int a1)]) h dX2_goesOn_36 rfl (by decide) rfl ?_
    refine nw_iload_n (pc := 37) h dX2_goesOn_37 rfl 0 rfl ?_
    refine nw_if_lt (pc := 38) (tgt := 47) h dX2_goesOn_38 (by decide) (fun c_38 => ?_) (fun c_38 => ?_)
    · have hf := hf.1 c_38
      refine nw_sub (lv' := []) [] rfl ?_
      exact hL_47 _ (hf)
    · have hf := hf.2 c_38
      refine nw_iload_n (pc := 41) h dX2_goesOn_41 rfl 0 rfl ?_
      refine nw_bipush (pc := 42) (v := 9) h dX2_goesOn_42 (by decide) ?_
      refine nw_icmp_le (pc := 44) (tgt := 49) h dX2_goesOn_44 (by decide) (fun c_44 => ?_) (fun c_44 => ?_)
      · have hf := hf.1 c_44
        refine nw_aload_n (pc := 49) h dX2_goesOn_49 rfl 2 rfl ?_
        refine gf2_15 (pc := 50) h hc_q0 rfl dX2_goesOn_50 ?_
        refine nw_iload_n (pc := 53) h dX2_goesOn_53 rfl 1 rfl ?_
        obtain ⟨h_54, hf⟩ := hf
        refine nw_tald (pc := 54) (n := (nw_len (nw_rf q0 1))) h (nw_wt2_1 hc_q0) rfl h_54 dX2_goesOn_54 ?_
        refine nw_istore (pc := 55) (lv' := [(4, .int (nw_cst (nw_rf q0 1) (nw_rem a1 (6 : Int32)).toNatClampNeg)), (3, .int ((nw_gA σ (nw_rf q0 0) a1.toNatClampNeg) - (48 : Int32))), (2, .int (nw_rem a1 (6 : Int32))), (0, .ref (P.2.1 q0)), (1, .int a1)]) h dX2_goesOn_55 (by decide) rfl ?_
        refine nw_iconst (pc := 57) (v := 3) h dX2_goesOn_57 (by decide) ?_
        refine nw_iload_n (pc := 58) h dX2_goesOn_58 rfl 4 rfl ?_
        refine nw_bipush (pc := 59) (v := 6) h dX2_goesOn_59 (by decide) ?_
        refine nw_idiv (pc := 61) h dX2_goesOn_61 (by decide) ?_
        refine nw_imul (pc := 62) h dX2_goesOn_62 ?_
        refine nw_iload (pc := 63) h dX2_goesOn_63 0 rfl ?_
        refine nw_iadd (pc := 65) h dX2_goesOn_65 ?_
        refine nw_istore (pc := 66) (lv' := [(5, .int (((3 : Int32) * (a1 / (6 : Int32))) + (nw_cst (nw_rf q0 1) (nw_rem a1 (6 : Int32)).toNatClampNeg))), (4, .int (nw_cst (nw_rf q0 1) (nw_rem a1 (6 : Int32)).toNatClampNeg)), (3, .int ((nw_gA σ (nw_rf q0 0) a1.toNatClampNeg) - (48 : Int32))), (2, .int (nw_rem a1 (6 : Int32))), (0, .ref (P.2.1 q0)), (1, .int a1)]) h dX2_goesOn_66 (by decide) rfl ?_
        refine nw_aload_n (pc := 68) h dX2_goesOn_68 rfl 4 rfl ?_
        refine gf2_21 (pc := 69) h hc_q0 rfl dX2_goesOn_69 ?_
        refine nw_iload (pc := 72) h dX2_goesOn_72 0 rfl ?_
        refine nw_bipush (pc := 74) (v := 10) h dX2_goesOn_74 (by decide) ?_
        refine nw_aload_n (pc := 76) h dX2_goesOn_76 rfl 4 rfl ?_
        refine gf2_21 (pc := 77) h hc_q0 rfl dX2_goesOn_77 ?_
        refine nw_iload (pc := 80) h dX2_goesOn_80 0 rfl ?_
        obtain ⟨h_82, hf⟩ := hf
        refine nw_iald (pc := 82) (n := (nw_len (nw_rf q0 3))) h (nw_wt2_3 hc_q0) rfl h_82 dX2_goesOn_82 ?_
        refine nw_imul (pc := 83) h dX2_goesOn_83 ?_
        refine nw_iload_n (pc := 84) h dX2_goesOn_84 rfl 2 rfl ?_
        refine nw_iadd (pc := 85) h dX2_goesOn_85 ?_
        obtain ⟨h_86, hf⟩ := hf
        refine nw_iast (pc := 86) (n := (nw_len (nw_rf q0 3))) h (nw_wt2_3 hc_q0) rfl h_86 dX2_goesOn_86 ?_
        refine nw_iload_n (pc := 87) h dX2_goesOn_87 rfl 3 rfl ?_
        refine nw_iconst (pc := 88) (v := 4) h dX2_goesOn_88 (by decide) ?_
        obtain ⟨ho, hf⟩ := hf
        refine nw_icmp_eq (pc := 89) (tgt := 105) h dX2_goesOn_89 (by decide) (fun c_89 => ?_) (fun c_89 => ?_)
        · skip
          have ho := ho.1 c_89
          refine nw_iconst (pc := 105) (v := 1) h dX2_goesOn_105 (by decide) ?_
          refine nw_goto (pc := 106) (tgt := 110) h dX2_goesOn_106 (by decide) ?_
          simp only [if_pos c_89] at hf
          refine nw_sub (lv' := [(0, .ref (P.2.1 q0)), (4, .int (nw_cst (nw_rf q0 1) (nw_rem a1 (6 : Int32)).toNatClampNeg)), (5, .int (((3 : Int32) * (a1 / (6 : Int32))) + (nw_cst (nw_rf q0 1) (nw_rem a1 (6 : Int32)).toNatClampNeg)))]) [4, 1, 0] rfl ?_
          exact hL_110 _ _ _ _ _ hc_q0 hf
        · skip
          have ho := ho.2 c_89
          refine nw_aload_n (pc := 92) h dX2_goesOn_92 rfl 4 rfl ?_
          refine gf2_15 (pc := 93) h hc_q0 rfl dX2_goesOn_93 ?_
          refine nw_iload_n (pc := 96) h dX2_goesOn_96 rfl 3 rfl ?_
          refine nw_iconst (pc := 97) (v := 1) h dX2_goesOn_97 (by decide) ?_
          refine nw_iadd (pc := 98) h dX2_goesOn_98 ?_
          have h_99 := ho
          refine nw_tald (pc := 99) (n := (nw_len (nw_rf q0 1))) h (nw_wt2_1 hc_q0) rfl h_99 dX2_goesOn_99 ?_
          refine nw_iload (pc := 100) h dX2_goesOn_100 1 rfl ?_
          refine nw_icmp_eq (pc := 102) (tgt := 109) h dX2_goesOn_102 (by decide) (fun c_102 => ?_) (fun c_102 => ?_)
          · skip
            refine nw_iconst (pc := 109) (v := 0) h dX2_goesOn_109 (by decide) ?_
            simp only [if_neg c_89, if_pos c_102] at hf
            refine nw_sub (lv' := [(0, .ref (P.2.1 q0)), (4, .int (nw_cst (nw_rf q0 1) (nw_rem a1 (6 : Int32)).toNatClampNeg)), (5, .int (((3 : Int32) * (a1 / (6 : Int32))) + (nw_cst (nw_rf q0 1) (nw_rem a1 (6 : Int32)).toNatClampNeg)))]) [4, 1, 0] rfl ?_
            exact hL_110 _ _ _ _ _ hc_q0 hf
          · skip
            refine nw_iconst (pc := 105) (v := 1) h dX2_goesOn_105 (by decide) ?_
            refine nw_goto (pc := 106) (tgt := 110) h dX2_goesOn_106 (by decide) ?_
            simp only [if_neg c_89, if_neg c_102] at hf
            refine nw_sub (lv' := [(0, .ref (P.2.1 q0)), (4, .int (nw_cst (nw_rf q0 1) (nw_rem a1 (6 : Int32)).toNatClampNeg)), (5, .int (((3 : Int32) * (a1 / (6 : Int32))) + (nw_cst (nw_rf q0 1) (nw_rem a1 (6 : Int32)).toNatClampNeg)))]) [4, 1, 0] rfl ?_
            exact hL_110 _ _ _ _ _ hc_q0 hf
      · have hf := hf.2 c_44
        refine nw_sub (lv' := []) [] rfl ?_
        exact hL_47 _ (hf)
  · have hf := hf.1 c_7
    refine nw_aload_n (pc := 10) h dX2_goesOn_10 rfl 1 rfl ?_
    refine gf2_9 (pc := 11) h hc_q0 rfl dX2_goesOn_11 ?_
    refine nw_iload_n (pc := 14) h dX2_goesOn_14 rfl 2 rfl ?_
    obtain ⟨h_15, hf⟩ := hf
    refine nw_iald (pc := 15) (n := (nw_len (nw_rf q0 0))) h (nw_wt2_0 hc_q0) rfl h_15 dX2_goesOn_15 ?_
    refine nw_bipush (pc := 16) (v := 59) h dX2_goesOn_16 (by decide) ?_
    refine nw_icmp_ne (pc := 18) (tgt := 25) h dX2_goesOn_18 (by decide) (fun c_18 => ?_) (fun c_18 => ?_)
    · skip
      refine nw_iconst (pc := 25) (v := 0) h dX2_goesOn_25 (by decide) ?_
      simp only [if_neg c_18] at hf
      refine nw_sub (lv' := []) [] rfl ?_
      exact hL_26 _ _ hf
    · skip
      refine nw_iconst (pc := 21) (v := 1) h dX2_goesOn_21 (by decide) ?_
      refine nw_goto (pc := 22) (tgt := 26) h dX2_goesOn_22 (by decide) ?_
      simp only [if_pos c_18] at hf
      refine nw_sub (lv' := []) [] rfl ?_
      exact hL_26 _ _ hf
theorem klX2_37 {P : nw_PT} {X : nw_EX} {cc : ByteArray} {nL : Nat} {σ : nw_ST} {lv : List (Nat × Value)} {pc : Nat} {rest : List Value} {q1 : Nat} {a2 : Int32} (h : nw_ok P X cc RX2 nL) (hR : rmJ7_fill_53178.frames + 1 ≤ X.2.2.2.1.frames ∧ 8 + (4 + 11) + rmJ7_fill_53178.locals ≤ X.2.2.2.1.locals) (hc_q1 : nw_cl q1 = 10) {K : nw_ST → Prop} (hf : fJ7_fill_53178 K σ q1 a2) (hst : (rest.map fun v => v.category).sum ≤ 8) (hd : decode cc pc = .ok (.invokestatic 37, 3)) (k : ∀ (s2 : nw_ST), K s2 → nw_G P X nL s2 lv (pc + 3) rest) : nw_G P X nL σ lv pc (.int a2 :: .ref (P.2.1 q1) :: rest) :=
  nw_callS (As := [.ref (P.2.1 q1), .int a2]) (rest := rest) h (ctJ7_fill_53178 _ P h.2.2 σ q1 a2 hc_q1 K hf) (nw_goodS nw_w6 nw_w7 nw_w8 nw_w9) ydJ7_fill_53178.2 rfl hR ⟨rfl, rfl⟩ hst rfl hd (fun v s2 z => by obtain ⟨rfl, z⟩ := z; exact k s2 z)
theorem pf2_28 {P : nw_PT} {X : nw_EX} {cc : ByteArray} {nL : Nat} {σ : nw_ST} {lv : List (Nat × Value)} {pc : Nat} {st : List Value} {q : Nat} (h : nw_ok P X cc RX2 nL) (hq : nw_cl q = 2) {v : Int32} (hd : decode cc pc = .ok (.putfield 28, 3)) (k : nw_G P X nL (nw_sS σ q 5 v) lv (pc + 3) st) : nw_G P X nL σ lv pc (.int v :: .ref (P.2.1 q) :: st) := by
  intro H locs ls h1 h2 h3
  exact va_put (D := P.1) (ci := 2) (ty := .int) (C := RX2) (T := TX2) (N := 7) h.1.1 h.1.2.1 h.1.2.2.2.2 in_T2 tyX2 tyX2_ok nmX2 h.1.2.2.2.1 h.2.1.1 h1 (h.2.2 σ) h2 q (nw_at2 hq) rfl 5 (by decide) (h.1.2.2.2.2 _ nw_w10) (fun _ z => z) rfl (by decide +kernel) rfl rfl (by show 5 < 7; decide) hd (fun H1 locs1 g1 _ g2 => k H1 locs1 ls (by rw [nw_set2_5 hq] at g1; exact g1) g2 h3)
theorem gf2_24 {P : nw_PT} {X : nw_EX} {cc : ByteArray} {nL : Nat} {σ : nw_ST} {lv : List (Nat × Value)} {pc : Nat} {st : List Value} {q : Nat} (h : nw_ok P X cc RX2 nL) (hq : nw_cl q = 2) (hd : decode cc pc = .ok (.getfield 24, 3)) (k : nw_G P X nL σ lv (pc + 3) (.int (nw_gS σ q 4) :: st)) : nw_G P X nL σ lv pc (.ref (P.2.1 q) :: st) := by
  intro H locs ls h1 h2 h3
  exact va_get (D := P.1) (ci := 2) (C := RX2) (T := TX2) (N := 7) h.1.1 h.1.2.1 h.1.2.2.2.2 in_T2 h.1.2.2.2.1 h.2.1.1 h1 q (nw_at2 hq) rfl 4 (by decide) (h.1.2.2.2.2 _ nw_w11) (fun _ z => z) rfl hd (k H locs ls h1 h2 h3)
theorem gf2_28 {P : nw_PT} {X : nw_EX} {cc : ByteArray} {nL : Nat} {σ : nw_ST} {lv : List (Nat × Value)} {pc : Nat} {st : List Value} {q : Nat} (h : nw_ok P X cc RX2 nL) (hq : nw_cl q = 2) (hd : decode cc pc = .ok (.getfield 28, 3)) (k : nw_G P X nL σ lv (pc + 3) (.int (nw_gS σ q 5) :: st)) : nw_G P X nL σ lv pc (.ref (P.2.1 q) :: st) := by
  intro H locs ls h1 h2 h3
  exact va_get (D := P.1) (ci := 2) (C := RX2) (T := TX2) (N := 7) h.1.1 h.1.2.1 h.1.2.2.2.2 in_T2 h.1.2.2.2.1 h.2.1.1 h1 q (nw_at2 hq) rfl 5 (by decide) (h.1.2.2.2.2 _ nw_w10) (fun _ z => z) rfl hd (k H locs ls h1 h2 h3)
theorem pf2_31 {P : nw_PT} {X : nw_EX} {cc : ByteArray} {nL : Nat} {σ : nw_ST} {lv : List (Nat × Value)} {pc : Nat} {st : List Value} {q : Nat} (h : nw_ok P X cc RX2 nL) (hq : nw_cl q = 2) {v : Int32} (hd : decode cc pc = .ok (.putfield 31, 3)) (k : nw_G P X nL (nw_sS σ q 6 v) lv (pc + 3) st) : nw_G P X nL σ lv pc (.int v :: .ref (P.2.1 q) :: st) := by
  intro H locs ls h1 h2 h3
  exact va_put (D := P.1) (ci := 2) (ty := .int) (C := RX2) (T := TX2) (N := 7) h.1.1 h.1.2.1 h.1.2.2.2.2 in_T2 tyX2 tyX2_ok nmX2 h.1.2.2.2.1 h.2.1.1 h1 (h.2.2 σ) h2 q (nw_at2 hq) rfl 6 (by decide) (h.1.2.2.2.2 _ nw_w12) (fun _ z => z) rfl (by decide +kernel) rfl rfl (by show 6 < 7; decide) hd (fun H1 locs1 g1 _ g2 => k H1 locs1 ls (by rw [nw_set2_6 hq] at g1; exact g1) g2 h3)
theorem klX2_43 {P : nw_PT} {X : nw_EX} {cc : ByteArray} {nL : Nat} {σ : nw_ST} {lv : List (Nat × Value)} {pc : Nat} {rest : List Value} {q0 : Nat} {a1 : Int32} (h : nw_ok P X cc RX2 nL) (hR : rm2_goesOn.frames + 1 ≤ X.2.2.2.1.frames ∧ 8 + (7 + 11) + rm2_goesOn.locals ≤ X.2.2.2.1.locals) (hc_q0 : nw_cl q0 = 2) {K : Int32 → nw_ST → Prop} (hf : f2_goesOn K σ q0 a1) (hst : (rest.map fun v => v.category).sum ≤ 8) (hd : decode cc pc = .ok (.invokevirtual 43, 3)) (k : ∀ (r : Int32) (s2 : nw_ST), K r s2 → nw_G P X nL s2 lv (pc + 3) (.int r :: rest)) : nw_G P X nL σ lv pc (.int a1 :: .ref (P.2.1 q0) :: rest) :=
  nw_callV (As := [.int a1]) (rest := rest) (C := RX2) (ci := 2) h (ct2_goesOn _ P h.2.2 σ q0 a1 hc_q0 K hf) (nw_goodV nw_w13 nw_w14 nw_w15 nw_w16 nw_w17) yd2_goesOn rfl hR ⟨rfl, rfl⟩ hc_q0 (by decide) rfl rfl hst rfl hd (fun v s2 z => by obtain ⟨r, rfl, z⟩ := z; exact k r s2 z)
def f2_parse_106 (K : nw_ST → Prop) (σ : nw_ST) (y0 : Int32) (y1 : Nat) : Prop := (K (nw_sS σ y1 6 y0))
def f2_parse_84 (K : nw_ST → Prop) (σ : nw_ST) (x0 : Nat) : Prop := (f2_parse_106 K σ (if ((nw_gS σ x0 5) = (-1 : Int32)) then (((nw_gS σ x0 4) + (1 : Int32)) / (6 : Int32)) else (0 : Int32)) x0)
def f2_parse_50 (K : nw_ST → Prop) (σ : nw_ST) (x0 : Nat) : Prop := ((((nw_gS σ x0 5) = (-1 : Int32)) → ((((nw_gS σ x0 4) ≤ 0) → (f2_parse_84 K σ x0)) ∧ (¬ ((nw_gS σ x0 4) ≤ 0) → ((((nw_rem (nw_gS σ x0 4) (6 : Int32)) = (5 : Int32)) → (f2_parse_84 K σ x0)) ∧ (¬ ((nw_rem (nw_gS σ x0 4) (6 : Int32)) = (5 : Int32)) → (f2_parse_84 K (nw_sS σ x0 5 (nw_gS σ x0 4)) x0)))))) ∧ (¬ ((nw_gS σ x0 5) = (-1 : Int32)) → (f2_parse_84 K σ x0)))
def f2_parse_44 (K : nw_ST → Prop) (H_15 : nw_ST → Nat → Int32 → Prop) (σ : nw_ST) (x0 : Nat) (x1 : Int32) : Prop := (H_15 σ x0 (x1 + (1 : Int32)))
def b2_parse_15 (K : nw_ST → Prop) (H_15 : nw_ST → Nat → Int32 → Prop) (σ : nw_ST) (x0 : Nat) (x1 : Int32) : Prop := ((((nw_gS σ x0 4) ≤ x1) → (f2_parse_50 K σ x0)) ∧ (¬ ((nw_gS σ x0 4) ≤ x1) → ((((nw_gS σ x0 5) = (-1 : Int32)) → (f2_goesOn (fun (r_33 : Int32) (s_33 : nw_ST) => (((r_33 = 0) → (f2_parse_44 K H_15 (nw_sS s_33 x0 5 x1) x0 x1)) ∧ (¬ (r_33 = 0) → (f2_parse_44 K H_15 s_33 x0 x1)))) σ x0 x1)) ∧ (¬ ((nw_gS σ x0 5) = (-1 : Int32)) → (f2_parse_50 K σ x0)))))
def f2_parse_15 (K : nw_ST → Prop) : Nat → nw_ST → Nat → Int32 → Prop
  | 0 => fun _ _ _ => False
  | n + 1 => b2_parse_15 K (f2_parse_15 K n)
def f2_parse (K : nw_ST → Prop) (σ : nw_ST) (q0 : Nat) : Prop := (fJ7_fill_53178 (fun (s_5 : nw_ST) => (∃ n, f2_parse_15 K n (nw_sS s_5 q0 5 (-1 : Int32)) q0 (0 : Int32))) σ (nw_rf q0 3) (0 : Int32))
def rm2_parse : Room := { frames := 1, cells := 0, slots := 0, locals := 26 }
theorem yd2_parse : yX2_parse.cls = RX2 ∧ yX2_parse.cls ≠ "java/lang/invoke/MethodHandle" ∧ yX2_parse.cls ≠ "java/lang/invoke/VarHandle" ∧ (parseMethodDescriptor yX2_parse.desc).map (fun d => d.parameters.length) = some 0 := by decide +kernel
set_option maxHeartbeats 4000000 in
set_option maxRecDepth 100000 in
theorem ct2_parse (l : Launch) (P : nw_PT) (hD : nw_D P) (σ : nw_ST) (q0 : Nat) (hc_q0 : nw_cl q0 = 2) (K : nw_ST → Prop) (hf : f2_parse K σ q0) : nw_MT l yX2_parse cX2_parse 2 none rm2_parse P [.ref (P.2.1 q0)] σ (nw_Kv K) := by
  refine nw_enter (by decide) (by first | decide | exact Nat.le_of_ble_eq_true rfl) hD ?_
  intro X hl h he hR
  subst hl
  have h : nw_ok P X cX2_parse RX2 2 := h
  show nw_G P X 2 σ [(0, .ref (P.2.1 q0))] 0 []
  have hL_106 :  ∀ (σ : nw_ST) (y0 : Int32) (y1 : Nat), nw_cl y1 = 2 → f2_parse_106 K σ y0 y1 → nw_G P X 2 σ [] 106 [.int y0, .ref (P.2.1 y1)] := by
    intro σ y0 y1 hc_y1 hf
    unfold f2_parse_106 at hf
    refine pf2_31 (pc := 106) h hc_y1 dX2_parse_106 ?_
    exact nw_vret (pc := 109) h he dX2_parse_109 ⟨rfl, hf⟩
  have hL_84 :  ∀ (σ : nw_ST) (x0 : Nat), nw_cl x0 = 2 → f2_parse_84 K σ x0 → nw_G P X 2 σ [(0, .ref (P.2.1 x0))] 84 [] := by
    intro σ x0 hc_x0 hf
    unfold f2_parse_84 at hf
    refine nw_aload_n (pc := 84) h dX2_parse_84 rfl 0 rfl ?_
    refine nw_aload_n (pc := 85) h dX2_parse_85 rfl 0 rfl ?_
    refine gf2_28 (pc := 86) h hc_x0 dX2_parse_86 ?_
    refine nw_iconst (pc := 89) (v := -1) h dX2_parse_89 (by decide) ?_
    refine nw_icmp_ne (pc := 90) (tgt := 105) h dX2_parse_90 (by decide) (fun c_90 => ?_) (fun c_90 => ?_)
    · skip
      refine nw_iconst (pc := 105) (v := 0) h dX2_parse_105 (by decide) ?_
      simp only [if_neg c_90] at hf
      refine nw_sub (lv' := []) [] rfl ?_
      exact hL_106 _ _ _ hc_x0 hf
    · skip
      refine nw_aload_n (pc := 93) h dX2_parse_93 rfl 0 rfl ?_
      refine gf2_24 (pc := 94) h hc_x0 dX2_parse_94 ?_
      refine nw_iconst (pc := 97) (v := 1) h dX2_parse_97 (by decide) ?_
      refine nw_iadd (pc := 98) h dX2_parse_98 ?_
      refine nw_bipush (pc := 99) (v := 6) h dX2_parse_99 (by decide) ?_
      refine nw_idiv (pc := 101) h dX2_parse_101 (by decide) ?_
      refine nw_goto (pc := 102) (tgt := 106) h dX2_parse_102 (by decide) ?_
      simp only [if_pos c_90] at hf
      refine nw_sub (lv' := []) [] rfl ?_
      exact hL_106 _ _ _ hc_x0 hf
  have hL_50 :  ∀ (σ : nw_ST) (x0 : Nat), nw_cl x0 = 2 → f2_parse_50 K σ x0 → nw_G P X 2 σ [(0, .ref (P.2.1 x0))] 50 [] := by
    intro σ x0 hc_x0 hf
    unfold f2_parse_50 at hf
    refine nw_aload_n (pc := 50) h dX2_parse_50 rfl 0 rfl ?_
    refine gf2_28 (pc := 51) h hc_x0 dX2_parse_51 ?_
    refine nw_iconst (pc := 54) (v := -1) h dX2_parse_54 (by decide) ?_
    refine nw_icmp_ne (pc := 55) (tgt := 84) h dX2_parse_55 (by decide) (fun c_55 => ?_) (fun c_55 => ?_)
    · have hf := hf.2 c_55
      exact hL_84 _ _ hc_x0 (hf)
    · have hf := hf.1 c_55
      refine nw_aload_n (pc := 58) h dX2_parse_58 rfl 0 rfl ?_
      refine gf2_24 (pc := 59) h hc_x0 dX2_parse_59 ?_
      refine nw_if_le (pc := 62) (tgt := 84) h dX2_parse_62 (by decide) (fun c_62 => ?_) (fun c_62 => ?_)
      · have hf := hf.1 c_62
        exact hL_84 _ _ hc_x0 (hf)
      · have hf := hf.2 c_62
        refine nw_aload_n (pc := 65) h dX2_parse_65 rfl 0 rfl ?_
        refine gf2_24 (pc := 66) h hc_x0 dX2_parse_66 ?_
        refine nw_bipush (pc := 69) (v := 6) h dX2_parse_69 (by decide) ?_
        refine nw_irem (pc := 71) h dX2_parse_71 (by decide) ?_
        refine nw_iconst (pc := 72) (v := 5) h dX2_parse_72 (by decide) ?_
        refine nw_icmp_eq (pc := 73) (tgt := 84) h dX2_parse_73 (by decide) (fun c_73 => ?_) (fun c_73 => ?_)
        · have hf := hf.1 c_73
          exact hL_84 _ _ hc_x0 (hf)
        · have hf := hf.2 c_73
          refine nw_aload_n (pc := 76) h dX2_parse_76 rfl 0 rfl ?_
          refine nw_aload_n (pc := 77) h dX2_parse_77 rfl 0 rfl ?_
          refine gf2_24 (pc := 78) h hc_x0 dX2_parse_78 ?_
          refine pf2_28 (pc := 81) h hc_x0 dX2_parse_81 ?_
          exact hL_84 _ _ hc_x0 (hf)
  have hL_44 : ∀ (H_15 : nw_ST → Nat → Int32 → Prop) (hH_15 : (∀ (σ : nw_ST) (x0 : Nat) (x1 : Int32), nw_cl x0 = 2 → H_15 σ x0 x1 → nw_G P X 2 σ [(0, .ref (P.2.1 x0)), (1, .int x1)] 15 [])), ∀ (σ : nw_ST) (x0 : Nat) (x1 : Int32), nw_cl x0 = 2 → f2_parse_44 K H_15 σ x0 x1 → nw_G P X 2 σ [(0, .ref (P.2.1 x0)), (1, .int x1)] 44 [] := by
    intro H_15 hH_15 σ x0 x1 hc_x0 hf
    unfold f2_parse_44 at hf
    refine nw_iinc (pc := 44) (v := (x1 + (1 : Int32))) (lv' := [(1, .int (x1 + (1 : Int32))), (0, .ref (P.2.1 x0))]) h dX2_parse_44 (j := 1) rfl rfl (by decide) rfl ?_
    refine nw_goto (pc := 47) (tgt := 15) h dX2_parse_47 (by decide) ?_
    refine nw_sub (lv' := [(0, .ref (P.2.1 x0)), (1, .int (x1 + (1 : Int32)))]) [1, 0] rfl ?_
    exact hH_15 _ _ _ hc_x0 (hf)
  have hB_15 : ∀ (H_15 : nw_ST → Nat → Int32 → Prop) (hH_15 : (∀ (σ : nw_ST) (x0 : Nat) (x1 : Int32), nw_cl x0 = 2 → H_15 σ x0 x1 → nw_G P X 2 σ [(0, .ref (P.2.1 x0)), (1, .int x1)] 15 [])), ∀ (σ : nw_ST) (x0 : Nat) (x1 : Int32), nw_cl x0 = 2 → b2_parse_15 K H_15 σ x0 x1 → nw_G P X 2 σ [(0, .ref (P.2.1 x0)), (1, .int x1)] 15 [] := by
    intro H_15 hH_15 σ x0 x1 hc_x0 hf
    unfold b2_parse_15 at hf
    refine nw_iload_n (pc := 15) h dX2_parse_15 rfl 1 rfl ?_
    refine nw_aload_n (pc := 16) h dX2_parse_16 rfl 0 rfl ?_
    refine gf2_24 (pc := 17) h hc_x0 dX2_parse_17 ?_
    refine nw_icmp_ge (pc := 20) (tgt := 50) h dX2_parse_20 (by decide) (fun c_20 => ?_) (fun c_20 => ?_)
    · have hf := hf.1 c_20
      refine nw_sub (lv' := [(0, .ref (P.2.1 x0))]) [0] rfl ?_
      exact hL_50 _ _ hc_x0 (hf)
    · have hf := hf.2 c_20
      refine nw_aload_n (pc := 23) h dX2_parse_23 rfl 0 rfl ?_
      refine gf2_28 (pc := 24) h hc_x0 dX2_parse_24 ?_
      refine nw_iconst (pc := 27) (v := -1) h dX2_parse_27 (by decide) ?_
      refine nw_icmp_ne (pc := 28) (tgt := 50) h dX2_parse_28 (by decide) (fun c_28 => ?_) (fun c_28 => ?_)
      · have hf := hf.2 c_28
        refine nw_sub (lv' := [(0, .ref (P.2.1 x0))]) [0] rfl ?_
        exact hL_50 _ _ hc_x0 (hf)
      · have hf := hf.1 c_28
        refine nw_aload_n (pc := 31) h dX2_parse_31 rfl 0 rfl ?_
        refine nw_iload_n (pc := 32) h dX2_parse_32 rfl 1 rfl ?_
        refine klX2_43 (pc := 33) h (by rw [hR]; decide) hc_x0 hf (Nat.le_of_ble_eq_true rfl) dX2_parse_33 (fun r_33 s_33 hf => ?_)
        refine nw_if_ne (pc := 36) (tgt := 44) h dX2_parse_36 (by decide) (fun c_36 => ?_) (fun c_36 => ?_)
        · have hf := hf.2 c_36
          exact hL_44 H_15 hH_15 _ _ _ hc_x0 (hf)
        · have hf := hf.1 c_36
          refine nw_aload_n (pc := 39) h dX2_parse_39 rfl 0 rfl ?_
          refine nw_iload_n (pc := 40) h dX2_parse_40 rfl 1 rfl ?_
          refine pf2_28 (pc := 41) h hc_x0 dX2_parse_41 ?_
          exact hL_44 H_15 hH_15 _ _ _ hc_x0 (hf)
  have hL_15 :  ∀ (n : Nat) (σ : nw_ST) (x0 : Nat) (x1 : Int32), nw_cl x0 = 2 → f2_parse_15 K n σ x0 x1 → nw_G P X 2 σ [(0, .ref (P.2.1 x0)), (1, .int x1)] 15 [] := by
    intro n
    induction n with
    | zero => intro σ x0 x1 hc_x0 hf; exact False.elim hf
    | succ n ih => exact hB_15 _ ih
  unfold f2_parse at hf
  refine nw_aload_n (pc := 0) h dX2_parse_0 rfl 0 rfl ?_
  refine gf2_21 (pc := 1) h hc_q0 rfl dX2_parse_1 ?_
  refine nw_iconst (pc := 4) (v := 0) h dX2_parse_4 (by decide) ?_
  refine klX2_37 (pc := 5) h (by rw [hR]; decide) (nw_wt2_3 hc_q0) hf (Nat.le_of_ble_eq_true rfl) dX2_parse_5 (fun s_5 hf => ?_)
  refine nw_aload_n (pc := 8) h dX2_parse_8 rfl 0 rfl ?_
  refine nw_iconst (pc := 9) (v := -1) h dX2_parse_9 (by decide) ?_
  refine pf2_28 (pc := 10) h hc_q0 dX2_parse_10 ?_
  refine nw_iconst (pc := 13) (v := 0) h dX2_parse_13 (by decide) ?_
  refine nw_istore_n (pc := 14) (lv' := [(1, .int (0 : Int32)), (0, .ref (P.2.1 q0))]) h dX2_parse_14 rfl (by decide) rfl ?_
  obtain ⟨n_15, hf⟩ := hf
  refine nw_sub (lv' := [(0, .ref (P.2.1 q0)), (1, .int (0 : Int32))]) [1, 0] rfl ?_
  exact hL_15 n_15 _ _ _ hc_q0 hf
theorem pf2_24 {P : nw_PT} {X : nw_EX} {cc : ByteArray} {nL : Nat} {σ : nw_ST} {lv : List (Nat × Value)} {pc : Nat} {st : List Value} {q : Nat} (h : nw_ok P X cc RX2 nL) (hq : nw_cl q = 2) {v : Int32} (hd : decode cc pc = .ok (.putfield 24, 3)) (k : nw_G P X nL (nw_sS σ q 4 v) lv (pc + 3) st) : nw_G P X nL σ lv pc (.int v :: .ref (P.2.1 q) :: st) := by
  intro H locs ls h1 h2 h3
  exact va_put (D := P.1) (ci := 2) (ty := .int) (C := RX2) (T := TX2) (N := 7) h.1.1 h.1.2.1 h.1.2.2.2.2 in_T2 tyX2 tyX2_ok nmX2 h.1.2.2.2.1 h.2.1.1 h1 (h.2.2 σ) h2 q (nw_at2 hq) rfl 4 (by decide) (h.1.2.2.2.2 _ nw_w11) (fun _ z => z) rfl (by decide +kernel) rfl rfl (by show 4 < 7; decide) hd (fun H1 locs1 g1 _ g2 => k H1 locs1 ls (by rw [nw_set2_4 hq] at g1; exact g1) g2 h3)
theorem klX2_34 {P : nw_PT} {X : nw_EX} {cc : ByteArray} {nL : Nat} {σ : nw_ST} {lv : List (Nat × Value)} {pc : Nat} {rest : List Value} {q0 : Nat} (h : nw_ok P X cc RX2 nL) (hR : rm2_parse.frames + 1 ≤ X.2.2.2.1.frames ∧ 8 + (2 + 11) + rm2_parse.locals ≤ X.2.2.2.1.locals) (hc_q0 : nw_cl q0 = 2) {K : nw_ST → Prop} (hf : f2_parse K σ q0) (hst : (rest.map fun v => v.category).sum ≤ 8) (hd : decode cc pc = .ok (.invokevirtual 34, 3)) (k : ∀ (s2 : nw_ST), K s2 → nw_G P X nL s2 lv (pc + 3) rest) : nw_G P X nL σ lv pc (.ref (P.2.1 q0) :: rest) :=
  nw_callV (As := []) (rest := rest) (C := RX2) (ci := 2) h (ct2_parse _ P h.2.2 σ q0 hc_q0 K hf) (nw_goodV nw_w18 nw_w19 nw_w20 nw_w16 nw_w21) yd2_parse rfl hR ⟨rfl, rfl⟩ hc_q0 (by decide) rfl rfl hst rfl hd (fun v s2 z => by obtain ⟨rfl, z⟩ := z; exact k s2 z)
def f2_append (K : Int32 → nw_ST → Prop) (σ : nw_ST) (q0 : Nat) (a1 : Int32) : Prop := ((((nw_gS σ q0 4) < (Int32.ofNat (nw_len (nw_rf q0 0)))) → ((vp_in (nw_gS σ q0 4) (nw_len (nw_rf q0 0))) ∧ (f2_parse (fun (s_35 : nw_ST) => (K (1 : Int32) s_35)) (nw_sS (nw_sA σ (nw_rf q0 0) (nw_gS σ q0 4).toNatClampNeg a1) q0 4 ((nw_gS (nw_sA σ (nw_rf q0 0) (nw_gS σ q0 4).toNatClampNeg a1) q0 4) + (1 : Int32))) q0))) ∧ (¬ ((nw_gS σ q0 4) < (Int32.ofNat (nw_len (nw_rf q0 0)))) → (K (0 : Int32) σ)))
def rm2_append : Room := { frames := 2, cells := 0, slots := 0, locals := 47 }
theorem yd2_append : yX2_append.cls = RX2 ∧ yX2_append.cls ≠ "java/lang/invoke/MethodHandle" ∧ yX2_append.cls ≠ "java/lang/invoke/VarHandle" ∧ (parseMethodDescriptor yX2_append.desc).map (fun d => d.parameters.length) = some 1 := by decide +kernel
set_option maxHeartbeats 4000000 in
set_option maxRecDepth 100000 in
theorem ct2_append (l : Launch) (P : nw_PT) (hD : nw_D P) (σ : nw_ST) (q0 : Nat) (a1 : Int32) (hc_q0 : nw_cl q0 = 2) (K : Int32 → nw_ST → Prop) (hf : f2_append K σ q0 a1) : nw_MT l yX2_append cX2_append 2 (some .boolean) rm2_append P [.ref (P.2.1 q0), .int a1] σ (nw_Ki K) := by
  refine nw_enter (by decide) (by first | decide | exact Nat.le_of_ble_eq_true rfl) hD ?_
  intro X hl h he hR
  subst hl
  have h : nw_ok P X cX2_append RX2 2 := h
  show nw_G P X 2 σ [(0, .ref (P.2.1 q0)), (1, .int a1)] 0 []
  unfold f2_append at hf
  refine nw_aload_n (pc := 0) h dX2_append_0 rfl 0 rfl ?_
  refine gf2_24 (pc := 1) h hc_q0 dX2_append_1 ?_
  refine nw_aload_n (pc := 4) h dX2_append_4 rfl 0 rfl ?_
  refine gf2_9 (pc := 5) h hc_q0 rfl dX2_append_5 ?_
  refine nw_ilen (pc := 8) (n := (nw_len (nw_rf q0 0))) (v := (Int32.ofNat (nw_len (nw_rf q0 0)))) h (nw_wt2_0 hc_q0) rfl rfl dX2_append_8 ?_
  refine nw_icmp_lt (pc := 9) (tgt := 14) h dX2_append_9 (by decide) (fun c_9 => ?_) (fun c_9 => ?_)
  · have hf := hf.1 c_9
    refine nw_aload_n (pc := 14) h dX2_append_14 rfl 0 rfl ?_
    refine gf2_9 (pc := 15) h hc_q0 rfl dX2_append_15 ?_
    refine nw_aload_n (pc := 18) h dX2_append_18 rfl 0 rfl ?_
    refine gf2_24 (pc := 19) h hc_q0 dX2_append_19 ?_
    refine nw_iload_n (pc := 22) h dX2_append_22 rfl 1 rfl ?_
    obtain ⟨h_23, hf⟩ := hf
    refine nw_iast (pc := 23) (n := (nw_len (nw_rf q0 0))) h (nw_wt2_0 hc_q0) rfl h_23 dX2_append_23 ?_
    refine nw_aload_n (pc := 24) h dX2_append_24 rfl 0 rfl ?_
    refine nw_dup (pc := 25) h dX2_append_25 rfl ?_
    refine gf2_24 (pc := 26) h hc_q0 dX2_append_26 ?_
    refine nw_iconst (pc := 29) (v := 1) h dX2_append_29 (by decide) ?_
    refine nw_iadd (pc := 30) h dX2_append_30 ?_
    refine pf2_24 (pc := 31) h hc_q0 dX2_append_31 ?_
    refine nw_aload_n (pc := 34) h dX2_append_34 rfl 0 rfl ?_
    refine klX2_34 (pc := 35) h (by rw [hR]; decide) hc_q0 hf (Nat.le_of_ble_eq_true rfl) dX2_append_35 (fun s_35 hf => ?_)
    refine nw_iconst (pc := 38) (v := 1) h dX2_append_38 (by decide) ?_
    exact nw_zret (pc := 39) h he dX2_append_39 (Or.inr rfl) ⟨_, rfl, hf⟩
  · have hf := hf.2 c_9
    refine nw_iconst (pc := 12) (v := 0) h dX2_append_12 (by decide) ?_
    exact nw_zret (pc := 13) h he dX2_append_13 (Or.inl rfl) ⟨_, rfl, hf⟩
theorem klX4_84 {P : nw_PT} {X : nw_EX} {cc : ByteArray} {nL : Nat} {σ : nw_ST} {lv : List (Nat × Value)} {pc : Nat} {rest : List Value} {a1 : Int32} {a2 : Int32} (h : nw_ok P X cc RX4 nL) (hR : rm4_isBelow.frames + 1 ≤ X.2.2.2.1.frames ∧ 8 + (2 + 11) + rm4_isBelow.locals ≤ X.2.2.2.1.locals)  (hst : (rest.map fun v => v.category).sum ≤ 8) (hd : decode cc pc = .ok (.invokestatic 84, 3)) (k : nw_G P X nL σ lv (pc + 3) (.int (v4_isBelow a1 a2) :: rest)) : nw_G P X nL σ lv pc (.int a2 :: .int a1 :: rest) :=
  nw_callS (As := [.int a1, .int a2]) (rest := rest) h (ct4_isBelow _ P h.2.2 σ a1 a2) (nw_goodS nw_w22 nw_w23 nw_w24 nw_w25) yd4_isBelow.2 rfl hR ⟨rfl, rfl⟩ hst rfl hd (fun v s2 z => by obtain ⟨r, rfl, rfl, rfl⟩ := z; exact k)
theorem klX4_88 {P : nw_PT} {X : nw_EX} {cc : ByteArray} {nL : Nat} {σ : nw_ST} {lv : List (Nat × Value)} {pc : Nat} {rest : List Value} {a1 : Int32} (h : nw_ok P X cc RX4 nL) (hR : rm4_textOf.frames + 1 ≤ X.2.2.2.1.frames ∧ 8 + (2 + 11) + rm4_textOf.locals ≤ X.2.2.2.1.locals)  (hst : (rest.map fun v => v.category).sum ≤ 8) (hd : decode cc pc = .ok (.invokevirtual 88, 3)) (k : nw_G P X nL σ lv (pc + 3) (.ref (P.2.1 (v4_textOf a1)) :: rest)) : nw_G P X nL σ lv pc (.int a1 :: .ref (P.2.1 0) :: rest) :=
  nw_callV (As := [.int a1]) (rest := rest) (C := RX4) (ci := 4) h (ct4_textOf _ P h.2.2 σ a1) (nw_goodV nw_w26 nw_w27 nw_w28 nw_w24 nw_w29) yd4_textOf rfl hR ⟨rfl, rfl⟩ rfl (by decide) rfl rfl hst rfl hd (fun v s2 z => by obtain ⟨r, rfl, z1, rfl, rfl⟩ := z; exact k)
theorem klX4_92 {P : nw_PT} {X : nw_EX} {cc : ByteArray} {nL : Nat} {σ : nw_ST} {lv : List (Nat × Value)} {pc : Nat} {rest : List Value} {q0 : Nat} {a1 : Int32} (h : nw_ok P X cc RX4 nL) (hR : rm2_append.frames + 1 ≤ X.2.2.2.1.frames ∧ 8 + (2 + 11) + rm2_append.locals ≤ X.2.2.2.1.locals) (hc_q0 : nw_cl q0 = 2) {K : Int32 → nw_ST → Prop} (hf : f2_append K σ q0 a1) (hst : (rest.map fun v => v.category).sum ≤ 8) (hd : decode cc pc = .ok (.invokevirtual 92, 3)) (k : ∀ (r : Int32) (s2 : nw_ST), K r s2 → nw_G P X nL s2 lv (pc + 3) (.int r :: rest)) : nw_G P X nL σ lv pc (.int a1 :: .ref (P.2.1 q0) :: rest) :=
  nw_callV (As := [.int a1]) (rest := rest) (C := RX2) (ci := 2) h (ct2_append _ P h.2.2 σ q0 a1 hc_q0 K hf) (nw_goodV nw_w30 nw_w31 nw_w32 nw_w16 nw_w33) yd2_append rfl hR ⟨rfl, rfl⟩ hc_q0 (by decide) rfl rfl hst rfl hd (fun v s2 z => by obtain ⟨r, rfl, z⟩ := z; exact k r s2 z)
theorem pf4_80 {P : nw_PT} {X : nw_EX} {cc : ByteArray} {nL : Nat} {σ : nw_ST} {lv : List (Nat × Value)} {pc : Nat} {st : List Value} {q : Nat} (h : nw_ok P X cc RX4 nL) (hq : nw_cl q = 4) {v : Int32} (hz : nw_isZ v) (hd : decode cc pc = .ok (.putfield 80, 3)) (k : nw_G P X nL (nw_sS σ q 12 v) lv (pc + 3) st) : nw_G P X nL σ lv pc (.int v :: .ref (P.2.1 q) :: st) := by
  intro H locs ls h1 h2 h3
  exact va_put (D := P.1) (ci := 4) (ty := .boolean) (C := RX4) (T := TX4) (N := 13) h.1.1 h.1.2.1 h.1.2.2.2.2 in_T4 tyX4 tyX4_ok nmX4 h.1.2.2.2.1 h.2.1.1 h1 (h.2.2 σ) h2 q (nw_at4 hq) rfl 12 (by decide) (h.1.2.2.2.2 _ nw_w34) (fun _ z => z) rfl (by decide +kernel) (by rcases hz with rfl | rfl <;> decide) (by rcases hz with rfl | rfl <;> decide) (by show 12 < 13; decide) hd (fun H1 locs1 g1 _ g2 => k H1 locs1 ls (by rw [nw_set4_12 hq] at g1; exact g1) g2 h3)
theorem gf4_96 {P : nw_PT} {X : nw_EX} {cc : ByteArray} {nL : Nat} {σ : nw_ST} {lv : List (Nat × Value)} {pc : Nat} {st : List Value} {q : Nat} (h : nw_ok P X cc RX4 nL) (hq : nw_cl q = 2) (hd : decode cc pc = .ok (.getfield 96, 3)) (k : nw_G P X nL σ lv (pc + 3) (.int (nw_gS σ q 4) :: st)) : nw_G P X nL σ lv pc (.ref (P.2.1 q) :: st) := by
  intro H locs ls h1 h2 h3
  exact va_getN (D := P.1) (ci := 2) (C := RX2) (T := TX2) (N := 7) h.1.1 h.1.2.1 h.1.2.2.2.2 in_T2 h.1.2.2.2.1 h.2.1.1 h1 q (nw_at2 hq) rfl 4 (by decide) (va_Nw.use rfl (h.2.1.2.1 ("NumberedWaves", 96, "NumberedWaves$Text", "length", "I", "NumberedWaves") (by decide +kernel))) (fun _ z => z) rfl hd (k H locs ls h1 h2 h3)
def f4_type_18 (K : Int32 → nw_ST → Prop) (σ : nw_ST) : Prop := (K (-2 : Int32) σ)
def f4_type (K : Int32 → nw_ST → Prop) (σ : nw_ST) (a1 : Int32) (a2 : Int32) : Prop := ((((v4_isBelow a1 (2 : Int32)) = 0) → (f4_type_18 K σ)) ∧ (¬ ((v4_isBelow a1 (2 : Int32)) = 0) → ((((v4_isBelow a2 (256 : Int32)) = 0) → (f4_type_18 K σ)) ∧ (¬ ((v4_isBelow a2 (256 : Int32)) = 0) → (f2_append (fun (r_29 : Int32) (s_29 : nw_ST) => (((r_29 = 0) → (K (-4 : Int32) s_29)) ∧ (¬ (r_29 = 0) → (K (nw_gS (nw_sS s_29 0 12 (0 : Int32)) (v4_textOf a1) 4) (nw_sS s_29 0 12 (0 : Int32)))))) σ (v4_textOf a1) a2)))))
def rm4_type : Room := { frames := 3, cells := 0, slots := 0, locals := 68 }
theorem yd4_type : yX4_type.cls = RX4 ∧ yX4_type.cls ≠ "java/lang/invoke/MethodHandle" ∧ yX4_type.cls ≠ "java/lang/invoke/VarHandle" ∧ (parseMethodDescriptor yX4_type.desc).map (fun d => d.parameters.length) = some 2 := by decide +kernel
set_option maxHeartbeats 4000000 in
set_option maxRecDepth 100000 in
theorem ct4_type (l : Launch) (P : nw_PT) (hD : nw_D P) (σ : nw_ST) (a1 : Int32) (a2 : Int32)  (K : Int32 → nw_ST → Prop) (hf : f4_type K σ a1 a2) : nw_MT l yX4_type cX4_type 4 (some .int) rm4_type P [.ref (P.2.1 0), .int a1, .int a2] σ (nw_Ki K) := by
  refine nw_enter (by decide) (by first | decide | exact Nat.le_of_ble_eq_true rfl) hD ?_
  intro X hl h he hR
  subst hl
  have h : nw_ok P X cX4_type RX4 4 := h
  show nw_G P X 4 σ [(0, .ref (P.2.1 0)), (1, .int a1), (2, .int a2)] 0 []
  have hL_18 :  ∀ (σ : nw_ST), f4_type_18 K σ → nw_G P X 4 σ [] 18 [] := by
    intro σ hf
    unfold f4_type_18 at hf
    refine nw_bipush (pc := 18) (v := -2) h dX4_type_18 (by decide) ?_
    exact nw_iret (pc := 20) h he dX4_type_20 ⟨_, rfl, hf⟩
  unfold f4_type at hf
  refine nw_iload_n (pc := 0) h dX4_type_0 rfl 1 rfl ?_
  refine nw_iconst (pc := 1) (v := 2) h dX4_type_1 (by decide) ?_
  refine klX4_84 (pc := 2) h (by rw [hR]; decide) (Nat.le_of_ble_eq_true rfl) dX4_type_2 ?_
  refine nw_if_eq (pc := 5) (tgt := 18) h dX4_type_5 (by decide) (fun c_5 => ?_) (fun c_5 => ?_)
  · have hf := hf.1 c_5
    refine nw_sub (lv' := []) [] rfl ?_
    exact hL_18 _ (hf)
  · have hf := hf.2 c_5
    refine nw_iload_n (pc := 8) h dX4_type_8 rfl 2 rfl ?_
    refine nw_sipush (pc := 9) (v := 256) h dX4_type_9 (by decide) ?_
    refine klX4_84 (pc := 12) h (by rw [hR]; decide) (Nat.le_of_ble_eq_true rfl) dX4_type_12 ?_
    refine nw_if_ne (pc := 15) (tgt := 21) h dX4_type_15 (by decide) (fun c_15 => ?_) (fun c_15 => ?_)
    · have hf := hf.2 c_15
      refine nw_aload_n (pc := 21) h dX4_type_21 rfl 0 rfl ?_
      refine nw_iload_n (pc := 22) h dX4_type_22 rfl 1 rfl ?_
      refine klX4_88 (pc := 23) h (by rw [hR]; decide) (Nat.le_of_ble_eq_true rfl) dX4_type_23 ?_
      refine nw_astore_n (pc := 26) (lv' := [(3, .ref (P.2.1 (v4_textOf a1))), (0, .ref (P.2.1 0)), (1, .int a1), (2, .int a2)]) h dX4_type_26 rfl (by decide) rfl ?_
      refine nw_aload_n (pc := 27) h dX4_type_27 rfl 0 rfl ?_
      refine nw_iload_n (pc := 28) h dX4_type_28 rfl 3 rfl ?_
      refine klX4_92 (pc := 29) h (by rw [hR]; decide) (cl4_textOf a1) hf (Nat.le_of_ble_eq_true rfl) dX4_type_29 (fun r_29 s_29 hf => ?_)
      refine nw_if_ne (pc := 32) (tgt := 38) h dX4_type_32 (by decide) (fun c_32 => ?_) (fun c_32 => ?_)
      · have hf := hf.2 c_32
        refine nw_aload_n (pc := 38) h dX4_type_38 rfl 1 rfl ?_
        refine nw_iconst (pc := 39) (v := 0) h dX4_type_39 (by decide) ?_
        refine pf4_80 (pc := 40) h rfl (Or.inl rfl) dX4_type_40 ?_
        refine nw_aload_n (pc := 43) h dX4_type_43 rfl 0 rfl ?_
        refine gf4_96 (pc := 44) h (cl4_textOf a1) dX4_type_44 ?_
        exact nw_iret (pc := 47) h he dX4_type_47 ⟨_, rfl, hf⟩
      · have hf := hf.1 c_32
        refine nw_bipush (pc := 35) (v := -4) h dX4_type_35 (by decide) ?_
        exact nw_iret (pc := 37) h he dX4_type_37 ⟨_, rfl, hf⟩
    · have hf := hf.1 c_15
      refine nw_sub (lv' := []) [] rfl ?_
      exact hL_18 _ (hf)
def f2_cutTo (K : nw_ST → Prop) (σ : nw_ST) (q0 : Nat) (a1 : Int32) : Prop := (f2_parse (fun (s_6 : nw_ST) => (K s_6)) (nw_sS σ q0 4 a1) q0)
def rm2_cutTo : Room := { frames := 2, cells := 0, slots := 0, locals := 47 }
theorem yd2_cutTo : yX2_cutTo.cls = RX2 ∧ yX2_cutTo.cls ≠ "java/lang/invoke/MethodHandle" ∧ yX2_cutTo.cls ≠ "java/lang/invoke/VarHandle" ∧ (parseMethodDescriptor yX2_cutTo.desc).map (fun d => d.parameters.length) = some 1 := by decide +kernel
set_option maxHeartbeats 4000000 in
set_option maxRecDepth 100000 in
theorem ct2_cutTo (l : Launch) (P : nw_PT) (hD : nw_D P) (σ : nw_ST) (q0 : Nat) (a1 : Int32) (hc_q0 : nw_cl q0 = 2) (K : nw_ST → Prop) (hf : f2_cutTo K σ q0 a1) : nw_MT l yX2_cutTo cX2_cutTo 2 none rm2_cutTo P [.ref (P.2.1 q0), .int a1] σ (nw_Kv K) := by
  refine nw_enter (by decide) (by first | decide | exact Nat.le_of_ble_eq_true rfl) hD ?_
  intro X hl h he hR
  subst hl
  have h : nw_ok P X cX2_cutTo RX2 2 := h
  show nw_G P X 2 σ [(0, .ref (P.2.1 q0)), (1, .int a1)] 0 []
  unfold f2_cutTo at hf
  refine nw_aload_n (pc := 0) h dX2_cutTo_0 rfl 0 rfl ?_
  refine nw_iload_n (pc := 1) h dX2_cutTo_1 rfl 1 rfl ?_
  refine pf2_24 (pc := 2) h hc_q0 dX2_cutTo_2 ?_
  refine nw_aload_n (pc := 5) h dX2_cutTo_5 rfl 0 rfl ?_
  refine klX2_34 (pc := 6) h (by rw [hR]; decide) hc_q0 hf (Nat.le_of_ble_eq_true rfl) dX2_cutTo_6 (fun s_6 hf => ?_)
  exact nw_vret (pc := 9) h he dX2_cutTo_9 ⟨rfl, hf⟩
theorem klX4_99 {P : nw_PT} {X : nw_EX} {cc : ByteArray} {nL : Nat} {σ : nw_ST} {lv : List (Nat × Value)} {pc : Nat} {rest : List Value} {q0 : Nat} {a1 : Int32} (h : nw_ok P X cc RX4 nL) (hR : rm2_cutTo.frames + 1 ≤ X.2.2.2.1.frames ∧ 8 + (2 + 11) + rm2_cutTo.locals ≤ X.2.2.2.1.locals) (hc_q0 : nw_cl q0 = 2) {K : nw_ST → Prop} (hf : f2_cutTo K σ q0 a1) (hst : (rest.map fun v => v.category).sum ≤ 8) (hd : decode cc pc = .ok (.invokevirtual 99, 3)) (k : ∀ (s2 : nw_ST), K s2 → nw_G P X nL s2 lv (pc + 3) rest) : nw_G P X nL σ lv pc (.int a1 :: .ref (P.2.1 q0) :: rest) :=
  nw_callV (As := [.int a1]) (rest := rest) (C := RX2) (ci := 2) h (ct2_cutTo _ P h.2.2 σ q0 a1 hc_q0 K hf) (nw_goodV nw_w35 nw_w36 nw_w37 nw_w16 nw_w38) yd2_cutTo rfl hR ⟨rfl, rfl⟩ hc_q0 (by decide) rfl rfl hst rfl hd (fun v s2 z => by obtain ⟨rfl, z⟩ := z; exact k s2 z)
def f4_wipe (K : Int32 → nw_ST → Prop) (σ : nw_ST) (a1 : Int32) : Prop := ((((v4_isBelow a1 (2 : Int32)) = 0) → (K (-2 : Int32) σ)) ∧ (¬ ((v4_isBelow a1 (2 : Int32)) = 0) → (f2_cutTo (fun (s_24 : nw_ST) => (K (nw_gS σ (v4_textOf a1) 4) (nw_sS s_24 0 12 (0 : Int32)))) σ (v4_textOf a1) (0 : Int32))))
def rm4_wipe : Room := { frames := 3, cells := 0, slots := 0, locals := 68 }
theorem yd4_wipe : yX4_wipe.cls = RX4 ∧ yX4_wipe.cls ≠ "java/lang/invoke/MethodHandle" ∧ yX4_wipe.cls ≠ "java/lang/invoke/VarHandle" ∧ (parseMethodDescriptor yX4_wipe.desc).map (fun d => d.parameters.length) = some 1 := by decide +kernel
set_option maxHeartbeats 4000000 in
set_option maxRecDepth 100000 in
theorem ct4_wipe (l : Launch) (P : nw_PT) (hD : nw_D P) (σ : nw_ST) (a1 : Int32)  (K : Int32 → nw_ST → Prop) (hf : f4_wipe K σ a1) : nw_MT l yX4_wipe cX4_wipe 4 (some .int) rm4_wipe P [.ref (P.2.1 0), .int a1] σ (nw_Ki K) := by
  refine nw_enter (by decide) (by first | decide | exact Nat.le_of_ble_eq_true rfl) hD ?_
  intro X hl h he hR
  subst hl
  have h : nw_ok P X cX4_wipe RX4 4 := h
  show nw_G P X 4 σ [(0, .ref (P.2.1 0)), (1, .int a1)] 0 []
  unfold f4_wipe at hf
  refine nw_iload_n (pc := 0) h dX4_wipe_0 rfl 1 rfl ?_
  refine nw_iconst (pc := 1) (v := 2) h dX4_wipe_1 (by decide) ?_
  refine klX4_84 (pc := 2) h (by rw [hR]; decide) (Nat.le_of_ble_eq_true rfl) dX4_wipe_2 ?_
  refine nw_if_ne (pc := 5) (tgt := 11) h dX4_wipe_5 (by decide) (fun c_5 => ?_) (fun c_5 => ?_)
  · have hf := hf.2 c_5
    refine nw_aload_n (pc := 11) h dX4_wipe_11 rfl 0 rfl ?_
    refine nw_iload_n (pc := 12) h dX4_wipe_12 rfl 1 rfl ?_
    refine klX4_88 (pc := 13) h (by rw [hR]; decide) (Nat.le_of_ble_eq_true rfl) dX4_wipe_13 ?_
    refine nw_astore_n (pc := 16) (lv' := [(2, .ref (P.2.1 (v4_textOf a1))), (0, .ref (P.2.1 0)), (1, .int a1)]) h dX4_wipe_16 rfl (by decide) rfl ?_
    refine nw_aload_n (pc := 17) h dX4_wipe_17 rfl 0 rfl ?_
    refine gf4_96 (pc := 18) h (cl4_textOf a1) dX4_wipe_18 ?_
    refine nw_istore_n (pc := 21) (lv' := [(3, .int (nw_gS σ (v4_textOf a1) 4)), (2, .ref (P.2.1 (v4_textOf a1))), (0, .ref (P.2.1 0)), (1, .int a1)]) h dX4_wipe_21 rfl (by decide) rfl ?_
    refine nw_aload_n (pc := 22) h dX4_wipe_22 rfl 1 rfl ?_
    refine nw_iconst (pc := 23) (v := 0) h dX4_wipe_23 (by decide) ?_
    refine klX4_99 (pc := 24) h (by rw [hR]; decide) (cl4_textOf a1) hf (Nat.le_of_ble_eq_true rfl) dX4_wipe_24 (fun s_24 hf => ?_)
    refine nw_aload_n (pc := 27) h dX4_wipe_27 rfl 2 rfl ?_
    refine nw_iconst (pc := 28) (v := 0) h dX4_wipe_28 (by decide) ?_
    refine pf4_80 (pc := 29) h rfl (Or.inl rfl) dX4_wipe_29 ?_
    refine nw_iload_n (pc := 32) h dX4_wipe_32 rfl 0 rfl ?_
    exact nw_iret (pc := 33) h he dX4_wipe_33 ⟨_, rfl, hf⟩
  · have hf := hf.1 c_5
    refine nw_bipush (pc := 8) (v := -2) h dX4_wipe_8 (by decide) ?_
    exact nw_iret (pc := 10) h he dX4_wipe_10 ⟨_, rfl, hf⟩
def f4_undo (K : Int32 → nw_ST → Prop) (σ : nw_ST) (a1 : Int32) : Prop := ((((v4_isBelow a1 (2 : Int32)) = 0) → (K (-2 : Int32) σ)) ∧ (¬ ((v4_isBelow a1 (2 : Int32)) = 0) → ((((nw_gS σ (v4_textOf a1) 4) = 0) → (K (-3 : Int32) σ)) ∧ (¬ ((nw_gS σ (v4_textOf a1) 4) = 0) → (f2_cutTo (fun (s_34 : nw_ST) => (K (nw_gS (nw_sS s_34 0 12 (0 : Int32)) (v4_textOf a1) 4) (nw_sS s_34 0 12 (0 : Int32)))) σ (v4_textOf a1) ((nw_gS σ (v4_textOf a1) 4) - (1 : Int32)))))))
def rm4_undo : Room := { frames := 3, cells := 0, slots := 0, locals := 68 }
theorem yd4_undo : yX4_undo.cls = RX4 ∧ yX4_undo.cls ≠ "java/lang/invoke/MethodHandle" ∧ yX4_undo.cls ≠ "java/lang/invoke/VarHandle" ∧ (parseMethodDescriptor yX4_undo.desc).map (fun d => d.parameters.length) = some 1 := by decide +kernel
set_option maxHeartbeats 4000000 in
set_option maxRecDepth 100000 in
theorem ct4_undo (l : Launch) (P : nw_PT) (hD : nw_D P) (σ : nw_ST) (a1 : Int32)  (K : Int32 → nw_ST → Prop) (hf : f4_undo K σ a1) : nw_MT l yX4_undo cX4_undo 3 (some .int) rm4_undo P [.ref (P.2.1 0), .int a1] σ (nw_Ki K) := by
  refine nw_enter (by decide) (by first | decide | exact Nat.le_of_ble_eq_true rfl) hD ?_
  intro X hl h he hR
  subst hl
  have h : nw_ok P X cX4_undo RX4 3 := h
  show nw_G P X 3 σ [(0, .ref (P.2.1 0)), (1, .int a1)] 0 []
  unfold f4_undo at hf
  refine nw_iload_n (pc := 0) h dX4_undo_0 rfl 1 rfl ?_
  refine nw_iconst (pc := 1) (v := 2) h dX4_undo_1 (by decide) ?_
  refine klX4_84 (pc := 2) h (by rw [hR]; decide) (Nat.le_of_ble_eq_true rfl) dX4_undo_2 ?_
  refine nw_if_ne (pc := 5) (tgt := 11) h dX4_undo_5 (by decide) (fun c_5 => ?_) (fun c_5 => ?_)
  · have hf := hf.2 c_5
    refine nw_aload_n (pc := 11) h dX4_undo_11 rfl 0 rfl ?_
    refine nw_iload_n (pc := 12) h dX4_undo_12 rfl 1 rfl ?_
    refine klX4_88 (pc := 13) h (by rw [hR]; decide) (Nat.le_of_ble_eq_true rfl) dX4_undo_13 ?_
    refine nw_astore_n (pc := 16) (lv' := [(2, .ref (P.2.1 (v4_textOf a1))), (0, .ref (P.2.1 0)), (1, .int a1)]) h dX4_undo_16 rfl (by decide) rfl ?_
    refine nw_aload_n (pc := 17) h dX4_undo_17 rfl 0 rfl ?_
    refine gf4_96 (pc := 18) h (cl4_textOf a1) dX4_undo_18 ?_
    refine nw_if_ne (pc := 21) (tgt := 27) h dX4_undo_21 (by decide) (fun c_21 => ?_) (fun c_21 => ?_)
    · have hf := hf.2 c_21
      refine nw_aload_n (pc := 27) h dX4_undo_27 rfl 0 rfl ?_
      refine nw_aload_n (pc := 28) h dX4_undo_28 rfl 0 rfl ?_
      refine gf4_96 (pc := 29) h (cl4_textOf a1) dX4_undo_29 ?_
      refine nw_iconst (pc := 32) (v := 1) h dX4_undo_32 (by decide) ?_
      refine nw_isub (pc := 33) h dX4_undo_33 ?_
      refine klX4_99 (pc := 34) h (by rw [hR]; decide) (cl4_textOf a1) hf (Nat.le_of_ble_eq_true rfl) dX4_undo_34 (fun s_34 hf => ?_)
      refine nw_aload_n (pc := 37) h dX4_undo_37 rfl 1 rfl ?_
      refine nw_iconst (pc := 38) (v := 0) h dX4_undo_38 (by decide) ?_
      refine pf4_80 (pc := 39) h rfl (Or.inl rfl) dX4_undo_39 ?_
      refine nw_aload_n (pc := 42) h dX4_undo_42 rfl 0 rfl ?_
      refine gf4_96 (pc := 43) h (cl4_textOf a1) dX4_undo_43 ?_
      exact nw_iret (pc := 46) h he dX4_undo_46 ⟨_, rfl, hf⟩
    · have hf := hf.1 c_21
      refine nw_bipush (pc := 24) (v := -3) h dX4_undo_24 (by decide) ?_
      exact nw_iret (pc := 26) h he dX4_undo_26 ⟨_, rfl, hf⟩
  · have hf := hf.1 c_5
    refine nw_bipush (pc := 8) (v := -2) h dX4_undo_8 (by decide) ?_
    exact nw_iret (pc := 10) h he dX4_undo_10 ⟨_, rfl, hf⟩
theorem gf4_102 {P : nw_PT} {X : nw_EX} {cc : ByteArray} {nL : Nat} {σ : nw_ST} {lv : List (Nat × Value)} {pc : Nat} {st : List Value} {q : Nat} (h : nw_ok P X cc RX4 nL) (hq : nw_cl q = 2) (hd : decode cc pc = .ok (.getfield 102, 3)) (k : nw_G P X nL σ lv (pc + 3) (.int (nw_gS σ q 5) :: st)) : nw_G P X nL σ lv pc (.ref (P.2.1 q) :: st) := by
  intro H locs ls h1 h2 h3
  exact va_getN (D := P.1) (ci := 2) (C := RX2) (T := TX2) (N := 7) h.1.1 h.1.2.1 h.1.2.2.2.2 in_T2 h.1.2.2.2.1 h.2.1.1 h1 q (nw_at2 hq) rfl 5 (by decide) (va_Nw.use rfl (h.2.1.2.1 ("NumberedWaves", 102, "NumberedWaves$Text", "flaw", "I", "NumberedWaves") (by decide +kernel))) (fun _ z => z) rfl hd (k H locs ls h1 h2 h3)
def v4_fault (σ : nw_ST) (a1 : Int32) : Int32 := (if ((v4_isBelow a1 (2 : Int32)) = 0) then (-2 : Int32) else (nw_gS σ (v4_textOf a1) 5))
def rm4_fault : Room := { frames := 1, cells := 0, slots := 0, locals := 21 }
theorem yd4_fault : yX4_fault.cls = RX4 ∧ yX4_fault.cls ≠ "java/lang/invoke/MethodHandle" ∧ yX4_fault.cls ≠ "java/lang/invoke/VarHandle" ∧ (parseMethodDescriptor yX4_fault.desc).map (fun d => d.parameters.length) = some 1 := by decide +kernel
set_option maxHeartbeats 4000000 in
set_option maxRecDepth 100000 in
theorem ct4_fault (l : Launch) (P : nw_PT) (hD : nw_D P) (σ : nw_ST) (a1 : Int32)   : nw_MT l yX4_fault cX4_fault 2 (some .int) rm4_fault P [.ref (P.2.1 0), .int a1] σ (nw_Ki (fun r s2 => r = (v4_fault σ a1) ∧ s2 = σ)) := by
  refine nw_enter (by decide) (by first | decide | exact Nat.le_of_ble_eq_true rfl) hD ?_
  intro X hl h he hR
  subst hl
  have h : nw_ok P X cX4_fault RX4 2 := h
  show nw_G P X 2 σ [(0, .ref (P.2.1 0)), (1, .int a1)] 0 []
  refine nw_iload_n (pc := 0) h dX4_fault_0 rfl 1 rfl ?_
  refine nw_iconst (pc := 1) (v := 2) h dX4_fault_1 (by decide) ?_
  refine klX4_84 (pc := 2) h (by rw [hR]; decide) (Nat.le_of_ble_eq_true rfl) dX4_fault_2 ?_
  refine nw_if_eq (pc := 5) (tgt := 19) h dX4_fault_5 (by decide) (fun c_5 => ?_) (fun c_5 => ?_)
  · skip
    refine nw_bipush (pc := 19) (v := -2) h dX4_fault_19 (by decide) ?_
    exact nw_iret (pc := 21) h he dX4_fault_21 ⟨_, rfl, (by unfold v4_fault; rw [if_pos c_5]), rfl⟩
  · skip
    refine nw_aload_n (pc := 8) h dX4_fault_8 rfl 0 rfl ?_
    refine nw_iload_n (pc := 9) h dX4_fault_9 rfl 1 rfl ?_
    refine klX4_88 (pc := 10) h (by rw [hR]; decide) (Nat.le_of_ble_eq_true rfl) dX4_fault_10 ?_
    refine gf4_102 (pc := 13) h (cl4_textOf a1) dX4_fault_13 ?_
    refine nw_goto (pc := 16) (tgt := 21) h dX4_fault_16 (by decide) ?_
    exact nw_iret (pc := 21) h he dX4_fault_21 ⟨_, rfl, (by unfold v4_fault; rw [if_neg c_5]), rfl⟩
def v2_part (σ : nw_ST) (q0 : Nat) (a1 : Int32) (a2 : Int32) : Int32 := (nw_gA σ (nw_rf q0 3) (((3 : Int32) * a1) + a2).toNatClampNeg)
def o2_part (σ : nw_ST) (q0 : Nat) (a1 : Int32) (a2 : Int32) : Prop := (vp_in (((3 : Int32) * a1) + a2) (nw_len (nw_rf q0 3)))
def rm2_part : Room := { frames := 0, cells := 0, slots := 0, locals := 0 }
theorem yd2_part : yX2_part.cls = RX2 ∧ yX2_part.cls ≠ "java/lang/invoke/MethodHandle" ∧ yX2_part.cls ≠ "java/lang/invoke/VarHandle" ∧ (parseMethodDescriptor yX2_part.desc).map (fun d => d.parameters.length) = some 2 := by decide +kernel
set_option maxHeartbeats 4000000 in
set_option maxRecDepth 100000 in
theorem ct2_part (l : Launch) (P : nw_PT) (hD : nw_D P) (σ : nw_ST) (q0 : Nat) (a1 : Int32) (a2 : Int32) (hc_q0 : nw_cl q0 = 2) (ho : o2_part σ q0 a1 a2) : nw_MT l yX2_part cX2_part 3 (some .int) rm2_part P [.ref (P.2.1 q0), .int a1, .int a2] σ (nw_Ki (fun r s2 => r = (v2_part σ q0 a1 a2) ∧ s2 = σ)) := by
  refine nw_enter (by decide) (by first | decide | exact Nat.le_of_ble_eq_true rfl) hD ?_
  intro X hl h he hR
  subst hl
  have h : nw_ok P X cX2_part RX2 3 := h
  show nw_G P X 3 σ [(0, .ref (P.2.1 q0)), (1, .int a1), (2, .int a2)] 0 []
  unfold o2_part at ho
  refine nw_aload_n (pc := 0) h dX2_part_0 rfl 0 rfl ?_
  refine gf2_21 (pc := 1) h hc_q0 rfl dX2_part_1 ?_
  refine nw_iconst (pc := 4) (v := 3) h dX2_part_4 (by decide) ?_
  refine nw_iload_n (pc := 5) h dX2_part_5 rfl 1 rfl ?_
  refine nw_imul (pc := 6) h dX2_part_6 ?_
  refine nw_iload_n (pc := 7) h dX2_part_7 rfl 2 rfl ?_
  refine nw_iadd (pc := 8) h dX2_part_8 ?_
  have h_9 := ho
  refine nw_iald (pc := 9) (n := (nw_len (nw_rf q0 3))) h (nw_wt2_3 hc_q0) rfl h_9 dX2_part_9 ?_
  exact nw_iret (pc := 10) h he dX2_part_10 ⟨_, rfl, rfl, rfl⟩
theorem gf4_178 {P : nw_PT} {X : nw_EX} {cc : ByteArray} {nL : Nat} {σ : nw_ST} {lv : List (Nat × Value)} {pc : Nat} {st : List Value} {q : Nat} (h : nw_ok P X cc RX4 nL) (hq : nw_cl q = 2) (hd : decode cc pc = .ok (.getfield 178, 3)) (k : nw_G P X nL σ lv (pc + 3) (.int (nw_gS σ q 6) :: st)) : nw_G P X nL σ lv pc (.ref (P.2.1 q) :: st) := by
  intro H locs ls h1 h2 h3
  exact va_getN (D := P.1) (ci := 2) (C := RX2) (T := TX2) (N := 7) h.1.1 h.1.2.1 h.1.2.2.2.2 in_T2 h.1.2.2.2.1 h.2.1.1 h1 q (nw_at2 hq) rfl 6 (by decide) (va_Nw.use rfl (h.2.1.2.1 ("NumberedWaves", 178, "NumberedWaves$Text", "entries", "I", "NumberedWaves") (by decide +kernel))) (fun _ z => z) rfl hd (k H locs ls h1 h2 h3)
theorem klX4_181 {P : nw_PT} {X : nw_EX} {cc : ByteArray} {nL : Nat} {σ : nw_ST} {lv : List (Nat × Value)} {pc : Nat} {rest : List Value} {q0 : Nat} {a1 : Int32} {a2 : Int32} (h : nw_ok P X cc RX4 nL) (hR : rm2_part.frames + 1 ≤ X.2.2.2.1.frames ∧ 8 + (3 + 11) + rm2_part.locals ≤ X.2.2.2.1.locals) (hc_q0 : nw_cl q0 = 2) (ho : o2_part σ q0 a1 a2) (hst : (rest.map fun v => v.category).sum ≤ 8) (hd : decode cc pc = .ok (.invokevirtual 181, 3)) (k : nw_G P X nL σ lv (pc + 3) (.int (v2_part σ q0 a1 a2) :: rest)) : nw_G P X nL σ lv pc (.int a2 :: .int a1 :: .ref (P.2.1 q0) :: rest) :=
  nw_callV (As := [.int a1, .int a2]) (rest := rest) (C := RX2) (ci := 2) h (ct2_part _ P h.2.2 σ q0 a1 a2 hc_q0 ho) (nw_goodV nw_w39 nw_w40 nw_w41 nw_w16 nw_w42) yd2_part rfl hR ⟨rfl, rfl⟩ hc_q0 (by decide) rfl rfl hst rfl hd (fun v s2 z => by obtain ⟨r, rfl, rfl, rfl⟩ := z; exact k)
def v4_partOf (σ : nw_ST) (q1 : Nat) (a2 : Int32) (a3 : Int32) : Int32 := (if ((v4_isBelow a2 (nw_gS σ q1 6)) = 0) then (-2 : Int32) else (if ((v4_isBelow a3 (3 : Int32)) = 0) then (-2 : Int32) else (v2_part σ q1 a2 a3)))
def o4_partOf (σ : nw_ST) (q1 : Nat) (a2 : Int32) (a3 : Int32) : Prop := ((((v4_isBelow a2 (nw_gS σ q1 6)) = 0) → True) ∧ (¬ ((v4_isBelow a2 (nw_gS σ q1 6)) = 0) → ((((v4_isBelow a3 (3 : Int32)) = 0) → True) ∧ (¬ ((v4_isBelow a3 (3 : Int32)) = 0) → (o2_part σ q1 a2 a3)))))
def rm4_partOf : Room := { frames := 1, cells := 0, slots := 0, locals := 22 }
theorem yd4_partOf : yX4_partOf.cls = RX4 ∧ yX4_partOf.cls ≠ "java/lang/invoke/MethodHandle" ∧ yX4_partOf.cls ≠ "java/lang/invoke/VarHandle" ∧ (parseMethodDescriptor yX4_partOf.desc).map (fun d => d.parameters.length) = some 3 := by decide +kernel
set_option maxHeartbeats 4000000 in
set_option maxRecDepth 100000 in
theorem ct4_partOf (l : Launch) (P : nw_PT) (hD : nw_D P) (σ : nw_ST) (q1 : Nat) (a2 : Int32) (a3 : Int32) (hc_q1 : nw_cl q1 = 2) (ho : o4_partOf σ q1 a2 a3) : nw_MT l yX4_partOf cX4_partOf 3 (some .int) rm4_partOf P [.ref (P.2.1 q1), .int a2, .int a3] σ (nw_Ki (fun r s2 => r = (v4_partOf σ q1 a2 a3) ∧ s2 = σ)) := by
  refine nw_enter (by decide) (by first | decide | exact Nat.le_of_ble_eq_true rfl) hD ?_
  intro X hl h he hR
  subst hl
  have h : nw_ok P X cX4_partOf RX4 3 := h
  show nw_G P X 3 σ [(0, .ref (P.2.1 q1)), (1, .int a2), (2, .int a3)] 0 []
  unfold o4_partOf at ho
  refine nw_iload_n (pc := 0) h dX4_partOf_0 rfl 1 rfl ?_
  refine nw_aload_n (pc := 1) h dX4_partOf_1 rfl 0 rfl ?_
  refine gf4_178 (pc := 2) h hc_q1 dX4_partOf_2 ?_
  refine klX4_84 (pc := 5) h (by rw [hR]; decide) (Nat.le_of_ble_eq_true rfl) dX4_partOf_5 ?_
  refine nw_if_eq (pc := 8) (tgt := 28) h dX4_partOf_8 (by decide) (fun c_8 => ?_) (fun c_8 => ?_)
  · skip
    have ho := ho.1 c_8
    refine nw_bipush (pc := 28) (v := -2) h dX4_partOf_28 (by decide) ?_
    exact nw_iret (pc := 30) h he dX4_partOf_30 ⟨_, rfl, (by unfold v4_partOf; rw [if_pos c_8]), rfl⟩
  · skip
    have ho := ho.2 c_8
    refine nw_iload_n (pc := 11) h dX4_partOf_11 rfl 2 rfl ?_
    refine nw_iconst (pc := 12) (v := 3) h dX4_partOf_12 (by decide) ?_
    refine klX4_84 (pc := 13) h (by rw [hR]; decide) (Nat.le_of_ble_eq_true rfl) dX4_partOf_13 ?_
    refine nw_if_eq (pc := 16) (tgt := 28) h dX4_partOf_16 (by decide) (fun c_16 => ?_) (fun c_16 => ?_)
    · skip
      have ho := ho.1 c_16
      refine nw_bipush (pc := 28) (v := -2) h dX4_partOf_28 (by decide) ?_
      exact nw_iret (pc := 30) h he dX4_partOf_30 ⟨_, rfl, (by unfold v4_partOf; rw [if_neg c_8, if_pos c_16]), rfl⟩
    · skip
      have ho := ho.2 c_16
      refine nw_aload_n (pc := 19) h dX4_partOf_19 rfl 0 rfl ?_
      refine nw_iload_n (pc := 20) h dX4_partOf_20 rfl 1 rfl ?_
      refine nw_iload_n (pc := 21) h dX4_partOf_21 rfl 2 rfl ?_
      have h_22 := ho
      refine klX4_181 (pc := 22) h (by rw [hR]; decide) hc_q1 h_22 (Nat.le_of_ble_eq_true rfl) dX4_partOf_22 ?_
      refine nw_goto (pc := 25) (tgt := 30) h dX4_partOf_25 (by decide) ?_
      exact nw_iret (pc := 30) h he dX4_partOf_30 ⟨_, rfl, (by unfold v4_partOf; rw [if_neg c_8, if_neg c_16]), rfl⟩
theorem klX4_105 {P : nw_PT} {X : nw_EX} {cc : ByteArray} {nL : Nat} {σ : nw_ST} {lv : List (Nat × Value)} {pc : Nat} {rest : List Value} {q1 : Nat} {a2 : Int32} {a3 : Int32} (h : nw_ok P X cc RX4 nL) (hR : rm4_partOf.frames + 1 ≤ X.2.2.2.1.frames ∧ 8 + (3 + 11) + rm4_partOf.locals ≤ X.2.2.2.1.locals) (hc_q1 : nw_cl q1 = 2) (ho : o4_partOf σ q1 a2 a3) (hst : (rest.map fun v => v.category).sum ≤ 8) (hd : decode cc pc = .ok (.invokestatic 105, 3)) (k : nw_G P X nL σ lv (pc + 3) (.int (v4_partOf σ q1 a2 a3) :: rest)) : nw_G P X nL σ lv pc (.int a3 :: .int a2 :: .ref (P.2.1 q1) :: rest) :=
  nw_callS (As := [.ref (P.2.1 q1), .int a2, .int a3]) (rest := rest) h (ct4_partOf _ P h.2.2 σ q1 a2 a3 hc_q1 ho) (nw_goodS nw_w43 nw_w44 nw_w24 nw_w45) yd4_partOf.2 rfl hR ⟨rfl, rfl⟩ hst rfl hd (fun v s2 z => by obtain ⟨r, rfl, rfl, rfl⟩ := z; exact k)
def v4_swell (σ : nw_ST) (a1 : Int32) (a2 : Int32) : Int32 := (v4_partOf σ 1 a1 a2)
def o4_swell (σ : nw_ST) (a1 : Int32) (a2 : Int32) : Prop := (o4_partOf σ 1 a1 a2)
def rm4_swell : Room := { frames := 2, cells := 0, slots := 0, locals := 44 }
theorem yd4_swell : yX4_swell.cls = RX4 ∧ yX4_swell.cls ≠ "java/lang/invoke/MethodHandle" ∧ yX4_swell.cls ≠ "java/lang/invoke/VarHandle" ∧ (parseMethodDescriptor yX4_swell.desc).map (fun d => d.parameters.length) = some 2 := by decide +kernel
set_option maxHeartbeats 4000000 in
set_option maxRecDepth 100000 in
theorem ct4_swell (l : Launch) (P : nw_PT) (hD : nw_D P) (σ : nw_ST) (a1 : Int32) (a2 : Int32)  (ho : o4_swell σ a1 a2) : nw_MT l yX4_swell cX4_swell 3 (some .int) rm4_swell P [.ref (P.2.1 0), .int a1, .int a2] σ (nw_Ki (fun r s2 => r = (v4_swell σ a1 a2) ∧ s2 = σ)) := by
  refine nw_enter (by decide) (by first | decide | exact Nat.le_of_ble_eq_true rfl) hD ?_
  intro X hl h he hR
  subst hl
  have h : nw_ok P X cX4_swell RX4 3 := h
  show nw_G P X 3 σ [(0, .ref (P.2.1 0)), (1, .int a1), (2, .int a2)] 0 []
  unfold o4_swell at ho
  refine nw_aload_n (pc := 0) h dX4_swell_0 rfl 0 rfl ?_
  refine gf4_21 (pc := 1) (r := 1) h rfl rfl dX4_swell_1 ?_
  refine nw_iload_n (pc := 4) h dX4_swell_4 rfl 1 rfl ?_
  refine nw_iload_n (pc := 5) h dX4_swell_5 rfl 2 rfl ?_
  have h_6 := ho
  refine klX4_105 (pc := 6) h (by rw [hR]; decide) rfl h_6 (Nat.le_of_ble_eq_true rfl) dX4_swell_6 ?_
  exact nw_iret (pc := 9) h he dX4_swell_9 ⟨_, rfl, rfl, rfl⟩
def v4_find (σ : nw_ST) (a1 : Int32) (a2 : Int32) : Int32 := (v4_partOf σ 4 a1 a2)
def o4_find (σ : nw_ST) (a1 : Int32) (a2 : Int32) : Prop := (o4_partOf σ 4 a1 a2)
def rm4_find : Room := { frames := 2, cells := 0, slots := 0, locals := 44 }
theorem yd4_find : yX4_find.cls = RX4 ∧ yX4_find.cls ≠ "java/lang/invoke/MethodHandle" ∧ yX4_find.cls ≠ "java/lang/invoke/VarHandle" ∧ (parseMethodDescriptor yX4_find.desc).map (fun d => d.parameters.length) = some 2 := by decide +kernel
set_option maxHeartbeats 4000000 in
set_option maxRecDepth 100000 in
theorem ct4_find (l : Launch) (P : nw_PT) (hD : nw_D P) (σ : nw_ST) (a1 : Int32) (a2 : Int32)  (ho : o4_find σ a1 a2) : nw_MT l yX4_find cX4_find 3 (some .int) rm4_find P [.ref (P.2.1 0), .int a1, .int a2] σ (nw_Ki (fun r s2 => r = (v4_find σ a1 a2) ∧ s2 = σ)) := by
  refine nw_enter (by decide) (by first | decide | exact Nat.le_of_ble_eq_true rfl) hD ?_
  intro X hl h he hR
  subst hl
  have h : nw_ok P X cX4_find RX4 3 := h
  show nw_G P X 3 σ [(0, .ref (P.2.1 0)), (1, .int a1), (2, .int a2)] 0 []
  unfold o4_find at ho
  refine nw_aload_n (pc := 0) h dX4_find_0 rfl 0 rfl ?_
  refine gf4_31 (pc := 1) (r := 4) h rfl rfl dX4_find_1 ?_
  refine nw_iload_n (pc := 4) h dX4_find_4 rfl 1 rfl ?_
  refine nw_iload_n (pc := 5) h dX4_find_5 rfl 2 rfl ?_
  have h_6 := ho
  refine klX4_105 (pc := 6) h (by rw [hR]; decide) rfl h_6 (Nat.le_of_ble_eq_true rfl) dX4_find_6 ?_
  exact nw_iret (pc := 9) h he dX4_find_9 ⟨_, rfl, rfl, rfl⟩
def v4_isFrom (a1 : Int32) (a2 : Int32) (a3 : Int32) : Int32 := (if (a1 < a2) then (0 : Int32) else (if (a3 < a1) then (0 : Int32) else (1 : Int32)))
theorem z4_isFrom (a1 : Int32) (a2 : Int32) (a3 : Int32) : nw_isZ (v4_isFrom a1 a2 a3) := by
  unfold v4_isFrom; repeat' split
  all_goals first | exact (Or.inl rfl) | exact (Or.inr rfl)
def rm4_isFrom : Room := { frames := 0, cells := 0, slots := 0, locals := 0 }
theorem yd4_isFrom : yX4_isFrom.cls = RX4 ∧ yX4_isFrom.cls ≠ "java/lang/invoke/MethodHandle" ∧ yX4_isFrom.cls ≠ "java/lang/invoke/VarHandle" ∧ (parseMethodDescriptor yX4_isFrom.desc).map (fun d => d.parameters.length) = some 3 := by decide +kernel
set_option maxHeartbeats 4000000 in
set_option maxRecDepth 100000 in
theorem ct4_isFrom (l : Launch) (P : nw_PT) (hD : nw_D P) (σ : nw_ST) (a1 : Int32) (a2 : Int32) (a3 : Int32)   : nw_MT l yX4_isFrom cX4_isFrom 3 (some .boolean) rm4_isFrom P [.int a1, .int a2, .int a3] σ (nw_Ki (fun r s2 => r = (v4_isFrom a1 a2 a3) ∧ s2 = σ)) := by
  refine nw_enter (by decide) (by first | decide | exact Nat.le_of_ble_eq_true rfl) hD ?_
  intro X hl h he hR
  subst hl
  have h : nw_ok P X cX4_isFrom RX4 3 := h
  show nw_G P X 3 σ [(0, .int a1), (1, .int a2), (2, .int a3)] 0 []
  refine nw_iload_n (pc := 0) h dX4_isFrom_0 rfl 0 rfl ?_
  refine nw_iload_n (pc := 1) h dX4_isFrom_1 rfl 1 rfl ?_
  refine nw_icmp_lt (pc := 2) (tgt := 14) h dX4_isFrom_2 (by decide) (fun c_2 => ?_) (fun c_2 => ?_)
  · skip
    refine nw_iconst (pc := 14) (v := 0) h dX4_isFrom_14 (by decide) ?_
    exact nw_zret (pc := 15) h he dX4_isFrom_15 (Or.inl rfl) ⟨_, rfl, (by unfold v4_isFrom; rw [if_pos c_2]), rfl⟩
  · skip
    refine nw_iload_n (pc := 5) h dX4_isFrom_5 rfl 0 rfl ?_
    refine nw_iload_n (pc := 6) h dX4_isFrom_6 rfl 2 rfl ?_
    refine nw_icmp_gt (pc := 7) (tgt := 14) h dX4_isFrom_7 (by decide) (fun c_7 => ?_) (fun c_7 => ?_)
    · skip
      refine nw_iconst (pc := 14) (v := 0) h dX4_isFrom_14 (by decide) ?_
      exact nw_zret (pc := 15) h he dX4_isFrom_15 (Or.inl rfl) ⟨_, rfl, (by unfold v4_isFrom; rw [if_neg c_2, if_pos c_7]), rfl⟩
    · skip
      refine nw_iconst (pc := 10) (v := 1) h dX4_isFrom_10 (by decide) ?_
      refine nw_goto (pc := 11) (tgt := 15) h dX4_isFrom_11 (by decide) ?_
      exact nw_zret (pc := 15) h he dX4_isFrom_15 (Or.inr rfl) ⟨_, rfl, (by unfold v4_isFrom; rw [if_neg c_2, if_neg c_7]), rfl⟩
theorem klX4_109 {P : nw_PT} {X : nw_EX} {cc : ByteArray} {nL : Nat} {σ : nw_ST} {lv : List (Nat × Value)} {pc : Nat} {rest : List Value} {a1 : Int32} {a2 : Int32} {a3 : Int32} (h : nw_ok P X cc RX4 nL) (hR : rm4_isFrom.frames + 1 ≤ X.2.2.2.1.frames ∧ 8 + (3 + 11) + rm4_isFrom.locals ≤ X.2.2.2.1.locals)  (hst : (rest.map fun v => v.category).sum ≤ 8) (hd : decode cc pc = .ok (.invokestatic 109, 3)) (k : nw_G P X nL σ lv (pc + 3) (.int (v4_isFrom a1 a2 a3) :: rest)) : nw_G P X nL σ lv pc (.int a3 :: .int a2 :: .int a1 :: rest) :=
  nw_callS (As := [.int a1, .int a2, .int a3]) (rest := rest) h (ct4_isFrom _ P h.2.2 σ a1 a2 a3) (nw_goodS nw_w46 nw_w47 nw_w24 nw_w48) yd4_isFrom.2 rfl hR ⟨rfl, rfl⟩ hst rfl hd (fun v s2 z => by obtain ⟨r, rfl, rfl, rfl⟩ := z; exact k)
theorem gf4_73 {P : nw_PT} {X : nw_EX} {cc : ByteArray} {nL : Nat} {σ : nw_ST} {lv : List (Nat × Value)} {pc : Nat} {st : List Value} {q : Nat} (h : nw_ok P X cc RX4 nL) (hq : nw_cl q = 4) (hd : decode cc pc = .ok (.getfield 73, 3)) (k : nw_G P X nL σ lv (pc + 3) (.int (nw_gS σ q 10) :: st)) : nw_G P X nL σ lv pc (.ref (P.2.1 q) :: st) := by
  intro H locs ls h1 h2 h3
  exact va_get (D := P.1) (ci := 4) (C := RX4) (T := TX4) (N := 13) h.1.1 h.1.2.1 h.1.2.2.2.2 in_T4 h.1.2.2.2.1 h.2.1.1 h1 q (nw_at4 hq) rfl 10 (by decide) (h.1.2.2.2.2 _ nw_w49) (fun _ z => z) rfl hd (k H locs ls h1 h2 h3)
theorem pf4_73 {P : nw_PT} {X : nw_EX} {cc : ByteArray} {nL : Nat} {σ : nw_ST} {lv : List (Nat × Value)} {pc : Nat} {st : List Value} {q : Nat} (h : nw_ok P X cc RX4 nL) (hq : nw_cl q = 4) {v : Int32} (hd : decode cc pc = .ok (.putfield 73, 3)) (k : nw_G P X nL (nw_sS σ q 10 v) lv (pc + 3) st) : nw_G P X nL σ lv pc (.int v :: .ref (P.2.1 q) :: st) := by
  intro H locs ls h1 h2 h3
  exact va_put (D := P.1) (ci := 4) (ty := .int) (C := RX4) (T := TX4) (N := 13) h.1.1 h.1.2.1 h.1.2.2.2.2 in_T4 tyX4 tyX4_ok nmX4 h.1.2.2.2.1 h.2.1.1 h1 (h.2.2 σ) h2 q (nw_at4 hq) rfl 10 (by decide) (h.1.2.2.2.2 _ nw_w49) (fun _ z => z) rfl (by decide +kernel) rfl rfl (by show 10 < 13; decide) hd (fun H1 locs1 g1 _ g2 => k H1 locs1 ls (by rw [nw_set4_10 hq] at g1; exact g1) g2 h3)
def f4_depth (K : Int32 → nw_ST → Prop) (σ : nw_ST) (a1 : Int32) : Prop := ((((v4_isFrom a1 (0 : Int32) (55 : Int32)) = 0) → (K (-2 : Int32) σ)) ∧ (¬ ((v4_isFrom a1 (0 : Int32) (55 : Int32)) = 0) → (K (nw_gS σ 0 10) (nw_sS (nw_sS σ 0 10 a1) 0 12 (0 : Int32)))))
def rm4_depth : Room := { frames := 1, cells := 0, slots := 0, locals := 22 }
theorem yd4_depth : yX4_depth.cls = RX4 ∧ yX4_depth.cls ≠ "java/lang/invoke/MethodHandle" ∧ yX4_depth.cls ≠ "java/lang/invoke/VarHandle" ∧ (parseMethodDescriptor yX4_depth.desc).map (fun d => d.parameters.length) = some 1 := by decide +kernel
set_option maxHeartbeats 4000000 in
set_option maxRecDepth 100000 in
theorem ct4_depth (l : Launch) (P : nw_PT) (hD : nw_D P) (σ : nw_ST) (a1 : Int32)  (K : Int32 → nw_ST → Prop) (hf : f4_depth K σ a1) : nw_MT l yX4_depth cX4_depth 3 (some .int) rm4_depth P [.ref (P.2.1 0), .int a1] σ (nw_Ki K) := by
  refine nw_enter (by decide) (by first | decide | exact Nat.le_of_ble_eq_true rfl) hD ?_
  intro X hl h he hR
  subst hl
  have h : nw_ok P X cX4_depth RX4 3 := h
  show nw_G P X 3 σ [(0, .ref (P.2.1 0)), (1, .int a1)] 0 []
  unfold f4_depth at hf
  refine nw_iload_n (pc := 0) h dX4_depth_0 rfl 1 rfl ?_
  refine nw_iconst (pc := 1) (v := 0) h dX4_depth_1 (by decide) ?_
  refine nw_bipush (pc := 2) (v := 55) h dX4_depth_2 (by decide) ?_
  refine klX4_109 (pc := 4) h (by rw [hR]; decide) (Nat.le_of_ble_eq_true rfl) dX4_depth_4 ?_
  refine nw_if_ne (pc := 7) (tgt := 13) h dX4_depth_7 (by decide) (fun c_7 => ?_) (fun c_7 => ?_)
  · have hf := hf.2 c_7
    refine nw_aload_n (pc := 13) h dX4_depth_13 rfl 0 rfl ?_
    refine gf4_73 (pc := 14) h rfl dX4_depth_14 ?_
    refine nw_istore_n (pc := 17) (lv' := [(2, .int (nw_gS σ 0 10)), (0, .ref (P.2.1 0)), (1, .int a1)]) h dX4_depth_17 rfl (by decide) rfl ?_
    refine nw_aload_n (pc := 18) h dX4_depth_18 rfl 1 rfl ?_
    refine nw_iload_n (pc := 19) h dX4_depth_19 rfl 2 rfl ?_
    refine pf4_73 (pc := 20) h rfl dX4_depth_20 ?_
    refine nw_aload_n (pc := 23) h dX4_depth_23 rfl 1 rfl ?_
    refine nw_iconst (pc := 24) (v := 0) h dX4_depth_24 (by decide) ?_
    refine pf4_80 (pc := 25) h rfl (Or.inl rfl) dX4_depth_25 ?_
    refine nw_iload_n (pc := 28) h dX4_depth_28 rfl 0 rfl ?_
    exact nw_iret (pc := 29) h he dX4_depth_29 ⟨_, rfl, hf⟩
  · have hf := hf.1 c_7
    refine nw_bipush (pc := 10) (v := -2) h dX4_depth_10 (by decide) ?_
    exact nw_iret (pc := 12) h he dX4_depth_12 ⟨_, rfl, hf⟩
theorem gf0_18 {P : nw_PT} {X : nw_EX} {cc : ByteArray} {nL : Nat} {σ : nw_ST} {lv : List (Nat × Value)} {pc : Nat} {st : List Value} {q : Nat} (h : nw_ok P X cc RX0 nL) (hq : nw_cl q = 0) (hd : decode cc pc = .ok (.getfield 18, 3)) (k : nw_G P X nL σ lv (pc + 3) (.int (nw_gS σ q 2) :: st)) : nw_G P X nL σ lv pc (.ref (P.2.1 q) :: st) := by
  intro H locs ls h1 h2 h3
  exact va_get (D := P.1) (ci := 0) (C := RX0) (T := TX0) (N := 3) h.1.1 h.1.2.1 h.1.2.2.2.2 in_T0 h.1.2.2.2.1 h.2.1.1 h1 q (nw_at0 hq) rfl 2 (by decide) (h.1.2.2.2.2 _ nw_w50) (fun _ z => z) rfl hd (k H locs ls h1 h2 h3)
theorem gf0_9 {P : nw_PT} {X : nw_EX} {cc : ByteArray} {nL : Nat} {σ : nw_ST} {lv : List (Nat × Value)} {pc : Nat} {st : List Value} {q : Nat} (h : nw_ok P X cc RX0 nL) (hq : nw_cl q = 0) {r : Nat} (hr : nw_rf q 0 = r) (hd : decode cc pc = .ok (.getfield 9, 3)) (k : nw_G P X nL σ lv (pc + 3) (.ref (P.2.1 r) :: st)) : nw_G P X nL σ lv pc (.ref (P.2.1 q) :: st) := by
  subst hr; intro H locs ls h1 h2 h3
  exact va_get (D := P.1) (ci := 0) (C := RX0) (T := TX0) (N := 3) h.1.1 h.1.2.1 h.1.2.2.2.2 in_T0 h.1.2.2.2.1 h.2.1.1 h1 q (nw_at0 hq) rfl 0 (by decide) (h.1.2.2.2.2 _ nw_w51) (fun _ z => z) rfl hd (k H locs ls h1 h2 h3)
theorem gf0_15 {P : nw_PT} {X : nw_EX} {cc : ByteArray} {nL : Nat} {σ : nw_ST} {lv : List (Nat × Value)} {pc : Nat} {st : List Value} {q : Nat} (h : nw_ok P X cc RX0 nL) (hq : nw_cl q = 0) {r : Nat} (hr : nw_rf q 1 = r) (hd : decode cc pc = .ok (.getfield 15, 3)) (k : nw_G P X nL σ lv (pc + 3) (.ref (P.2.1 r) :: st)) : nw_G P X nL σ lv pc (.ref (P.2.1 q) :: st) := by
  subst hr; intro H locs ls h1 h2 h3
  exact va_get (D := P.1) (ci := 0) (C := RX0) (T := TX0) (N := 3) h.1.1 h.1.2.1 h.1.2.2.2.2 in_T0 h.1.2.2.2.1 h.2.1.1 h1 q (nw_at0 hq) rfl 1 (by decide) (h.1.2.2.2.2 _ nw_w52) (fun _ z => z) rfl hd (k H locs ls h1 h2 h3)
theorem pf0_18 {P : nw_PT} {X : nw_EX} {cc : ByteArray} {nL : Nat} {σ : nw_ST} {lv : List (Nat × Value)} {pc : Nat} {st : List Value} {q : Nat} (h : nw_ok P X cc RX0 nL) (hq : nw_cl q = 0) {v : Int32} (hd : decode cc pc = .ok (.putfield 18, 3)) (k : nw_G P X nL (nw_sS σ q 2 v) lv (pc + 3) st) : nw_G P X nL σ lv pc (.int v :: .ref (P.2.1 q) :: st) := by
  intro H locs ls h1 h2 h3
  exact va_put (D := P.1) (ci := 0) (ty := .int) (C := RX0) (T := TX0) (N := 3) h.1.1 h.1.2.1 h.1.2.2.2.2 in_T0 tyX0 tyX0_ok nmX0 h.1.2.2.2.1 h.2.1.1 h1 (h.2.2 σ) h2 q (nw_at0 hq) rfl 2 (by decide) (h.1.2.2.2.2 _ nw_w50) (fun _ z => z) rfl (by decide +kernel) rfl rfl (by show 2 < 3; decide) hd (fun H1 locs1 g1 _ g2 => k H1 locs1 ls (by rw [nw_set0_2 hq] at g1; exact g1) g2 h3)
def f0_append (K : Int32 → nw_ST → Prop) (σ : nw_ST) (q0 : Nat) (a1 : Int32) (a2 : Int32) : Prop := ((((nw_gS σ q0 2) < (Int32.ofNat (nw_len (nw_rf q0 0)))) → ((vp_in (nw_gS σ q0 2) (nw_len (nw_rf q0 0))) ∧ ((vp_in (nw_gS (nw_sA σ (nw_rf q0 0) (nw_gS σ q0 2).toNatClampNeg a1) q0 2) (nw_len (nw_rf q0 1))) ∧ (K (1 : Int32) (nw_sS (nw_sA (nw_sA σ (nw_rf q0 0) (nw_gS σ q0 2).toNatClampNeg a1) (nw_rf q0 1) (nw_gS (nw_sA σ (nw_rf q0 0) (nw_gS σ q0 2).toNatClampNeg a1) q0 2).toNatClampNeg a2) q0 2 ((nw_gS (nw_sA (nw_sA σ (nw_rf q0 0) (nw_gS σ q0 2).toNatClampNeg a1) (nw_rf q0 1) (nw_gS (nw_sA σ (nw_rf q0 0) (nw_gS σ q0 2).toNatClampNeg a1) q0 2).toNatClampNeg a2) q0 2) + (1 : Int32))))))) ∧ (¬ ((nw_gS σ q0 2) < (Int32.ofNat (nw_len (nw_rf q0 0)))) → (K (0 : Int32) σ)))
def rm0_append : Room := { frames := 0, cells := 0, slots := 0, locals := 0 }
theorem yd0_append : yX0_append.cls = RX0 ∧ yX0_append.cls ≠ "java/lang/invoke/MethodHandle" ∧ yX0_append.cls ≠ "java/lang/invoke/VarHandle" ∧ (parseMethodDescriptor yX0_append.desc).map (fun d => d.parameters.length) = some 2 := by decide +kernel
set_option maxHeartbeats 4000000 in
set_option maxRecDepth 100000 in
theorem ct0_append (l : Launch) (P : nw_PT) (hD : nw_D P) (σ : nw_ST) (q0 : Nat) (a1 : Int32) (a2 : Int32) (hc_q0 : nw_cl q0 = 0) (K : Int32 → nw_ST → Prop) (hf : f0_append K σ q0 a1 a2) : nw_MT l yX0_append cX0_append 3 (some .boolean) rm0_append P [.ref (P.2.1 q0), .int a1, .int a2] σ (nw_Ki K) := by
  refine nw_enter (by decide) (by first | decide | exact Nat.le_of_ble_eq_true rfl) hD ?_
  intro X hl h he hR
  subst hl
  have h : nw_ok P X cX0_append RX0 3 := h
  show nw_G P X 3 σ [(0, .ref (P.2.1 q0)), (1, .int a1), (2, .int a2)] 0 []
  unfold f0_append at hf
  refine nw_aload_n (pc := 0) h dX0_append_0 rfl 0 rfl ?_
  refine gf0_18 (pc := 1) h hc_q0 dX0_append_1 ?_
  refine nw_aload_n (pc := 4) h dX0_append_4 rfl 0 rfl ?_
  refine gf0_9 (pc := 5) h hc_q0 rfl dX0_append_5 ?_
  refine nw_ilen (pc := 8) (n := (nw_len (nw_rf q0 0))) (v := (Int32.ofNat (nw_len (nw_rf q0 0)))) h (nw_wt0_0 hc_q0) rfl rfl dX0_append_8 ?_
  refine nw_icmp_lt (pc := 9) (tgt := 14) h dX0_append_9 (by decide) (fun c_9 => ?_) (fun c_9 => ?_)
  · have hf := hf.1 c_9
    refine nw_aload_n (pc := 14) h dX0_append_14 rfl 0 rfl ?_
    refine gf0_9 (pc := 15) h hc_q0 rfl dX0_append_15 ?_
    refine nw_aload_n (pc := 18) h dX0_append_18 rfl 0 rfl ?_
    refine gf0_18 (pc := 19) h hc_q0 dX0_append_19 ?_
    refine nw_iload_n (pc := 22) h dX0_append_22 rfl 1 rfl ?_
    obtain ⟨h_23, hf⟩ := hf
    refine nw_iast (pc := 23) (n := (nw_len (nw_rf q0 0))) h (nw_wt0_0 hc_q0) rfl h_23 dX0_append_23 ?_
    refine nw_aload_n (pc := 24) h dX0_append_24 rfl 0 rfl ?_
    refine gf0_15 (pc := 25) h hc_q0 rfl dX0_append_25 ?_
    refine nw_aload_n (pc := 28) h dX0_append_28 rfl 0 rfl ?_
    refine gf0_18 (pc := 29) h hc_q0 dX0_append_29 ?_
    refine nw_iload_n (pc := 32) h dX0_append_32 rfl 2 rfl ?_
    obtain ⟨h_33, hf⟩ := hf
    refine nw_iast (pc := 33) (n := (nw_len (nw_rf q0 1))) h (nw_wt0_1 hc_q0) rfl h_33 dX0_append_33 ?_
    refine nw_aload_n (pc := 34) h dX0_append_34 rfl 0 rfl ?_
    refine nw_dup (pc := 35) h dX0_append_35 rfl ?_
    refine gf0_18 (pc := 36) h hc_q0 dX0_append_36 ?_
    refine nw_iconst (pc := 39) (v := 1) h dX0_append_39 (by decide) ?_
    refine nw_iadd (pc := 40) h dX0_append_40 ?_
    refine pf0_18 (pc := 41) h hc_q0 dX0_append_41 ?_
    refine nw_iconst (pc := 44) (v := 1) h dX0_append_44 (by decide) ?_
    exact nw_zret (pc := 45) h he dX0_append_45 (Or.inr rfl) ⟨_, rfl, hf⟩
  · have hf := hf.2 c_9
    refine nw_iconst (pc := 12) (v := 0) h dX0_append_12 (by decide) ?_
    exact nw_zret (pc := 13) h he dX0_append_13 (Or.inl rfl) ⟨_, rfl, hf⟩
theorem klX4_138 {P : nw_PT} {X : nw_EX} {cc : ByteArray} {nL : Nat} {σ : nw_ST} {lv : List (Nat × Value)} {pc : Nat} {rest : List Value} {q0 : Nat} {a1 : Int32} {a2 : Int32} (h : nw_ok P X cc RX4 nL) (hR : rm0_append.frames + 1 ≤ X.2.2.2.1.frames ∧ 8 + (3 + 11) + rm0_append.locals ≤ X.2.2.2.1.locals) (hc_q0 : nw_cl q0 = 0) {K : Int32 → nw_ST → Prop} (hf : f0_append K σ q0 a1 a2) (hst : (rest.map fun v => v.category).sum ≤ 8) (hd : decode cc pc = .ok (.invokevirtual 138, 3)) (k : ∀ (r : Int32) (s2 : nw_ST), K r s2 → nw_G P X nL s2 lv (pc + 3) (.int r :: rest)) : nw_G P X nL σ lv pc (.int a2 :: .int a1 :: .ref (P.2.1 q0) :: rest) :=
  nw_callV (As := [.int a1, .int a2]) (rest := rest) (C := RX0) (ci := 0) h (ct0_append _ P h.2.2 σ q0 a1 a2 hc_q0 K hf) (nw_goodV nw_w53 nw_w54 nw_w55 nw_w56 nw_w57) yd0_append rfl hR ⟨rfl, rfl⟩ hc_q0 (by decide) rfl rfl hst rfl hd (fun v s2 z => by obtain ⟨r, rfl, z⟩ := z; exact k r s2 z)
theorem gf4_127 {P : nw_PT} {X : nw_EX} {cc : ByteArray} {nL : Nat} {σ : nw_ST} {lv : List (Nat × Value)} {pc : Nat} {st : List Value} {q : Nat} (h : nw_ok P X cc RX4 nL) (hq : nw_cl q = 0) (hd : decode cc pc = .ok (.getfield 127, 3)) (k : nw_G P X nL σ lv (pc + 3) (.int (nw_gS σ q 2) :: st)) : nw_G P X nL σ lv pc (.ref (P.2.1 q) :: st) := by
  intro H locs ls h1 h2 h3
  exact va_getN (D := P.1) (ci := 0) (C := RX0) (T := TX0) (N := 3) h.1.1 h.1.2.1 h.1.2.2.2.2 in_T0 h.1.2.2.2.1 h.2.1.1 h1 q (nw_at0 hq) rfl 2 (by decide) (va_Nw.use rfl (h.2.1.2.1 ("NumberedWaves", 127, "NumberedWaves$Pairs", "size", "I", "NumberedWaves") (by decide +kernel))) (fun _ z => z) rfl hd (k H locs ls h1 h2 h3)
def f4_tell (K : Int32 → nw_ST → Prop) (σ : nw_ST) (q1 : Nat) (a2 : Int32) (a3 : Int32) : Prop := (f0_append (fun (r_3 : Int32) (s_3 : nw_ST) => (((r_3 = 0) → (K (-4 : Int32) s_3)) ∧ (¬ (r_3 = 0) → (K (nw_gS (nw_sS s_3 0 12 (0 : Int32)) q1 2) (nw_sS s_3 0 12 (0 : Int32)))))) σ q1 a2 a3)
def rm4_tell : Room := { frames := 1, cells := 0, slots := 0, locals := 22 }
theorem yd4_tell : yX4_tell.cls = RX4 ∧ yX4_tell.cls ≠ "java/lang/invoke/MethodHandle" ∧ yX4_tell.cls ≠ "java/lang/invoke/VarHandle" ∧ (parseMethodDescriptor yX4_tell.desc).map (fun d => d.parameters.length) = some 3 := by decide +kernel
set_option maxHeartbeats 4000000 in
set_option maxRecDepth 100000 in
theorem ct4_tell (l : Launch) (P : nw_PT) (hD : nw_D P) (σ : nw_ST) (q1 : Nat) (a2 : Int32) (a3 : Int32) (hc_q1 : nw_cl q1 = 0) (K : Int32 → nw_ST → Prop) (hf : f4_tell K σ q1 a2 a3) : nw_MT l yX4_tell cX4_tell 4 (some .int) rm4_tell P [.ref (P.2.1 0), .ref (P.2.1 q1), .int a2, .int a3] σ (nw_Ki K) := by
  refine nw_enter (by decide) (by first | decide | exact Nat.le_of_ble_eq_true rfl) hD ?_
  intro X hl h he hR
  subst hl
  have h : nw_ok P X cX4_tell RX4 4 := h
  show nw_G P X 4 σ [(0, .ref (P.2.1 0)), (1, .ref (P.2.1 q1)), (2, .int a2), (3, .int a3)] 0 []
  unfold f4_tell at hf
  refine nw_aload_n (pc := 0) h dX4_tell_0 rfl 1 rfl ?_
  refine nw_iload_n (pc := 1) h dX4_tell_1 rfl 2 rfl ?_
  refine nw_iload_n (pc := 2) h dX4_tell_2 rfl 3 rfl ?_
  refine klX4_138 (pc := 3) h (by rw [hR]; decide) hc_q1 hf (Nat.le_of_ble_eq_true rfl) dX4_tell_3 (fun r_3 s_3 hf => ?_)
  refine nw_if_ne (pc := 6) (tgt := 12) h dX4_tell_6 (by decide) (fun c_6 => ?_) (fun c_6 => ?_)
  · have hf := hf.2 c_6
    refine nw_aload_n (pc := 12) h dX4_tell_12 rfl 0 rfl ?_
    refine nw_iconst (pc := 13) (v := 0) h dX4_tell_13 (by decide) ?_
    refine pf4_80 (pc := 14) h rfl (Or.inl rfl) dX4_tell_14 ?_
    refine nw_aload_n (pc := 17) h dX4_tell_17 rfl 1 rfl ?_
    refine gf4_127 (pc := 18) h hc_q1 dX4_tell_18 ?_
    exact nw_iret (pc := 21) h he dX4_tell_21 ⟨_, rfl, hf⟩
  · have hf := hf.1 c_6
    refine nw_bipush (pc := 9) (v := -4) h dX4_tell_9 (by decide) ?_
    exact nw_iret (pc := 11) h he dX4_tell_11 ⟨_, rfl, hf⟩
theorem gf4_39 {P : nw_PT} {X : nw_EX} {cc : ByteArray} {nL : Nat} {σ : nw_ST} {lv : List (Nat × Value)} {pc : Nat} {st : List Value} {q : Nat} (h : nw_ok P X cc RX4 nL) (hq : nw_cl q = 4) {r : Nat} (hr : nw_rf q 2 = r) (hd : decode cc pc = .ok (.getfield 39, 3)) (k : nw_G P X nL σ lv (pc + 3) (.ref (P.2.1 r) :: st)) : nw_G P X nL σ lv pc (.ref (P.2.1 q) :: st) := by
  subst hr; intro H locs ls h1 h2 h3
  exact va_get (D := P.1) (ci := 4) (C := RX4) (T := TX4) (N := 13) h.1.1 h.1.2.1 h.1.2.2.2.2 in_T4 h.1.2.2.2.1 h.2.1.1 h1 q (nw_at4 hq) rfl 2 (by decide) (h.1.2.2.2.2 _ nw_w58) (fun _ z => z) rfl hd (k H locs ls h1 h2 h3)
theorem klX4_113 {P : nw_PT} {X : nw_EX} {cc : ByteArray} {nL : Nat} {σ : nw_ST} {lv : List (Nat × Value)} {pc : Nat} {rest : List Value} {q1 : Nat} {a2 : Int32} {a3 : Int32} (h : nw_ok P X cc RX4 nL) (hR : rm4_tell.frames + 1 ≤ X.2.2.2.1.frames ∧ 8 + (4 + 11) + rm4_tell.locals ≤ X.2.2.2.1.locals) (hc_q1 : nw_cl q1 = 0) {K : Int32 → nw_ST → Prop} (hf : f4_tell K σ q1 a2 a3) (hst : (rest.map fun v => v.category).sum ≤ 8) (hd : decode cc pc = .ok (.invokevirtual 113, 3)) (k : ∀ (r : Int32) (s2 : nw_ST), K r s2 → nw_G P X nL s2 lv (pc + 3) (.int r :: rest)) : nw_G P X nL σ lv pc (.int a3 :: .int a2 :: .ref (P.2.1 q1) :: .ref (P.2.1 0) :: rest) :=
  nw_callV (As := [.ref (P.2.1 q1), .int a2, .int a3]) (rest := rest) (C := RX4) (ci := 4) h (ct4_tell _ P h.2.2 σ q1 a2 a3 hc_q1 K hf) (nw_goodV nw_w59 nw_w60 nw_w61 nw_w24 nw_w62) yd4_tell rfl hR ⟨rfl, rfl⟩ rfl (by decide) rfl rfl hst rfl hd (fun v s2 z => by obtain ⟨r, rfl, z⟩ := z; exact k r s2 z)
def f4_slip_21 (K : Int32 → nw_ST → Prop) (σ : nw_ST) : Prop := (K (-2 : Int32) σ)
def f4_slip (K : Int32 → nw_ST → Prop) (σ : nw_ST) (a1 : Int32) (a2 : Int32) : Prop := ((((v4_isFrom a1 (1 : Int32) (240 : Int32)) = 0) → (f4_slip_21 K σ)) ∧ (¬ ((v4_isFrom a1 (1 : Int32) (240 : Int32)) = 0) → ((((v4_isFrom a2 (1 : Int32) (11 : Int32)) = 0) → (f4_slip_21 K σ)) ∧ (¬ ((v4_isFrom a2 (1 : Int32) (11 : Int32)) = 0) → (f4_tell (fun (r_31 : Int32) (s_31 : nw_ST) => (K r_31 s_31)) σ 7 a1 a2)))))
def rm4_slip : Room := { frames := 2, cells := 0, slots := 0, locals := 45 }
theorem yd4_slip : yX4_slip.cls = RX4 ∧ yX4_slip.cls ≠ "java/lang/invoke/MethodHandle" ∧ yX4_slip.cls ≠ "java/lang/invoke/VarHandle" ∧ (parseMethodDescriptor yX4_slip.desc).map (fun d => d.parameters.length) = some 2 := by decide +kernel
set_option maxHeartbeats 4000000 in
set_option maxRecDepth 100000 in
theorem ct4_slip (l : Launch) (P : nw_PT) (hD : nw_D P) (σ : nw_ST) (a1 : Int32) (a2 : Int32)  (K : Int32 → nw_ST → Prop) (hf : f4_slip K σ a1 a2) : nw_MT l yX4_slip cX4_slip 3 (some .int) rm4_slip P [.ref (P.2.1 0), .int a1, .int a2] σ (nw_Ki K) := by
  refine nw_enter (by decide) (by first | decide | exact Nat.le_of_ble_eq_true rfl) hD ?_
  intro X hl h he hR
  subst hl
  have h : nw_ok P X cX4_slip RX4 3 := h
  show nw_G P X 3 σ [(0, .ref (P.2.1 0)), (1, .int a1), (2, .int a2)] 0 []
  have hL_21 :  ∀ (σ : nw_ST), f4_slip_21 K σ → nw_G P X 3 σ [] 21 [] := by
    intro σ hf
    unfold f4_slip_21 at hf
    refine nw_bipush (pc := 21) (v := -2) h dX4_slip_21 (by decide) ?_
    exact nw_iret (pc := 23) h he dX4_slip_23 ⟨_, rfl, hf⟩
  unfold f4_slip at hf
  refine nw_iload_n (pc := 0) h dX4_slip_0 rfl 1 rfl ?_
  refine nw_iconst (pc := 1) (v := 1) h dX4_slip_1 (by decide) ?_
  refine nw_sipush (pc := 2) (v := 240) h dX4_slip_2 (by decide) ?_
  refine klX4_109 (pc := 5) h (by rw [hR]; decide) (Nat.le_of_ble_eq_true rfl) dX4_slip_5 ?_
  refine nw_if_eq (pc := 8) (tgt := 21) h dX4_slip_8 (by decide) (fun c_8 => ?_) (fun c_8 => ?_)
  · have hf := hf.1 c_8
    refine nw_sub (lv' := []) [] rfl ?_
    exact hL_21 _ (hf)
  · have hf := hf.2 c_8
    refine nw_iload_n (pc := 11) h dX4_slip_11 rfl 2 rfl ?_
    refine nw_iconst (pc := 12) (v := 1) h dX4_slip_12 (by decide) ?_
    refine nw_bipush (pc := 13) (v := 11) h dX4_slip_13 (by decide) ?_
    refine klX4_109 (pc := 15) h (by rw [hR]; decide) (Nat.le_of_ble_eq_true rfl) dX4_slip_15 ?_
    refine nw_if_ne (pc := 18) (tgt := 24) h dX4_slip_18 (by decide) (fun c_18 => ?_) (fun c_18 => ?_)
    · have hf := hf.2 c_18
      refine nw_aload_n (pc := 24) h dX4_slip_24 rfl 0 rfl ?_
      refine nw_aload_n (pc := 25) h dX4_slip_25 rfl 0 rfl ?_
      refine gf4_39 (pc := 26) (r := 7) h rfl rfl dX4_slip_26 ?_
      refine nw_iload_n (pc := 29) h dX4_slip_29 rfl 1 rfl ?_
      refine nw_iload_n (pc := 30) h dX4_slip_30 rfl 2 rfl ?_
      refine klX4_113 (pc := 31) h (by rw [hR]; decide) rfl hf (Nat.le_of_ble_eq_true rfl) dX4_slip_31 (fun r_31 s_31 hf => ?_)
      exact nw_iret (pc := 34) h he dX4_slip_34 ⟨_, rfl, hf⟩
    · have hf := hf.1 c_18
      refine nw_sub (lv' := []) [] rfl ?_
      exact hL_21 _ (hf)
def v4_isTime (a1 : Int32) : Int32 := (v4_isBelow a1 (240 : Int32))
theorem z4_isTime (a1 : Int32) : nw_isZ (v4_isTime a1) := by
  unfold v4_isTime; repeat' split
  all_goals first | exact (z4_isBelow a1 (240 : Int32))
def rm4_isTime : Room := { frames := 1, cells := 0, slots := 0, locals := 21 }
theorem yd4_isTime : yX4_isTime.cls = RX4 ∧ yX4_isTime.cls ≠ "java/lang/invoke/MethodHandle" ∧ yX4_isTime.cls ≠ "java/lang/invoke/VarHandle" ∧ (parseMethodDescriptor yX4_isTime.desc).map (fun d => d.parameters.length) = some 1 := by decide +kernel
set_option maxHeartbeats 4000000 in
set_option maxRecDepth 100000 in
theorem ct4_isTime (l : Launch) (P : nw_PT) (hD : nw_D P) (σ : nw_ST) (a1 : Int32)   : nw_MT l yX4_isTime cX4_isTime 1 (some .boolean) rm4_isTime P [.int a1] σ (nw_Ki (fun r s2 => r = (v4_isTime a1) ∧ s2 = σ)) := by
  refine nw_enter (by decide) (by first | decide | exact Nat.le_of_ble_eq_true rfl) hD ?_
  intro X hl h he hR
  subst hl
  have h : nw_ok P X cX4_isTime RX4 1 := h
  show nw_G P X 1 σ [(0, .int a1)] 0 []
  refine nw_iload_n (pc := 0) h dX4_isTime_0 rfl 0 rfl ?_
  refine nw_sipush (pc := 1) (v := 240) h dX4_isTime_1 (by decide) ?_
  refine klX4_84 (pc := 4) h (by rw [hR]; decide) (Nat.le_of_ble_eq_true rfl) dX4_isTime_4 ?_
  exact nw_zret (pc := 7) h he dX4_isTime_7 (z4_isBelow a1 (240 : Int32)) ⟨_, rfl, rfl, rfl⟩
theorem klX4_117 {P : nw_PT} {X : nw_EX} {cc : ByteArray} {nL : Nat} {σ : nw_ST} {lv : List (Nat × Value)} {pc : Nat} {rest : List Value} {a1 : Int32} (h : nw_ok P X cc RX4 nL) (hR : rm4_isTime.frames + 1 ≤ X.2.2.2.1.frames ∧ 8 + (1 + 11) + rm4_isTime.locals ≤ X.2.2.2.1.locals)  (hst : (rest.map fun v => v.category).sum ≤ 8) (hd : decode cc pc = .ok (.invokestatic 117, 3)) (k : nw_G P X nL σ lv (pc + 3) (.int (v4_isTime a1) :: rest)) : nw_G P X nL σ lv pc (.int a1 :: rest) :=
  nw_callS (As := [.int a1]) (rest := rest) h (ct4_isTime _ P h.2.2 σ a1) (nw_goodS nw_w63 nw_w64 nw_w24 nw_w65) yd4_isTime.2 rfl hR ⟨rfl, rfl⟩ hst rfl hd (fun v s2 z => by obtain ⟨r, rfl, rfl, rfl⟩ := z; exact k)
theorem gf4_43 {P : nw_PT} {X : nw_EX} {cc : ByteArray} {nL : Nat} {σ : nw_ST} {lv : List (Nat × Value)} {pc : Nat} {st : List Value} {q : Nat} (h : nw_ok P X cc RX4 nL) (hq : nw_cl q = 4) {r : Nat} (hr : nw_rf q 3 = r) (hd : decode cc pc = .ok (.getfield 43, 3)) (k : nw_G P X nL σ lv (pc + 3) (.ref (P.2.1 r) :: st)) : nw_G P X nL σ lv pc (.ref (P.2.1 q) :: st) := by
  subst hr; intro H locs ls h1 h2 h3
  exact va_get (D := P.1) (ci := 4) (C := RX4) (T := TX4) (N := 13) h.1.1 h.1.2.1 h.1.2.2.2.2 in_T4 h.1.2.2.2.1 h.2.1.1 h1 q (nw_at4 hq) rfl 3 (by decide) (h.1.2.2.2.2 _ nw_w66) (fun _ z => z) rfl hd (k H locs ls h1 h2 h3)
def f4_wake_22 (K : Int32 → nw_ST → Prop) (σ : nw_ST) (y0 : Int32) : Prop := (K y0 σ)
def f4_wake (K : Int32 → nw_ST → Prop) (σ : nw_ST) (a1 : Int32) : Prop := ((((v4_isTime a1) = 0) → (f4_wake_22 K σ (-2 : Int32))) ∧ (¬ ((v4_isTime a1) = 0) → (f4_tell (fun (r_14 : Int32) (s_14 : nw_ST) => (f4_wake_22 K s_14 r_14)) σ 10 a1 (0 : Int32))))
def rm4_wake : Room := { frames := 2, cells := 0, slots := 0, locals := 45 }
theorem yd4_wake : yX4_wake.cls = RX4 ∧ yX4_wake.cls ≠ "java/lang/invoke/MethodHandle" ∧ yX4_wake.cls ≠ "java/lang/invoke/VarHandle" ∧ (parseMethodDescriptor yX4_wake.desc).map (fun d => d.parameters.length) = some 1 := by decide +kernel
set_option maxHeartbeats 4000000 in
set_option maxRecDepth 100000 in
theorem ct4_wake (l : Launch) (P : nw_PT) (hD : nw_D P) (σ : nw_ST) (a1 : Int32)  (K : Int32 → nw_ST → Prop) (hf : f4_wake K σ a1) : nw_MT l yX4_wake cX4_wake 2 (some .int) rm4_wake P [.ref (P.2.1 0), .int a1] σ (nw_Ki K) := by
  refine nw_enter (by decide) (by first | decide | exact Nat.le_of_ble_eq_true rfl) hD ?_
  intro X hl h he hR
  subst hl
  have h : nw_ok P X cX4_wake RX4 2 := h
  show nw_G P X 2 σ [(0, .ref (P.2.1 0)), (1, .int a1)] 0 []
  have hL_22 :  ∀ (σ : nw_ST) (y0 : Int32), f4_wake_22 K σ y0 → nw_G P X 2 σ [] 22 [.int y0] := by
    intro σ y0 hf
    unfold f4_wake_22 at hf
    exact nw_iret (pc := 22) h he dX4_wake_22 ⟨_, rfl, hf⟩
  unfold f4_wake at hf
  refine nw_iload_n (pc := 0) h dX4_wake_0 rfl 1 rfl ?_
  refine klX4_117 (pc := 1) h (by rw [hR]; decide) (Nat.le_of_ble_eq_true rfl) dX4_wake_1 ?_
  refine nw_if_eq (pc := 4) (tgt := 20) h dX4_wake_4 (by decide) (fun c_4 => ?_) (fun c_4 => ?_)
  · have hf := hf.1 c_4
    refine nw_bipush (pc := 20) (v := -2) h dX4_wake_20 (by decide) ?_
    refine nw_sub (lv' := []) [] rfl ?_
    exact hL_22 _ _ (hf)
  · have hf := hf.2 c_4
    refine nw_aload_n (pc := 7) h dX4_wake_7 rfl 0 rfl ?_
    refine nw_aload_n (pc := 8) h dX4_wake_8 rfl 0 rfl ?_
    refine gf4_43 (pc := 9) (r := 10) h rfl rfl dX4_wake_9 ?_
    refine nw_iload_n (pc := 12) h dX4_wake_12 rfl 1 rfl ?_
    refine nw_iconst (pc := 13) (v := 0) h dX4_wake_13 (by decide) ?_
    refine klX4_113 (pc := 14) h (by rw [hR]; decide) rfl hf (Nat.le_of_ble_eq_true rfl) dX4_wake_14 (fun r_14 s_14 hf => ?_)
    refine nw_goto (pc := 17) (tgt := 22) h dX4_wake_17 (by decide) ?_
    refine nw_sub (lv' := []) [] rfl ?_
    exact hL_22 _ _ (hf)
def v4_isNumber (a1 : Int32) : Int32 := (v4_isFrom a1 (1 : Int32) (400 : Int32))
theorem z4_isNumber (a1 : Int32) : nw_isZ (v4_isNumber a1) := by
  unfold v4_isNumber; repeat' split
  all_goals first | exact (z4_isFrom a1 (1 : Int32) (400 : Int32))
def rm4_isNumber : Room := { frames := 1, cells := 0, slots := 0, locals := 22 }
theorem yd4_isNumber : yX4_isNumber.cls = RX4 ∧ yX4_isNumber.cls ≠ "java/lang/invoke/MethodHandle" ∧ yX4_isNumber.cls ≠ "java/lang/invoke/VarHandle" ∧ (parseMethodDescriptor yX4_isNumber.desc).map (fun d => d.parameters.length) = some 1 := by decide +kernel
set_option maxHeartbeats 4000000 in
set_option maxRecDepth 100000 in
theorem ct4_isNumber (l : Launch) (P : nw_PT) (hD : nw_D P) (σ : nw_ST) (a1 : Int32)   : nw_MT l yX4_isNumber cX4_isNumber 1 (some .boolean) rm4_isNumber P [.int a1] σ (nw_Ki (fun r s2 => r = (v4_isNumber a1) ∧ s2 = σ)) := by
  refine nw_enter (by decide) (by first | decide | exact Nat.le_of_ble_eq_true rfl) hD ?_
  intro X hl h he hR
  subst hl
  have h : nw_ok P X cX4_isNumber RX4 1 := h
  show nw_G P X 1 σ [(0, .int a1)] 0 []
  refine nw_iload_n (pc := 0) h dX4_isNumber_0 rfl 0 rfl ?_
  refine nw_iconst (pc := 1) (v := 1) h dX4_isNumber_1 (by decide) ?_
  refine nw_sipush (pc := 2) (v := 400) h dX4_isNumber_2 (by decide) ?_
  refine klX4_109 (pc := 5) h (by rw [hR]; decide) (Nat.le_of_ble_eq_true rfl) dX4_isNumber_5 ?_
  exact nw_zret (pc := 8) h he dX4_isNumber_8 (z4_isFrom a1 (1 : Int32) (400 : Int32)) ⟨_, rfl, rfl, rfl⟩
theorem klX4_156 {P : nw_PT} {X : nw_EX} {cc : ByteArray} {nL : Nat} {σ : nw_ST} {lv : List (Nat × Value)} {pc : Nat} {rest : List Value} {a1 : Int32} (h : nw_ok P X cc RX4 nL) (hR : rm4_isNumber.frames + 1 ≤ X.2.2.2.1.frames ∧ 8 + (1 + 11) + rm4_isNumber.locals ≤ X.2.2.2.1.locals)  (hst : (rest.map fun v => v.category).sum ≤ 8) (hd : decode cc pc = .ok (.invokestatic 156, 3)) (k : nw_G P X nL σ lv (pc + 3) (.int (v4_isNumber a1) :: rest)) : nw_G P X nL σ lv pc (.int a1 :: rest) :=
  nw_callS (As := [.int a1]) (rest := rest) h (ct4_isNumber _ P h.2.2 σ a1) (nw_goodS nw_w67 nw_w68 nw_w24 nw_w69) yd4_isNumber.2 rfl hR ⟨rfl, rfl⟩ hst rfl hd (fun v s2 z => by obtain ⟨r, rfl, rfl, rfl⟩ := z; exact k)
def v4_mayBeTicket (a1 : Int32) (a2 : Int32) : Int32 := (if ((v4_isBelow a1 (8 : Int32)) = 0) then (0 : Int32) else (if ((v4_isNumber a2) = 0) then (0 : Int32) else (1 : Int32)))
theorem z4_mayBeTicket (a1 : Int32) (a2 : Int32) : nw_isZ (v4_mayBeTicket a1 a2) := by
  unfold v4_mayBeTicket; repeat' split
  all_goals first | exact (Or.inl rfl) | exact (Or.inr rfl)
def rm4_mayBeTicket : Room := { frames := 2, cells := 0, slots := 0, locals := 42 }
theorem yd4_mayBeTicket : yX4_mayBeTicket.cls = RX4 ∧ yX4_mayBeTicket.cls ≠ "java/lang/invoke/MethodHandle" ∧ yX4_mayBeTicket.cls ≠ "java/lang/invoke/VarHandle" ∧ (parseMethodDescriptor yX4_mayBeTicket.desc).map (fun d => d.parameters.length) = some 2 := by decide +kernel
set_option maxHeartbeats 4000000 in
set_option maxRecDepth 100000 in
theorem ct4_mayBeTicket (l : Launch) (P : nw_PT) (hD : nw_D P) (σ : nw_ST) (a1 : Int32) (a2 : Int32)   : nw_MT l yX4_mayBeTicket cX4_mayBeTicket 2 (some .boolean) rm4_mayBeTicket P [.int a1, .int a2] σ (nw_Ki (fun r s2 => r = (v4_mayBeTicket a1 a2) ∧ s2 = σ)) := by
  refine nw_enter (by decide) (by first | decide | exact Nat.le_of_ble_eq_true rfl) hD ?_
  intro X hl h he hR
  subst hl
  have h : nw_ok P X cX4_mayBeTicket RX4 2 := h
  show nw_G P X 2 σ [(0, .int a1), (1, .int a2)] 0 []
  refine nw_iload_n (pc := 0) h dX4_mayBeTicket_0 rfl 0 rfl ?_
  refine nw_bipush (pc := 1) (v := 8) h dX4_mayBeTicket_1 (by decide) ?_
  refine klX4_84 (pc := 3) h (by rw [hR]; decide) (Nat.le_of_ble_eq_true rfl) dX4_mayBeTicket_3 ?_
  refine nw_if_eq (pc := 6) (tgt := 20) h dX4_mayBeTicket_6 (by decide) (fun c_6 => ?_) (fun c_6 => ?_)
  · skip
    refine nw_iconst (pc := 20) (v := 0) h dX4_mayBeTicket_20 (by decide) ?_
    exact nw_zret (pc := 21) h he dX4_mayBeTicket_21 (Or.inl rfl) ⟨_, rfl, (by unfold v4_mayBeTicket; rw [if_pos c_6]), rfl⟩
  · skip
    refine nw_iload_n (pc := 9) h dX4_mayBeTicket_9 rfl 1 rfl ?_
    refine klX4_156 (pc := 10) h (by rw [hR]; decide) (Nat.le_of_ble_eq_true rfl) dX4_mayBeTicket_10 ?_
    refine nw_if_eq (pc := 13) (tgt := 20) h dX4_mayBeTicket_13 (by decide) (fun c_13 => ?_) (fun c_13 => ?_)
    · skip
      refine nw_iconst (pc := 20) (v := 0) h dX4_mayBeTicket_20 (by decide) ?_
      exact nw_zret (pc := 21) h he dX4_mayBeTicket_21 (Or.inl rfl) ⟨_, rfl, (by unfold v4_mayBeTicket; rw [if_neg c_6, if_pos c_13]), rfl⟩
    · skip
      refine nw_iconst (pc := 16) (v := 1) h dX4_mayBeTicket_16 (by decide) ?_
      refine nw_goto (pc := 17) (tgt := 21) h dX4_mayBeTicket_17 (by decide) ?_
      exact nw_zret (pc := 21) h he dX4_mayBeTicket_21 (Or.inr rfl) ⟨_, rfl, (by unfold v4_mayBeTicket; rw [if_neg c_6, if_neg c_13]), rfl⟩
theorem klX4_120 {P : nw_PT} {X : nw_EX} {cc : ByteArray} {nL : Nat} {σ : nw_ST} {lv : List (Nat × Value)} {pc : Nat} {rest : List Value} {a1 : Int32} {a2 : Int32} (h : nw_ok P X cc RX4 nL) (hR : rm4_mayBeTicket.frames + 1 ≤ X.2.2.2.1.frames ∧ 8 + (2 + 11) + rm4_mayBeTicket.locals ≤ X.2.2.2.1.locals)  (hst : (rest.map fun v => v.category).sum ≤ 8) (hd : decode cc pc = .ok (.invokestatic 120, 3)) (k : nw_G P X nL σ lv (pc + 3) (.int (v4_mayBeTicket a1 a2) :: rest)) : nw_G P X nL σ lv pc (.int a2 :: .int a1 :: rest) :=
  nw_callS (As := [.int a1, .int a2]) (rest := rest) h (ct4_mayBeTicket _ P h.2.2 σ a1 a2) (nw_goodS nw_w70 nw_w71 nw_w24 nw_w72) yd4_mayBeTicket.2 rfl hR ⟨rfl, rfl⟩ hst rfl hd (fun v s2 z => by obtain ⟨r, rfl, rfl, rfl⟩ := z; exact k)
theorem gf4_46 {P : nw_PT} {X : nw_EX} {cc : ByteArray} {nL : Nat} {σ : nw_ST} {lv : List (Nat × Value)} {pc : Nat} {st : List Value} {q : Nat} (h : nw_ok P X cc RX4 nL) (hq : nw_cl q = 4) {r : Nat} (hr : nw_rf q 4 = r) (hd : decode cc pc = .ok (.getfield 46, 3)) (k : nw_G P X nL σ lv (pc + 3) (.ref (P.2.1 r) :: st)) : nw_G P X nL σ lv pc (.ref (P.2.1 q) :: st) := by
  subst hr; intro H locs ls h1 h2 h3
  exact va_get (D := P.1) (ci := 4) (C := RX4) (T := TX4) (N := 13) h.1.1 h.1.2.1 h.1.2.2.2.2 in_T4 h.1.2.2.2.1 h.2.1.1 h1 q (nw_at4 hq) rfl 4 (by decide) (h.1.2.2.2.2 _ nw_w73) (fun _ z => z) rfl hd (k H locs ls h1 h2 h3)
def f4_ticket_23 (K : Int32 → nw_ST → Prop) (σ : nw_ST) (y0 : Int32) : Prop := (K y0 σ)
def f4_ticket (K : Int32 → nw_ST → Prop) (σ : nw_ST) (a1 : Int32) (a2 : Int32) : Prop := ((((v4_mayBeTicket a1 a2) = 0) → (f4_ticket_23 K σ (-2 : Int32))) ∧ (¬ ((v4_mayBeTicket a1 a2) = 0) → (f4_tell (fun (r_15 : Int32) (s_15 : nw_ST) => (f4_ticket_23 K s_15 r_15)) σ 13 a1 a2)))
def rm4_ticket : Room := { frames := 3, cells := 0, slots := 0, locals := 63 }
theorem yd4_ticket : yX4_ticket.cls = RX4 ∧ yX4_ticket.cls ≠ "java/lang/invoke/MethodHandle" ∧ yX4_ticket.cls ≠ "java/lang/invoke/VarHandle" ∧ (parseMethodDescriptor yX4_ticket.desc).map (fun d => d.parameters.length) = some 2 := by decide +kernel
set_option maxHeartbeats 4000000 in
set_option maxRecDepth 100000 in
theorem ct4_ticket (l : Launch) (P : nw_PT) (hD : nw_D P) (σ : nw_ST) (a1 : Int32) (a2 : Int32)  (K : Int32 → nw_ST → Prop) (hf : f4_ticket K σ a1 a2) : nw_MT l yX4_ticket cX4_ticket 3 (some .int) rm4_ticket P [.ref (P.2.1 0), .int a1, .int a2] σ (nw_Ki K) := by
  refine nw_enter (by decide) (by first | decide | exact Nat.le_of_ble_eq_true rfl) hD ?_
  intro X hl h he hR
  subst hl
  have h : nw_ok P X cX4_ticket RX4 3 := h
  show nw_G P X 3 σ [(0, .ref (P.2.1 0)), (1, .int a1), (2, .int a2)] 0 []
  have hL_23 :  ∀ (σ : nw_ST) (y0 : Int32), f4_ticket_23 K σ y0 → nw_G P X 3 σ [] 23 [.int y0] := by
    intro σ y0 hf
    unfold f4_ticket_23 at hf
    exact nw_iret (pc := 23) h he dX4_ticket_23 ⟨_, rfl, hf⟩
  unfold f4_ticket at hf
  refine nw_iload_n (pc := 0) h dX4_ticket_0 rfl 1 rfl ?_
  refine nw_iload_n (pc := 1) h dX4_ticket_1 rfl 2 rfl ?_
  refine klX4_120 (pc := 2) h (by rw [hR]; decide) (Nat.le_of_ble_eq_true rfl) dX4_ticket_2 ?_
  refine nw_if_eq (pc := 5) (tgt := 21) h dX4_ticket_5 (by decide) (fun c_5 => ?_) (fun c_5 => ?_)
  · have hf := hf.1 c_5
    refine nw_bipush (pc := 21) (v := -2) h dX4_ticket_21 (by decide) ?_
    refine nw_sub (lv' := []) [] rfl ?_
    exact hL_23 _ _ (hf)
  · have hf := hf.2 c_5
    refine nw_aload_n (pc := 8) h dX4_ticket_8 rfl 0 rfl ?_
    refine nw_aload_n (pc := 9) h dX4_ticket_9 rfl 0 rfl ?_
    refine gf4_46 (pc := 10) (r := 13) h rfl rfl dX4_ticket_10 ?_
    refine nw_iload_n (pc := 13) h dX4_ticket_13 rfl 1 rfl ?_
    refine nw_iload_n (pc := 14) h dX4_ticket_14 rfl 2 rfl ?_
    refine klX4_113 (pc := 15) h (by rw [hR]; decide) rfl hf (Nat.le_of_ble_eq_true rfl) dX4_ticket_15 (fun r_15 s_15 hf => ?_)
    refine nw_goto (pc := 18) (tgt := 23) h dX4_ticket_18 (by decide) ?_
    refine nw_sub (lv' := []) [] rfl ?_
    exact hL_23 _ _ (hf)
def f0_dropLast (K : Int32 → nw_ST → Prop) (σ : nw_ST) (q0 : Nat) : Prop := ((((nw_gS σ q0 2) = 0) → (K (0 : Int32) σ)) ∧ (¬ ((nw_gS σ q0 2) = 0) → (K (1 : Int32) (nw_sS σ q0 2 ((nw_gS σ q0 2) - (1 : Int32))))))
def rm0_dropLast : Room := { frames := 0, cells := 0, slots := 0, locals := 0 }
theorem yd0_dropLast : yX0_dropLast.cls = RX0 ∧ yX0_dropLast.cls ≠ "java/lang/invoke/MethodHandle" ∧ yX0_dropLast.cls ≠ "java/lang/invoke/VarHandle" ∧ (parseMethodDescriptor yX0_dropLast.desc).map (fun d => d.parameters.length) = some 0 := by decide +kernel
set_option maxHeartbeats 4000000 in
set_option maxRecDepth 100000 in
theorem ct0_dropLast (l : Launch) (P : nw_PT) (hD : nw_D P) (σ : nw_ST) (q0 : Nat) (hc_q0 : nw_cl q0 = 0) (K : Int32 → nw_ST → Prop) (hf : f0_dropLast K σ q0) : nw_MT l yX0_dropLast cX0_dropLast 1 (some .boolean) rm0_dropLast P [.ref (P.2.1 q0)] σ (nw_Ki K) := by
  refine nw_enter (by decide) (by first | decide | exact Nat.le_of_ble_eq_true rfl) hD ?_
  intro X hl h he hR
  subst hl
  have h : nw_ok P X cX0_dropLast RX0 1 := h
  show nw_G P X 1 σ [(0, .ref (P.2.1 q0))] 0 []
  unfold f0_dropLast at hf
  refine nw_aload_n (pc := 0) h dX0_dropLast_0 rfl 0 rfl ?_
  refine gf0_18 (pc := 1) h hc_q0 dX0_dropLast_1 ?_
  refine nw_if_ne (pc := 4) (tgt := 9) h dX0_dropLast_4 (by decide) (fun c_4 => ?_) (fun c_4 => ?_)
  · have hf := hf.2 c_4
    refine nw_aload_n (pc := 9) h dX0_dropLast_9 rfl 0 rfl ?_
    refine nw_dup (pc := 10) h dX0_dropLast_10 rfl ?_
    refine gf0_18 (pc := 11) h hc_q0 dX0_dropLast_11 ?_
    refine nw_iconst (pc := 14) (v := 1) h dX0_dropLast_14 (by decide) ?_
    refine nw_isub (pc := 15) h dX0_dropLast_15 ?_
    refine pf0_18 (pc := 16) h hc_q0 dX0_dropLast_16 ?_
    refine nw_iconst (pc := 19) (v := 1) h dX0_dropLast_19 (by decide) ?_
    exact nw_zret (pc := 20) h he dX0_dropLast_20 (Or.inr rfl) ⟨_, rfl, hf⟩
  · have hf := hf.1 c_4
    refine nw_iconst (pc := 7) (v := 0) h dX0_dropLast_7 (by decide) ?_
    exact nw_zret (pc := 8) h he dX0_dropLast_8 (Or.inl rfl) ⟨_, rfl, hf⟩
theorem klX4_123 {P : nw_PT} {X : nw_EX} {cc : ByteArray} {nL : Nat} {σ : nw_ST} {lv : List (Nat × Value)} {pc : Nat} {rest : List Value} {q0 : Nat} (h : nw_ok P X cc RX4 nL) (hR : rm0_dropLast.frames + 1 ≤ X.2.2.2.1.frames ∧ 8 + (1 + 11) + rm0_dropLast.locals ≤ X.2.2.2.1.locals) (hc_q0 : nw_cl q0 = 0) {K : Int32 → nw_ST → Prop} (hf : f0_dropLast K σ q0) (hst : (rest.map fun v => v.category).sum ≤ 8) (hd : decode cc pc = .ok (.invokevirtual 123, 3)) (k : ∀ (r : Int32) (s2 : nw_ST), K r s2 → nw_G P X nL s2 lv (pc + 3) (.int r :: rest)) : nw_G P X nL σ lv pc (.ref (P.2.1 q0) :: rest) :=
  nw_callV (As := []) (rest := rest) (C := RX0) (ci := 0) h (ct0_dropLast _ P h.2.2 σ q0 hc_q0 K hf) (nw_goodV nw_w74 nw_w75 nw_w76 nw_w56 nw_w77) yd0_dropLast rfl hR ⟨rfl, rfl⟩ hc_q0 (by decide) rfl rfl hst rfl hd (fun v s2 z => by obtain ⟨r, rfl, z⟩ := z; exact k r s2 z)
def f4_back_38 (K : Int32 → nw_ST → Prop) (σ : nw_ST) (y0 : Nat) : Prop := (f0_dropLast (fun (r_40 : Int32) (s_40 : nw_ST) => (((r_40 = 0) → (K (-3 : Int32) s_40)) ∧ (¬ (r_40 = 0) → (K (nw_gS (nw_sS s_40 0 12 (0 : Int32)) y0 2) (nw_sS s_40 0 12 (0 : Int32)))))) σ y0)
def f4_back (K : Int32 → nw_ST → Prop) (σ : nw_ST) (a1 : Int32) : Prop := ((((v4_isBelow a1 (3 : Int32)) = 0) → (K (-2 : Int32) σ)) ∧ (¬ ((v4_isBelow a1 (3 : Int32)) = 0) → (f4_back_38 K σ (if (a1 = 0) then 7 else (if (a1 = (1 : Int32)) then 10 else 13)))))
def rm4_back : Room := { frames := 1, cells := 0, slots := 0, locals := 21 }
theorem yd4_back : yX4_back.cls = RX4 ∧ yX4_back.cls ≠ "java/lang/invoke/MethodHandle" ∧ yX4_back.cls ≠ "java/lang/invoke/VarHandle" ∧ (parseMethodDescriptor yX4_back.desc).map (fun d => d.parameters.length) = some 1 := by decide +kernel
set_option maxHeartbeats 4000000 in
set_option maxRecDepth 100000 in
theorem ct4_back (l : Launch) (P : nw_PT) (hD : nw_D P) (σ : nw_ST) (a1 : Int32)  (K : Int32 → nw_ST → Prop) (hf : f4_back K σ a1) : nw_MT l yX4_back cX4_back 3 (some .int) rm4_back P [.ref (P.2.1 0), .int a1] σ (nw_Ki K) := by
  refine nw_enter (by decide) (by first | decide | exact Nat.le_of_ble_eq_true rfl) hD ?_
  intro X hl h he hR
  subst hl
  have h : nw_ok P X cX4_back RX4 3 := h
  show nw_G P X 3 σ [(0, .ref (P.2.1 0)), (1, .int a1)] 0 []
  have hL_38 :  ∀ (σ : nw_ST) (y0 : Nat), nw_cl y0 = 0 → f4_back_38 K σ y0 → nw_G P X 3 σ [(0, .ref (P.2.1 0))] 38 [.ref (P.2.1 y0)] := by
    intro σ y0 hc_y0 hf
    unfold f4_back_38 at hf
    refine nw_astore_n (pc := 38) (lv' := [(2, .ref (P.2.1 y0)), (0, .ref (P.2.1 0))]) h dX4_back_38 rfl (by decide) rfl ?_
    refine nw_aload_n (pc := 39) h dX4_back_39 rfl 0 rfl ?_
    refine klX4_123 (pc := 40) h (by rw [hR]; decide) hc_y0 hf (Nat.le_of_ble_eq_true rfl) dX4_back_40 (fun r_40 s_40 hf => ?_)
    refine nw_if_ne (pc := 43) (tgt := 49) h dX4_back_43 (by decide) (fun c_43 => ?_) (fun c_43 => ?_)
    · have hf := hf.2 c_43
      refine nw_aload_n (pc := 49) h dX4_back_49 rfl 1 rfl ?_
      refine nw_iconst (pc := 50) (v := 0) h dX4_back_50 (by decide) ?_
      refine pf4_80 (pc := 51) h rfl (Or.inl rfl) dX4_back_51 ?_
      refine nw_aload_n (pc := 54) h dX4_back_54 rfl 0 rfl ?_
      refine gf4_127 (pc := 55) h hc_y0 dX4_back_55 ?_
      exact nw_iret (pc := 58) h he dX4_back_58 ⟨_, rfl, hf⟩
    · have hf := hf.1 c_43
      refine nw_bipush (pc := 46) (v := -3) h dX4_back_46 (by decide) ?_
      exact nw_iret (pc := 48) h he dX4_back_48 ⟨_, rfl, hf⟩
  unfold f4_back at hf
  refine nw_iload_n (pc := 0) h dX4_back_0 rfl 1 rfl ?_
  refine nw_iconst (pc := 1) (v := 3) h dX4_back_1 (by decide) ?_
  refine klX4_84 (pc := 2) h (by rw [hR]; decide) (Nat.le_of_ble_eq_true rfl) dX4_back_2 ?_
  refine nw_if_ne (pc := 5) (tgt := 11) h dX4_back_5 (by decide) (fun c_5 => ?_) (fun c_5 => ?_)
  · have hf := hf.2 c_5
    refine nw_iload_n (pc := 11) h dX4_back_11 rfl 1 rfl ?_
    refine nw_if_ne (pc := 12) (tgt := 22) h dX4_back_12 (by decide) (fun c_12 => ?_) (fun c_12 => ?_)
    · skip
      refine nw_iload_n (pc := 22) h dX4_back_22 rfl 1 rfl ?_
      refine nw_iconst (pc := 23) (v := 1) h dX4_back_23 (by decide) ?_
      refine nw_icmp_ne (pc := 24) (tgt := 34) h dX4_back_24 (by decide) (fun c_24 => ?_) (fun c_24 => ?_)
      · skip
        refine nw_aload_n (pc := 34) h dX4_back_34 rfl 0 rfl ?_
        refine gf4_46 (pc := 35) (r := 13) h rfl rfl dX4_back_35 ?_
        simp only [if_neg c_12, if_neg c_24] at hf
        refine nw_sub (lv' := [(0, .ref (P.2.1 0))]) [0] rfl ?_
        exact hL_38 _ _ rfl hf
      · skip
        refine nw_aload_n (pc := 27) h dX4_back_27 rfl 0 rfl ?_
        refine gf4_43 (pc := 28) (r := 10) h rfl rfl dX4_back_28 ?_
        refine nw_goto (pc := 31) (tgt := 38) h dX4_back_31 (by decide) ?_
        simp only [if_neg c_12, if_pos c_24] at hf
        refine nw_sub (lv' := [(0, .ref (P.2.1 0))]) [0] rfl ?_
        exact hL_38 _ _ rfl hf
    · skip
      refine nw_aload_n (pc := 15) h dX4_back_15 rfl 0 rfl ?_
      refine gf4_39 (pc := 16) (r := 7) h rfl rfl dX4_back_16 ?_
      refine nw_goto (pc := 19) (tgt := 38) h dX4_back_19 (by decide) ?_
      simp only [if_pos c_12] at hf
      refine nw_sub (lv' := [(0, .ref (P.2.1 0))]) [0] rfl ?_
      exact hL_38 _ _ rfl hf
  · have hf := hf.1 c_5
    refine nw_bipush (pc := 8) (v := -2) h dX4_back_8 (by decide) ?_
    exact nw_iret (pc := 10) h he dX4_back_10 ⟨_, rfl, hf⟩
