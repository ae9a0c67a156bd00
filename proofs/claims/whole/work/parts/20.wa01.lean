theorem pf4_77 {P : nw_PT} {X : nw_EX} {cc : ByteArray} {nL : Nat} {σ : nw_ST} {lv : List (Nat × Value)} {pc : Nat} {st : List Value} {q : Nat} (h : nw_ok P X cc RX4 nL) (hq : nw_cl q = 4) {v : Int32} (hd : decode cc pc = .ok (.putfield 77, 3)) (k : nw_G P X nL (nw_sS σ q 11 v) lv (pc + 3) st) : nw_G P X nL σ lv pc (.int v :: .ref (P.2.1 q) :: st) := by
  intro H locs ls h1 h2 h3
  exact va_put (D := P.1) (ci := 4) (ty := .int) (C := RX4) (T := TX4) (N := 13) h.1.1 h.1.2.1 h.1.2.2.2.2 in_T4 tyX4 tyX4_ok nmX4 h.1.2.2.2.1 h.2.1.1 h1 (h.2.2 σ) h2 q (nw_at4 hq) rfl 11 (by decide) (h.1.2.2.2.2 _ nw_w78) (fun _ z => z) rfl (by decide +kernel) rfl rfl (by show 11 < 13; decide) hd (fun H1 locs1 g1 _ g2 => k H1 locs1 ls (by rw [nw_set4_11 hq] at g1; exact g1) g2 h3)
def f4_finding (K : Int32 → nw_ST → Prop) (σ : nw_ST) (a1 : Int32) : Prop := (K ((-10 : Int32) - a1) (nw_sS σ 0 11 a1))
def rm4_finding : Room := { frames := 0, cells := 0, slots := 0, locals := 0 }
theorem yd4_finding : yX4_finding.cls = RX4 ∧ yX4_finding.cls ≠ "java/lang/invoke/MethodHandle" ∧ yX4_finding.cls ≠ "java/lang/invoke/VarHandle" ∧ (parseMethodDescriptor yX4_finding.desc).map (fun d => d.parameters.length) = some 1 := by decide +kernel
set_option maxHeartbeats 4000000 in
set_option maxRecDepth 100000 in
theorem ct4_finding (l : Launch) (P : nw_PT) (hD : nw_D P) (σ : nw_ST) (a1 : Int32)  (K : Int32 → nw_ST → Prop) (hf : f4_finding K σ a1) : nw_MT l yX4_finding cX4_finding 2 (some .int) rm4_finding P [.ref (P.2.1 0), .int a1] σ (nw_Ki K) := by
  refine nw_enter (by decide) (by first | decide | exact Nat.le_of_ble_eq_true rfl) hD ?_
  intro X hl h he hR
  subst hl
  have h : nw_ok P X cX4_finding RX4 2 := h
  show nw_G P X 2 σ [(0, .ref (P.2.1 0)), (1, .int a1)] 0 []
  unfold f4_finding at hf
  refine nw_aload_n (pc := 0) h dX4_finding_0 rfl 0 rfl ?_
  refine nw_iload_n (pc := 1) h dX4_finding_1 rfl 1 rfl ?_
  refine pf4_77 (pc := 2) h rfl dX4_finding_2 ?_
  refine nw_bipush (pc := 5) (v := -10) h dX4_finding_5 (by decide) ?_
  refine nw_iload_n (pc := 7) h dX4_finding_7 rfl 1 rfl ?_
  refine nw_isub (pc := 8) h dX4_finding_8 ?_
  exact nw_iret (pc := 9) h he dX4_finding_9 ⟨_, rfl, hf⟩
theorem gf4_61 {P : nw_PT} {X : nw_EX} {cc : ByteArray} {nL : Nat} {σ : nw_ST} {lv : List (Nat × Value)} {pc : Nat} {st : List Value} {q : Nat} (h : nw_ok P X cc RX4 nL) (hq : nw_cl q = 4) {r : Nat} (hr : nw_rf q 7 = r) (hd : decode cc pc = .ok (.getfield 61, 3)) (k : nw_G P X nL σ lv (pc + 3) (.ref (P.2.1 r) :: st)) : nw_G P X nL σ lv pc (.ref (P.2.1 q) :: st) := by
  subst hr; intro H locs ls h1 h2 h3
  exact va_get (D := P.1) (ci := 4) (C := RX4) (T := TX4) (N := 13) h.1.1 h.1.2.1 h.1.2.2.2.2 in_T4 h.1.2.2.2.1 h.2.1.1 h1 q (nw_at4 hq) rfl 7 (by decide) (h.1.2.2.2.2 _ nw_w79) (fun _ z => z) rfl hd (k H locs ls h1 h2 h3)
theorem gf4_259 {P : nw_PT} {X : nw_EX} {cc : ByteArray} {nL : Nat} {σ : nw_ST} {lv : List (Nat × Value)} {pc : Nat} {st : List Value} {q : Nat} (h : nw_ok P X cc RX4 nL) (hq : nw_cl q = 1) (hd : decode cc pc = .ok (.getfield 259, 3)) (k : nw_G P X nL σ lv (pc + 3) (.int (nw_gS σ q 3) :: st)) : nw_G P X nL σ lv pc (.ref (P.2.1 q) :: st) := by
  intro H locs ls h1 h2 h3
  exact va_getN (D := P.1) (ci := 1) (C := RX1) (T := TX1) (N := 4) h.1.1 h.1.2.1 h.1.2.2.2.2 in_T1 h.1.2.2.2.1 h.2.1.1 h1 q (nw_at1 hq) rfl 3 (by decide) (va_Nw.use rfl (h.2.1.2.1 ("NumberedWaves", 259, "NumberedWaves$Sheet", "lost", "Z", "NumberedWaves") (by decide +kernel))) (fun _ z => z) rfl hd (k H locs ls h1 h2 h3)
theorem klX4_252 {P : nw_PT} {X : nw_EX} {cc : ByteArray} {nL : Nat} {σ : nw_ST} {lv : List (Nat × Value)} {pc : Nat} {rest : List Value} {a1 : Int32} (h : nw_ok P X cc RX4 nL) (hR : rm4_finding.frames + 1 ≤ X.2.2.2.1.frames ∧ 8 + (2 + 11) + rm4_finding.locals ≤ X.2.2.2.1.locals)  {K : Int32 → nw_ST → Prop} (hf : f4_finding K σ a1) (hst : (rest.map fun v => v.category).sum ≤ 8) (hd : decode cc pc = .ok (.invokevirtual 252, 3)) (k : ∀ (r : Int32) (s2 : nw_ST), K r s2 → nw_G P X nL s2 lv (pc + 3) (.int r :: rest)) : nw_G P X nL σ lv pc (.int a1 :: .ref (P.2.1 0) :: rest) :=
  nw_callV (As := [.int a1]) (rest := rest) (C := RX4) (ci := 4) h (ct4_finding _ P h.2.2 σ a1 K hf) (nw_goodV nw_w80 nw_w81 nw_w82 nw_w24 nw_w83) yd4_finding rfl hR ⟨rfl, rfl⟩ rfl (by decide) rfl rfl hst rfl hd (fun v s2 z => by obtain ⟨r, rfl, z⟩ := z; exact k r s2 z)
def f4_sheetRefusal_32 (K : Int32 → nw_ST → Prop) (σ : nw_ST) (y0 : Int32) : Prop := (K y0 σ)
def f4_sheetRefusal (K : Int32 → nw_ST → Prop) (σ : nw_ST) (a1 : Int32) : Prop := ((((v4_isBelow a1 (4 : Int32)) = 0) → (K (-2 : Int32) σ)) ∧ (¬ ((v4_isBelow a1 (4 : Int32)) = 0) → ((vp_in a1 4) ∧ ((((nw_gS σ (27 + 2 * a1.toNatClampNeg) 3) = 0) → (f4_sheetRefusal_32 K σ (0 : Int32))) ∧ (¬ ((nw_gS σ (27 + 2 * a1.toNatClampNeg) 3) = 0) → (f4_finding (fun (r_25 : Int32) (s_25 : nw_ST) => (f4_sheetRefusal_32 K s_25 r_25)) σ (1 : Int32)))))))
def rm4_sheetRefusal : Room := { frames := 1, cells := 0, slots := 0, locals := 21 }
theorem yd4_sheetRefusal : yX4_sheetRefusal.cls = RX4 ∧ yX4_sheetRefusal.cls ≠ "java/lang/invoke/MethodHandle" ∧ yX4_sheetRefusal.cls ≠ "java/lang/invoke/VarHandle" ∧ (parseMethodDescriptor yX4_sheetRefusal.desc).map (fun d => d.parameters.length) = some 1 := by decide +kernel
set_option maxHeartbeats 4000000 in
set_option maxRecDepth 100000 in
theorem ct4_sheetRefusal (l : Launch) (P : nw_PT) (hD : nw_D P) (σ : nw_ST) (a1 : Int32)  (K : Int32 → nw_ST → Prop) (hf : f4_sheetRefusal K σ a1) : nw_MT l yX4_sheetRefusal cX4_sheetRefusal 2 (some .int) rm4_sheetRefusal P [.ref (P.2.1 0), .int a1] σ (nw_Ki K) := by
  refine nw_enter (by decide) (by first | decide | exact Nat.le_of_ble_eq_true rfl) hD ?_
  intro X hl h he hR
  subst hl
  have h : nw_ok P X cX4_sheetRefusal RX4 2 := h
  show nw_G P X 2 σ [(0, .ref (P.2.1 0)), (1, .int a1)] 0 []
  have hL_32 :  ∀ (σ : nw_ST) (y0 : Int32), f4_sheetRefusal_32 K σ y0 → nw_G P X 2 σ [] 32 [.int y0] := by
    intro σ y0 hf
    unfold f4_sheetRefusal_32 at hf
    exact nw_iret (pc := 32) h he dX4_sheetRefusal_32 ⟨_, rfl, hf⟩
  unfold f4_sheetRefusal at hf
  refine nw_iload_n (pc := 0) h dX4_sheetRefusal_0 rfl 1 rfl ?_
  refine nw_iconst (pc := 1) (v := 4) h dX4_sheetRefusal_1 (by decide) ?_
  refine klX4_84 (pc := 2) h (by rw [hR]; decide) (Nat.le_of_ble_eq_true rfl) dX4_sheetRefusal_2 ?_
  refine nw_if_ne (pc := 5) (tgt := 11) h dX4_sheetRefusal_5 (by decide) (fun c_5 => ?_) (fun c_5 => ?_)
  · have hf := hf.2 c_5
    refine nw_aload_n (pc := 11) h dX4_sheetRefusal_11 rfl 0 rfl ?_
    refine gf4_61 (pc := 12) (r := 26) h rfl rfl dX4_sheetRefusal_12 ?_
    refine nw_iload_n (pc := 15) h dX4_sheetRefusal_15 rfl 1 rfl ?_
    obtain ⟨h_16, hf⟩ := hf
    refine nw_aald (pc := 16) h h_16 dX4_sheetRefusal_16 ?_
    refine gf4_259 (pc := 17) h (nw_wtS (nw_lt4 h_16)) dX4_sheetRefusal_17 ?_
    refine nw_if_eq (pc := 20) (tgt := 31) h dX4_sheetRefusal_20 (by decide) (fun c_20 => ?_) (fun c_20 => ?_)
    · have hf := hf.1 c_20
      refine nw_iconst (pc := 31) (v := 0) h dX4_sheetRefusal_31 (by decide) ?_
      refine nw_sub (lv' := []) [] rfl ?_
      exact hL_32 _ _ (hf)
    · have hf := hf.2 c_20
      refine nw_aload_n (pc := 23) h dX4_sheetRefusal_23 rfl 0 rfl ?_
      refine nw_iconst (pc := 24) (v := 1) h dX4_sheetRefusal_24 (by decide) ?_
      refine klX4_252 (pc := 25) h (by rw [hR]; decide) hf (Nat.le_of_ble_eq_true rfl) dX4_sheetRefusal_25 (fun r_25 s_25 hf => ?_)
      refine nw_goto (pc := 28) (tgt := 32) h dX4_sheetRefusal_28 (by decide) ?_
      refine nw_sub (lv' := []) [] rfl ?_
      exact hL_32 _ _ (hf)
  · have hf := hf.1 c_5
    refine nw_bipush (pc := 8) (v := -2) h dX4_sheetRefusal_8 (by decide) ?_
    exact nw_iret (pc := 10) h he dX4_sheetRefusal_10 ⟨_, rfl, hf⟩
theorem klX4_130 {P : nw_PT} {X : nw_EX} {cc : ByteArray} {nL : Nat} {σ : nw_ST} {lv : List (Nat × Value)} {pc : Nat} {rest : List Value} {a1 : Int32} (h : nw_ok P X cc RX4 nL) (hR : rm4_sheetRefusal.frames + 1 ≤ X.2.2.2.1.frames ∧ 8 + (2 + 11) + rm4_sheetRefusal.locals ≤ X.2.2.2.1.locals)  {K : Int32 → nw_ST → Prop} (hf : f4_sheetRefusal K σ a1) (hst : (rest.map fun v => v.category).sum ≤ 8) (hd : decode cc pc = .ok (.invokevirtual 130, 3)) (k : ∀ (r : Int32) (s2 : nw_ST), K r s2 → nw_G P X nL s2 lv (pc + 3) (.int r :: rest)) : nw_G P X nL σ lv pc (.int a1 :: .ref (P.2.1 0) :: rest) :=
  nw_callV (As := [.int a1]) (rest := rest) (C := RX4) (ci := 4) h (ct4_sheetRefusal _ P h.2.2 σ a1 K hf) (nw_goodV nw_w84 nw_w85 nw_w86 nw_w24 nw_w87) yd4_sheetRefusal rfl hR ⟨rfl, rfl⟩ rfl (by decide) rfl rfl hst rfl hd (fun v s2 z => by obtain ⟨r, rfl, z⟩ := z; exact k r s2 z)
theorem gf4_134 {P : nw_PT} {X : nw_EX} {cc : ByteArray} {nL : Nat} {σ : nw_ST} {lv : List (Nat × Value)} {pc : Nat} {st : List Value} {q : Nat} (h : nw_ok P X cc RX4 nL) (hq : nw_cl q = 1) (hd : decode cc pc = .ok (.getfield 134, 3)) (k : nw_G P X nL σ lv (pc + 3) (.int (nw_gS σ q 2) :: st)) : nw_G P X nL σ lv pc (.ref (P.2.1 q) :: st) := by
  intro H locs ls h1 h2 h3
  exact va_getN (D := P.1) (ci := 1) (C := RX1) (T := TX1) (N := 4) h.1.1 h.1.2.1 h.1.2.2.2.2 in_T1 h.1.2.2.2.1 h.2.1.1 h1 q (nw_at1 hq) rfl 2 (by decide) (va_Nw.use rfl (h.2.1.2.1 ("NumberedWaves", 134, "NumberedWaves$Sheet", "size", "I", "NumberedWaves") (by decide +kernel))) (fun _ z => z) rfl hd (k H locs ls h1 h2 h3)
theorem gf4_135 {P : nw_PT} {X : nw_EX} {cc : ByteArray} {nL : Nat} {σ : nw_ST} {lv : List (Nat × Value)} {pc : Nat} {st : List Value} {q : Nat} (h : nw_ok P X cc RX4 nL) (hq : nw_cl q = 1) {r : Nat} (hr : nw_rf q 0 = r) (hd : decode cc pc = .ok (.getfield 135, 3)) (k : nw_G P X nL σ lv (pc + 3) (.ref (P.2.1 r) :: st)) : nw_G P X nL σ lv pc (.ref (P.2.1 q) :: st) := by
  subst hr; intro H locs ls h1 h2 h3
  exact va_getN (D := P.1) (ci := 1) (C := RX1) (T := TX1) (N := 4) h.1.1 h.1.2.1 h.1.2.2.2.2 in_T1 h.1.2.2.2.1 h.2.1.1 h1 q (nw_at1 hq) rfl 0 (by decide) (va_Nw.use rfl (h.2.1.2.1 ("NumberedWaves", 135, "NumberedWaves$Sheet", "items", "[I", "NumberedWaves") (by decide +kernel))) (fun _ z => z) rfl hd (k H locs ls h1 h2 h3)
def f4_read_92 (K : Int32 → nw_ST → Prop) (σ : nw_ST) (x4 : Int32) : Prop := (K x4 σ)
def b4_read_25 (K : Int32 → nw_ST → Prop) (H_25 : nw_ST → Nat → Int32 → Int32 → Prop) (σ : nw_ST) (x3 : Nat) (x4 : Int32) (x5 : Int32) : Prop := ((((nw_gS σ x3 2) ≤ (x5 + (1 : Int32))) → (f4_read_92 K σ x4)) ∧ (¬ ((nw_gS σ x3 2) ≤ (x5 + (1 : Int32))) → ((vp_in x5 (nw_len (nw_rf x3 0))) ∧ ((vp_in (x5 + (1 : Int32)) (nw_len (nw_rf x3 0))) ∧ ((((v4_mayBeTicket (nw_gA σ (nw_rf x3 0) x5.toNatClampNeg) (nw_gA σ (nw_rf x3 0) (x5 + (1 : Int32)).toNatClampNeg)) = 0) → (f4_read_92 K σ x4)) ∧ (¬ ((v4_mayBeTicket (nw_gA σ (nw_rf x3 0) x5.toNatClampNeg) (nw_gA σ (nw_rf x3 0) (x5 + (1 : Int32)).toNatClampNeg)) = 0) → (f0_append (fun (r_74 : Int32) (s_74 : nw_ST) => (((r_74 = 0) → (f4_read_92 K s_74 x4)) ∧ (¬ (r_74 = 0) → (H_25 s_74 x3 (x4 + (1 : Int32)) (x5 + (2 : Int32)))))) σ 13 (nw_gA σ (nw_rf x3 0) x5.toNatClampNeg) (nw_gA σ (nw_rf x3 0) (x5 + (1 : Int32)).toNatClampNeg))))))))
def f4_read_25 (K : Int32 → nw_ST → Prop) : Nat → nw_ST → Nat → Int32 → Int32 → Prop
  | 0 => fun _ _ _ _ => False
  | n + 1 => b4_read_25 K (f4_read_25 K n)
def f4_read (K : Int32 → nw_ST → Prop) (σ : nw_ST) (a1 : Int32) : Prop := (f4_sheetRefusal (fun (r_2 : Int32) (s_2 : nw_ST) => (((r_2 = 0) → ((vp_in a1 4) ∧ (∃ n, f4_read_25 K n s_2 (27 + 2 * a1.toNatClampNeg) (0 : Int32) (0 : Int32)))) ∧ (¬ (r_2 = 0) → (K r_2 s_2)))) σ a1)
def rm4_read : Room := { frames := 3, cells := 0, slots := 0, locals := 63 }
theorem yd4_read : yX4_read.cls = RX4 ∧ yX4_read.cls ≠ "java/lang/invoke/MethodHandle" ∧ yX4_read.cls ≠ "java/lang/invoke/VarHandle" ∧ (parseMethodDescriptor yX4_read.desc).map (fun d => d.parameters.length) = some 1 := by decide +kernel
set_option maxHeartbeats 4000000 in
set_option maxRecDepth 100000 in
theorem ct4_read (l : Launch) (P : nw_PT) (hD : nw_D P) (σ : nw_ST) (a1 : Int32)  (K : Int32 → nw_ST → Prop) (hf : f4_read K σ a1) : nw_MT l yX4_read cX4_read 8 (some .int) rm4_read P [.ref (P.2.1 0), .int a1] σ (nw_Ki K) := by
  refine nw_enter (by decide) (by first | decide | exact Nat.le_of_ble_eq_true rfl) hD ?_
  intro X hl h he hR
  subst hl
  have h : nw_ok P X cX4_read RX4 8 := h
  show nw_G P X 8 σ [(0, .ref (P.2.1 0)), (1, .int a1)] 0 []
  have hL_92 :  ∀ (σ : nw_ST) (x4 : Int32), f4_read_92 K σ x4 → nw_G P X 8 σ [(4, .int x4)] 92 [] := by
    intro σ x4 hf
    unfold f4_read_92 at hf
    refine nw_iload (pc := 92) h dX4_read_92 0 rfl ?_
    exact nw_iret (pc := 94) h he dX4_read_94 ⟨_, rfl, hf⟩
  have hB_25 : ∀ (H_25 : nw_ST → Nat → Int32 → Int32 → Prop) (hH_25 : (∀ (σ : nw_ST) (x3 : Nat) (x4 : Int32) (x5 : Int32), nw_cl x3 = 1 → H_25 σ x3 x4 x5 → nw_G P X 8 σ [(0, .ref (P.2.1 0)), (3, .ref (P.2.1 x3)), (4, .int x4), (5, .int x5)] 25 [])), ∀ (σ : nw_ST) (x3 : Nat) (x4 : Int32) (x5 : Int32), nw_cl x3 = 1 → b4_read_25 K H_25 σ x3 x4 x5 → nw_G P X 8 σ [(0, .ref (P.2.1 0)), (3, .ref (P.2.1 x3)), (4, .int x4), (5, .int x5)] 25 [] := by
    intro H_25 hH_25 σ x3 x4 x5 hc_x3 hf
    unfold b4_read_25 at hf
    refine nw_iload (pc := 25) h dX4_read_25 3 rfl ?_
    refine nw_iconst (pc := 27) (v := 1) h dX4_read_27 (by decide) ?_
    refine nw_iadd (pc := 28) h dX4_read_28 ?_
    refine nw_aload_n (pc := 29) h dX4_read_29 rfl 1 rfl ?_
    refine gf4_134 (pc := 30) h hc_x3 dX4_read_30 ?_
    refine nw_icmp_ge (pc := 33) (tgt := 92) h dX4_read_33 (by decide) (fun c_33 => ?_) (fun c_33 => ?_)
    · have hf := hf.1 c_33
      refine nw_sub (lv' := [(4, .int x4)]) [2] rfl ?_
      exact hL_92 _ _ (hf)
    · have hf := hf.2 c_33
      refine nw_aload_n (pc := 36) h dX4_read_36 rfl 1 rfl ?_
      refine gf4_135 (pc := 37) h hc_x3 rfl dX4_read_37 ?_
      refine nw_iload (pc := 40) h dX4_read_40 3 rfl ?_
      obtain ⟨h_42, hf⟩ := hf
      refine nw_iald (pc := 42) (n := (nw_len (nw_rf x3 0))) h (nw_wt1_0 hc_x3) rfl h_42 dX4_read_42 ?_
      refine nw_istore (pc := 43) (lv' := [(6, .int (nw_gA σ (nw_rf x3 0) x5.toNatClampNeg)), (0, .ref (P.2.1 0)), (3, .ref (P.2.1 x3)), (4, .int x4), (5, .int x5)]) h dX4_read_43 (by decide) rfl ?_
      refine nw_aload_n (pc := 45) h dX4_read_45 rfl 2 rfl ?_
      refine gf4_135 (pc := 46) h hc_x3 rfl dX4_read_46 ?_
      refine nw_iload (pc := 49) h dX4_read_49 4 rfl ?_
      refine nw_iconst (pc := 51) (v := 1) h dX4_read_51 (by decide) ?_
      refine nw_iadd (pc := 52) h dX4_read_52 ?_
      obtain ⟨h_53, hf⟩ := hf
      refine nw_iald (pc := 53) (n := (nw_len (nw_rf x3 0))) h (nw_wt1_0 hc_x3) rfl h_53 dX4_read_53 ?_
      refine nw_istore (pc := 54) (lv' := [(7, .int (nw_gA σ (nw_rf x3 0) (x5 + (1 : Int32)).toNatClampNeg)), (6, .int (nw_gA σ (nw_rf x3 0) x5.toNatClampNeg)), (0, .ref (P.2.1 0)), (3, .ref (P.2.1 x3)), (4, .int x4), (5, .int x5)]) h dX4_read_54 (by decide) rfl ?_
      refine nw_iload (pc := 56) h dX4_read_56 1 rfl ?_
      refine nw_iload (pc := 58) h dX4_read_58 0 rfl ?_
      refine klX4_120 (pc := 60) h (by rw [hR]; decide) (Nat.le_of_ble_eq_true rfl) dX4_read_60 ?_
      refine nw_if_eq (pc := 63) (tgt := 92) h dX4_read_63 (by decide) (fun c_63 => ?_) (fun c_63 => ?_)
      · have hf := hf.1 c_63
        refine nw_sub (lv' := [(4, .int x4)]) [4] rfl ?_
        exact hL_92 _ _ (hf)
      · have hf := hf.2 c_63
        refine nw_aload_n (pc := 66) h dX4_read_66 rfl 2 rfl ?_
        refine gf4_46 (pc := 67) (r := 13) h rfl rfl dX4_read_67 ?_
        refine nw_iload (pc := 70) h dX4_read_70 1 rfl ?_
        refine nw_iload (pc := 72) h dX4_read_72 0 rfl ?_
        refine klX4_138 (pc := 74) h (by rw [hR]; decide) rfl hf (Nat.le_of_ble_eq_true rfl) dX4_read_74 (fun r_74 s_74 hf => ?_)
        refine nw_if_ne (pc := 77) (tgt := 83) h dX4_read_77 (by decide) (fun c_77 => ?_) (fun c_77 => ?_)
        · have hf := hf.2 c_77
          refine nw_iinc (pc := 83) (v := (x4 + (1 : Int32))) (lv' := [(4, .int (x4 + (1 : Int32))), (7, .int (nw_gA σ (nw_rf x3 0) (x5 + (1 : Int32)).toNatClampNeg)), (6, .int (nw_gA σ (nw_rf x3 0) x5.toNatClampNeg)), (0, .ref (P.2.1 0)), (3, .ref (P.2.1 x3)), (5, .int x5)]) h dX4_read_83 (j := 4) rfl rfl (by decide) rfl ?_
          refine nw_iinc (pc := 86) (v := (x5 + (2 : Int32))) (lv' := [(5, .int (x5 + (2 : Int32))), (4, .int (x4 + (1 : Int32))), (7, .int (nw_gA σ (nw_rf x3 0) (x5 + (1 : Int32)).toNatClampNeg)), (6, .int (nw_gA σ (nw_rf x3 0) x5.toNatClampNeg)), (0, .ref (P.2.1 0)), (3, .ref (P.2.1 x3))]) h dX4_read_86 (j := 5) rfl rfl (by decide) rfl ?_
          refine nw_goto (pc := 89) (tgt := 25) h dX4_read_89 (by decide) ?_
          refine nw_sub (lv' := [(0, .ref (P.2.1 0)), (3, .ref (P.2.1 x3)), (4, .int (x4 + (1 : Int32))), (5, .int (x5 + (2 : Int32)))]) [4, 5, 1, 0] rfl ?_
          exact hH_25 _ _ _ _ hc_x3 (hf)
        · have hf := hf.1 c_77
          refine nw_goto (pc := 80) (tgt := 92) h dX4_read_80 (by decide) ?_
          refine nw_sub (lv' := [(4, .int x4)]) [4] rfl ?_
          exact hL_92 _ _ (hf)
  have hL_25 :  ∀ (n : Nat) (σ : nw_ST) (x3 : Nat) (x4 : Int32) (x5 : Int32), nw_cl x3 = 1 → f4_read_25 K n σ x3 x4 x5 → nw_G P X 8 σ [(0, .ref (P.2.1 0)), (3, .ref (P.2.1 x3)), (4, .int x4), (5, .int x5)] 25 [] := by
    intro n
    induction n with
    | zero => intro σ x3 x4 x5 hc_x3 hf; exact False.elim hf
    | succ n ih => exact hB_25 _ ih
  unfold f4_read at hf
  refine nw_aload_n (pc := 0) h dX4_read_0 rfl 0 rfl ?_
  refine nw_iload_n (pc := 1) h dX4_read_1 rfl 1 rfl ?_
  refine klX4_130 (pc := 2) h (by rw [hR]; decide) hf (Nat.le_of_ble_eq_true rfl) dX4_read_2 (fun r_2 s_2 hf => ?_)
  refine nw_istore_n (pc := 5) (lv' := [(2, .int r_2), (0, .ref (P.2.1 0)), (1, .int a1)]) h dX4_read_5 rfl (by decide) rfl ?_
  refine nw_iload_n (pc := 6) h dX4_read_6 rfl 0 rfl ?_
  refine nw_if_eq (pc := 7) (tgt := 12) h dX4_read_7 (by decide) (fun c_7 => ?_) (fun c_7 => ?_)
  · have hf := hf.1 c_7
    refine nw_aload_n (pc := 12) h dX4_read_12 rfl 1 rfl ?_
    refine gf4_61 (pc := 13) (r := 26) h rfl rfl dX4_read_13 ?_
    refine nw_iload_n (pc := 16) h dX4_read_16 rfl 2 rfl ?_
    obtain ⟨h_17, hf⟩ := hf
    refine nw_aald (pc := 17) h h_17 dX4_read_17 ?_
    refine nw_astore_n (pc := 18) (lv' := [(3, .ref (P.2.1 (27 + 2 * a1.toNatClampNeg))), (2, .int r_2), (0, .ref (P.2.1 0)), (1, .int a1)]) h dX4_read_18 rfl (by decide) rfl ?_
    refine nw_iconst (pc := 19) (v := 0) h dX4_read_19 (by decide) ?_
    refine nw_istore (pc := 20) (lv' := [(4, .int (0 : Int32)), (3, .ref (P.2.1 (27 + 2 * a1.toNatClampNeg))), (2, .int r_2), (0, .ref (P.2.1 0)), (1, .int a1)]) h dX4_read_20 (by decide) rfl ?_
    refine nw_iconst (pc := 22) (v := 0) h dX4_read_22 (by decide) ?_
    refine nw_istore (pc := 23) (lv' := [(5, .int (0 : Int32)), (4, .int (0 : Int32)), (3, .ref (P.2.1 (27 + 2 * a1.toNatClampNeg))), (2, .int r_2), (0, .ref (P.2.1 0)), (1, .int a1)]) h dX4_read_23 (by decide) rfl ?_
    obtain ⟨n_25, hf⟩ := hf
    refine nw_sub (lv' := [(0, .ref (P.2.1 0)), (3, .ref (P.2.1 (27 + 2 * a1.toNatClampNeg))), (4, .int (0 : Int32)), (5, .int (0 : Int32))]) [4, 2, 1, 0] rfl ?_
    exact hL_25 n_25 _ _ _ _ (nw_wtS (nw_lt4 h_17)) hf
  · have hf := hf.2 c_7
    refine nw_iload_n (pc := 10) h dX4_read_10 rfl 0 rfl ?_
    exact nw_iret (pc := 11) h he dX4_read_11 ⟨_, rfl, hf⟩
def v4_isCrest (a1 : Int32) (a2 : Int32) (a3 : Int32) : Int32 := (if (a3 ≤ 0) then (0 : Int32) else (if (a1 < a2) then (0 : Int32) else (if ((nw_rem (a1 - a2) a3) = 0) then (1 : Int32) else (0 : Int32))))
def o4_isCrest (a1 : Int32) (a2 : Int32) (a3 : Int32) : Prop := (((a3 ≤ 0) → True) ∧ (¬ (a3 ≤ 0) → (((a1 < a2) → True) ∧ (¬ (a1 < a2) → (¬ a3 = 0)))))
theorem z4_isCrest (a1 : Int32) (a2 : Int32) (a3 : Int32) : nw_isZ (v4_isCrest a1 a2 a3) := by
  unfold v4_isCrest; repeat' split
  all_goals first | exact (Or.inl rfl) | exact (Or.inr rfl)
def rm4_isCrest : Room := { frames := 0, cells := 0, slots := 0, locals := 0 }
theorem yd4_isCrest : yX4_isCrest.cls = RX4 ∧ yX4_isCrest.cls ≠ "java/lang/invoke/MethodHandle" ∧ yX4_isCrest.cls ≠ "java/lang/invoke/VarHandle" ∧ (parseMethodDescriptor yX4_isCrest.desc).map (fun d => d.parameters.length) = some 3 := by decide +kernel
set_option maxHeartbeats 4000000 in
set_option maxRecDepth 100000 in
theorem ct4_isCrest (l : Launch) (P : nw_PT) (hD : nw_D P) (σ : nw_ST) (a1 : Int32) (a2 : Int32) (a3 : Int32)  (ho : o4_isCrest a1 a2 a3) : nw_MT l yX4_isCrest cX4_isCrest 3 (some .boolean) rm4_isCrest P [.int a1, .int a2, .int a3] σ (nw_Ki (fun r s2 => r = (v4_isCrest a1 a2 a3) ∧ s2 = σ)) := by
  refine nw_enter (by decide) (by first | decide | exact Nat.le_of_ble_eq_true rfl) hD ?_
  intro X hl h he hR
  subst hl
  have h : nw_ok P X cX4_isCrest RX4 3 := h
  show nw_G P X 3 σ [(0, .int a1), (1, .int a2), (2, .int a3)] 0 []
  unfold o4_isCrest at ho
  refine nw_iload_n (pc := 0) h dX4_isCrest_0 rfl 2 rfl ?_
  refine nw_if_le (pc := 1) (tgt := 21) h dX4_isCrest_1 (by decide) (fun c_1 => ?_) (fun c_1 => ?_)
  · skip
    have ho := ho.1 c_1
    refine nw_iconst (pc := 21) (v := 0) h dX4_isCrest_21 (by decide) ?_
    exact nw_zret (pc := 22) h he dX4_isCrest_22 (Or.inl rfl) ⟨_, rfl, (by unfold v4_isCrest; rw [if_pos c_1]), rfl⟩
  · skip
    have ho := ho.2 c_1
    refine nw_iload_n (pc := 4) h dX4_isCrest_4 rfl 0 rfl ?_
    refine nw_iload_n (pc := 5) h dX4_isCrest_5 rfl 1 rfl ?_
    refine nw_icmp_lt (pc := 6) (tgt := 21) h dX4_isCrest_6 (by decide) (fun c_6 => ?_) (fun c_6 => ?_)
    · skip
      have ho := ho.1 c_6
      refine nw_iconst (pc := 21) (v := 0) h dX4_isCrest_21 (by decide) ?_
      exact nw_zret (pc := 22) h he dX4_isCrest_22 (Or.inl rfl) ⟨_, rfl, (by unfold v4_isCrest; rw [if_neg c_1, if_pos c_6]), rfl⟩
    · skip
      have ho := ho.2 c_6
      refine nw_iload_n (pc := 9) h dX4_isCrest_9 rfl 0 rfl ?_
      refine nw_iload_n (pc := 10) h dX4_isCrest_10 rfl 1 rfl ?_
      refine nw_isub (pc := 11) h dX4_isCrest_11 ?_
      refine nw_iload_n (pc := 12) h dX4_isCrest_12 rfl 2 rfl ?_
      have h_13 := ho
      refine nw_irem (pc := 13) h dX4_isCrest_13 h_13 ?_
      refine nw_if_ne (pc := 14) (tgt := 21) h dX4_isCrest_14 (by decide) (fun c_14 => ?_) (fun c_14 => ?_)
      · skip
        refine nw_iconst (pc := 21) (v := 0) h dX4_isCrest_21 (by decide) ?_
        exact nw_zret (pc := 22) h he dX4_isCrest_22 (Or.inl rfl) ⟨_, rfl, (by unfold v4_isCrest; rw [if_neg c_1, if_neg c_6, if_neg c_14]), rfl⟩
      · skip
        refine nw_iconst (pc := 17) (v := 1) h dX4_isCrest_17 (by decide) ?_
        refine nw_goto (pc := 18) (tgt := 22) h dX4_isCrest_18 (by decide) ?_
        exact nw_zret (pc := 22) h he dX4_isCrest_22 (Or.inr rfl) ⟨_, rfl, (by unfold v4_isCrest; rw [if_neg c_1, if_neg c_6, if_pos c_14]), rfl⟩
theorem gf3_9 {P : nw_PT} {X : nw_EX} {cc : ByteArray} {nL : Nat} {σ : nw_ST} {lv : List (Nat × Value)} {pc : Nat} {st : List Value} {q : Nat} (h : nw_ok P X cc RX3 nL) (hq : nw_cl q = 3) {r : Nat} (hr : nw_rf q 0 = r) (hd : decode cc pc = .ok (.getfield 9, 3)) (k : nw_G P X nL σ lv (pc + 3) (.ref (P.2.1 r) :: st)) : nw_G P X nL σ lv pc (.ref (P.2.1 q) :: st) := by
  subst hr; intro H locs ls h1 h2 h3
  exact va_get (D := P.1) (ci := 3) (C := RX3) (T := TX3) (N := 7) h.1.1 h.1.2.1 h.1.2.2.2.2 in_T3 h.1.2.2.2.1 h.2.1.1 h1 q (nw_at3 hq) rfl 0 (by decide) (h.1.2.2.2.2 _ nw_w88) (fun _ z => z) rfl hd (k H locs ls h1 h2 h3)
theorem klX3_47 {P : nw_PT} {X : nw_EX} {cc : ByteArray} {nL : Nat} {σ : nw_ST} {lv : List (Nat × Value)} {pc : Nat} {rest : List Value} {q1 : Nat} {a2 : Int32} (h : nw_ok P X cc RX3 nL) (hR : rmJ7_fill_53178.frames + 1 ≤ X.2.2.2.1.frames ∧ 8 + (4 + 11) + rmJ7_fill_53178.locals ≤ X.2.2.2.1.locals) (hc_q1 : nw_cl q1 = 10) {K : nw_ST → Prop} (hf : fJ7_fill_53178 K σ q1 a2) (hst : (rest.map fun v => v.category).sum ≤ 8) (hd : decode cc pc = .ok (.invokestatic 47, 3)) (k : ∀ (s2 : nw_ST), K s2 → nw_G P X nL s2 lv (pc + 3) rest) : nw_G P X nL σ lv pc (.int a2 :: .ref (P.2.1 q1) :: rest) :=
  nw_callS (As := [.ref (P.2.1 q1), .int a2]) (rest := rest) h (ctJ7_fill_53178 _ P h.2.2 σ q1 a2 hc_q1 K hf) (nw_goodS nw_w89 nw_w7 nw_w8 nw_w9) ydJ7_fill_53178.2 rfl hR ⟨rfl, rfl⟩ hst rfl hd (fun v s2 z => by obtain ⟨rfl, z⟩ := z; exact k s2 z)
theorem gf3_15 {P : nw_PT} {X : nw_EX} {cc : ByteArray} {nL : Nat} {σ : nw_ST} {lv : List (Nat × Value)} {pc : Nat} {st : List Value} {q : Nat} (h : nw_ok P X cc RX3 nL) (hq : nw_cl q = 3) {r : Nat} (hr : nw_rf q 1 = r) (hd : decode cc pc = .ok (.getfield 15, 3)) (k : nw_G P X nL σ lv (pc + 3) (.ref (P.2.1 r) :: st)) : nw_G P X nL σ lv pc (.ref (P.2.1 q) :: st) := by
  subst hr; intro H locs ls h1 h2 h3
  exact va_get (D := P.1) (ci := 3) (C := RX3) (T := TX3) (N := 7) h.1.1 h.1.2.1 h.1.2.2.2.2 in_T3 h.1.2.2.2.1 h.2.1.1 h1 q (nw_at3 hq) rfl 1 (by decide) (h.1.2.2.2.2 _ nw_w90) (fun _ z => z) rfl hd (k H locs ls h1 h2 h3)
theorem gf3_61 {P : nw_PT} {X : nw_EX} {cc : ByteArray} {nL : Nat} {σ : nw_ST} {lv : List (Nat × Value)} {pc : Nat} {st : List Value} {q : Nat} (h : nw_ok P X cc RX3 nL) (hq : nw_cl q = 2) (hd : decode cc pc = .ok (.getfield 61, 3)) (k : nw_G P X nL σ lv (pc + 3) (.int (nw_gS σ q 6) :: st)) : nw_G P X nL σ lv pc (.ref (P.2.1 q) :: st) := by
  intro H locs ls h1 h2 h3
  exact va_getN (D := P.1) (ci := 2) (C := RX2) (T := TX2) (N := 7) h.1.1 h.1.2.1 h.1.2.2.2.2 in_T2 h.1.2.2.2.1 h.2.1.1 h1 q (nw_at2 hq) rfl 6 (by decide) (va_Nw.use rfl (h.2.1.2.1 ("NumberedWaves$Waves", 61, "NumberedWaves$Text", "entries", "I", "NumberedWaves") (by decide +kernel))) (fun _ z => z) rfl hd (k H locs ls h1 h2 h3)
theorem klX3_66 {P : nw_PT} {X : nw_EX} {cc : ByteArray} {nL : Nat} {σ : nw_ST} {lv : List (Nat × Value)} {pc : Nat} {rest : List Value} {q0 : Nat} {a1 : Int32} {a2 : Int32} (h : nw_ok P X cc RX3 nL) (hR : rm2_part.frames + 1 ≤ X.2.2.2.1.frames ∧ 8 + (3 + 11) + rm2_part.locals ≤ X.2.2.2.1.locals) (hc_q0 : nw_cl q0 = 2) (ho : o2_part σ q0 a1 a2) (hst : (rest.map fun v => v.category).sum ≤ 8) (hd : decode cc pc = .ok (.invokevirtual 66, 3)) (k : nw_G P X nL σ lv (pc + 3) (.int (v2_part σ q0 a1 a2) :: rest)) : nw_G P X nL σ lv pc (.int a2 :: .int a1 :: .ref (P.2.1 q0) :: rest) :=
  nw_callV (As := [.int a1, .int a2]) (rest := rest) (C := RX2) (ci := 2) h (ct2_part _ P h.2.2 σ q0 a1 a2 hc_q0 ho) (nw_goodV nw_w91 nw_w40 nw_w41 nw_w16 nw_w42) yd2_part rfl hR ⟨rfl, rfl⟩ hc_q0 (by decide) rfl rfl hst rfl hd (fun v s2 z => by obtain ⟨r, rfl, rfl, rfl⟩ := z; exact k)
theorem klX3_70 {P : nw_PT} {X : nw_EX} {cc : ByteArray} {nL : Nat} {σ : nw_ST} {lv : List (Nat × Value)} {pc : Nat} {rest : List Value} {a1 : Int32} {a2 : Int32} {a3 : Int32} (h : nw_ok P X cc RX3 nL) (hR : rm4_isCrest.frames + 1 ≤ X.2.2.2.1.frames ∧ 8 + (3 + 11) + rm4_isCrest.locals ≤ X.2.2.2.1.locals)  (ho : o4_isCrest a1 a2 a3) (hst : (rest.map fun v => v.category).sum ≤ 8) (hd : decode cc pc = .ok (.invokestatic 70, 3)) (k : nw_G P X nL σ lv (pc + 3) (.int (v4_isCrest a1 a2 a3) :: rest)) : nw_G P X nL σ lv pc (.int a3 :: .int a2 :: .int a1 :: rest) :=
  nw_callSN (As := [.int a1, .int a2, .int a3]) (rest := rest) (host := "NumberedWaves") h (ct4_isCrest _ P h.2.2 σ a1 a2 a3 ho) (nw_goodN nw_w92) (by decide +kernel) nw_w24 nw_w93 yd4_isCrest.2 rfl hR ⟨rfl, rfl⟩ hst rfl hd (fun v s2 z => by obtain ⟨r, rfl, rfl, rfl⟩ := z; exact k)
def f3_reckonHeights_79 (K : nw_ST → Prop) (H_18 : nw_ST → Nat → Int32 → Prop) (H_28 : nw_ST → Nat → Int32 → Int32 → Prop) (σ : nw_ST) (x1 : Nat) (x2 : Int32) (x3 : Int32) : Prop := (H_28 σ x1 x2 (x3 + (1 : Int32)))
def b3_reckonHeights_28 (K : nw_ST → Prop) (H_18 : nw_ST → Nat → Int32 → Prop) (H_28 : nw_ST → Nat → Int32 → Int32 → Prop) (σ : nw_ST) (x1 : Nat) (x2 : Int32) (x3 : Int32) : Prop := ((((240 : Int32) ≤ x3) → (H_18 σ x1 (x2 + (1 : Int32)))) ∧ (¬ ((240 : Int32) ≤ x3) → ((o2_part σ x1 x2 (2 : Int32)) ∧ ((o2_part σ x1 x2 (1 : Int32)) ∧ ((o4_isCrest x3 (v2_part σ x1 x2 (2 : Int32)) (v2_part σ x1 x2 (1 : Int32))) ∧ ((((v4_isCrest x3 (v2_part σ x1 x2 (2 : Int32)) (v2_part σ x1 x2 (1 : Int32))) = 0) → (f3_reckonHeights_79 K H_18 H_28 σ x1 x2 x3)) ∧ (¬ ((v4_isCrest x3 (v2_part σ x1 x2 (2 : Int32)) (v2_part σ x1 x2 (1 : Int32))) = 0) → ((vp_in x3 240) ∧ ((o2_part σ x1 x2 (0 : Int32)) ∧ ((vp_in x3 240) ∧ ((vp_in x3 240) ∧ ((vp_in x3 240) ∧ (f3_reckonHeights_79 K H_18 H_28 (nw_sA (nw_sA σ 20 x3.toNatClampNeg ((nw_gA σ 20 x3.toNatClampNeg) + (v2_part σ x1 x2 (0 : Int32)))) 21 x3.toNatClampNeg ((nw_gA (nw_sA σ 20 x3.toNatClampNeg ((nw_gA σ 20 x3.toNatClampNeg) + (v2_part σ x1 x2 (0 : Int32)))) 21 x3.toNatClampNeg) + (1 : Int32))) x1 x2 x3)))))))))))))
def f3_reckonHeights_28 (K : nw_ST → Prop) (H_18 : nw_ST → Nat → Int32 → Prop) : Nat → nw_ST → Nat → Int32 → Int32 → Prop
  | 0 => fun _ _ _ _ => False
  | n + 1 => b3_reckonHeights_28 K H_18 (f3_reckonHeights_28 K H_18 n)
def b3_reckonHeights_18 (K : nw_ST → Prop) (H_18 : nw_ST → Nat → Int32 → Prop) (σ : nw_ST) (x1 : Nat) (x2 : Int32) : Prop := ((((nw_gS σ x1 6) ≤ x2) → (K σ)) ∧ (¬ ((nw_gS σ x1 6) ≤ x2) → (∃ n, f3_reckonHeights_28 K H_18 n σ x1 x2 (0 : Int32))))
def f3_reckonHeights_18 (K : nw_ST → Prop) : Nat → nw_ST → Nat → Int32 → Prop
  | 0 => fun _ _ _ => False
  | n + 1 => b3_reckonHeights_18 K (f3_reckonHeights_18 K n)
def f3_reckonHeights (K : nw_ST → Prop) (σ : nw_ST) (q1 : Nat) : Prop := (fJ7_fill_53178 (fun (s_5 : nw_ST) => (fJ7_fill_53178 (fun (s_13 : nw_ST) => (∃ n, f3_reckonHeights_18 K n s_13 q1 (0 : Int32))) s_5 21 (0 : Int32))) σ 20 (0 : Int32))
def rm3_reckonHeights : Room := { frames := 1, cells := 0, slots := 0, locals := 23 }
theorem yd3_reckonHeights : yX3_reckonHeights.cls = RX3 ∧ yX3_reckonHeights.cls ≠ "java/lang/invoke/MethodHandle" ∧ yX3_reckonHeights.cls ≠ "java/lang/invoke/VarHandle" ∧ (parseMethodDescriptor yX3_reckonHeights.desc).map (fun d => d.parameters.length) = some 1 := by decide +kernel
set_option maxHeartbeats 4000000 in
set_option maxRecDepth 100000 in
theorem ct3_reckonHeights (l : Launch) (P : nw_PT) (hD : nw_D P) (σ : nw_ST) (q1 : Nat) (hc_q1 : nw_cl q1 = 2) (K : nw_ST → Prop) (hf : f3_reckonHeights K σ q1) : nw_MT l yX3_reckonHeights cX3_reckonHeights 4 none rm3_reckonHeights P [.ref (P.2.1 19), .ref (P.2.1 q1)] σ (nw_Kv K) := by
  refine nw_enter (by decide) (by first | decide | exact Nat.le_of_ble_eq_true rfl) hD ?_
  intro X hl h he hR
  subst hl
  have h : nw_ok P X cX3_reckonHeights RX3 4 := h
  show nw_G P X 4 σ [(0, .ref (P.2.1 19)), (1, .ref (P.2.1 q1))] 0 []
  have hL_79 : ∀ (H_18 : nw_ST → Nat → Int32 → Prop) (hH_18 : (∀ (σ : nw_ST) (x1 : Nat) (x2 : Int32), nw_cl x1 = 2 → H_18 σ x1 x2 → nw_G P X 4 σ [(0, .ref (P.2.1 19)), (1, .ref (P.2.1 x1)), (2, .int x2)] 18 [])) (H_28 : nw_ST → Nat → Int32 → Int32 → Prop) (hH_28 : (∀ (σ : nw_ST) (x1 : Nat) (x2 : Int32) (x3 : Int32), nw_cl x1 = 2 → H_28 σ x1 x2 x3 → nw_G P X 4 σ [(0, .ref (P.2.1 19)), (1, .ref (P.2.1 x1)), (2, .int x2), (3, .int x3)] 28 [])), ∀ (σ : nw_ST) (x1 : Nat) (x2 : Int32) (x3 : Int32), nw_cl x1 = 2 → f3_reckonHeights_79 K H_18 H_28 σ x1 x2 x3 → nw_G P X 4 σ [(0, .ref (P.2.1 19)), (1, .ref (P.2.1 x1)), (2, .int x2), (3, .int x3)] 79 [] := by
    intro H_18 hH_18 H_28 hH_28 σ x1 x2 x3 hc_x1 hf
    unfold f3_reckonHeights_79 at hf
    refine nw_iinc (pc := 79) (v := (x3 + (1 : Int32))) (lv' := [(3, .int (x3 + (1 : Int32))), (0, .ref (P.2.1 19)), (1, .ref (P.2.1 x1)), (2, .int x2)]) h dX3_reckonHeights_79 (j := 3) rfl rfl (by decide) rfl ?_
    refine nw_goto (pc := 82) (tgt := 28) h dX3_reckonHeights_82 (by decide) ?_
    refine nw_sub (lv' := [(0, .ref (P.2.1 19)), (1, .ref (P.2.1 x1)), (2, .int x2), (3, .int (x3 + (1 : Int32)))]) [1, 2, 3, 0] rfl ?_
    exact hH_28 _ _ _ _ hc_x1 (hf)
  have hB_28 : ∀ (H_18 : nw_ST → Nat → Int32 → Prop) (hH_18 : (∀ (σ : nw_ST) (x1 : Nat) (x2 : Int32), nw_cl x1 = 2 → H_18 σ x1 x2 → nw_G P X 4 σ [(0, .ref (P.2.1 19)), (1, .ref (P.2.1 x1)), (2, .int x2)] 18 [])) (H_28 : nw_ST → Nat → Int32 → Int32 → Prop) (hH_28 : (∀ (σ : nw_ST) (x1 : Nat) (x2 : Int32) (x3 : Int32), nw_cl x1 = 2 → H_28 σ x1 x2 x3 → nw_G P X 4 σ [(0, .ref (P.2.1 19)), (1, .ref (P.2.1 x1)), (2, .int x2), (3, .int x3)] 28 [])), ∀ (σ : nw_ST) (x1 : Nat) (x2 : Int32) (x3 : Int32), nw_cl x1 = 2 → b3_reckonHeights_28 K H_18 H_28 σ x1 x2 x3 → nw_G P X 4 σ [(0, .ref (P.2.1 19)), (1, .ref (P.2.1 x1)), (2, .int x2), (3, .int x3)] 28 [] := by
    intro H_18 hH_18 H_28 hH_28 σ x1 x2 x3 hc_x1 hf
    unfold b3_reckonHeights_28 at hf
    refine nw_iload_n (pc := 28) h dX3_reckonHeights_28 rfl 3 rfl ?_
    refine nw_sipush (pc := 29) (v := 240) h dX3_reckonHeights_29 (by decide) ?_
    refine nw_icmp_ge (pc := 32) (tgt := 85) h dX3_reckonHeights_32 (by decide) (fun c_32 => ?_) (fun c_32 => ?_)
    · have hf := hf.1 c_32
      refine nw_iinc (pc := 85) (v := (x2 + (1 : Int32))) (lv' := [(2, .int (x2 + (1 : Int32))), (0, .ref (P.2.1 19)), (1, .ref (P.2.1 x1)), (3, .int x3)]) h dX3_reckonHeights_85 (j := 2) rfl rfl (by decide) rfl ?_
      refine nw_goto (pc := 88) (tgt := 18) h dX3_reckonHeights_88 (by decide) ?_
      refine nw_sub (lv' := [(0, .ref (P.2.1 19)), (1, .ref (P.2.1 x1)), (2, .int (x2 + (1 : Int32)))]) [1, 2, 0] rfl ?_
      exact hH_18 _ _ _ hc_x1 (hf)
    · have hf := hf.2 c_32
      refine nw_iload_n (pc := 35) h dX3_reckonHeights_35 rfl 3 rfl ?_
      refine nw_aload_n (pc := 36) h dX3_reckonHeights_36 rfl 1 rfl ?_
      refine nw_iload_n (pc := 37) h dX3_reckonHeights_37 rfl 2 rfl ?_
      refine nw_iconst (pc := 38) (v := 2) h dX3_reckonHeights_38 (by decide) ?_
      obtain ⟨h_39, hf⟩ := hf
      refine klX3_66 (pc := 39) h (by rw [hR]; decide) hc_x1 h_39 (Nat.le_of_ble_eq_true rfl) dX3_reckonHeights_39 ?_
      refine nw_aload_n (pc := 42) h dX3_reckonHeights_42 rfl 1 rfl ?_
      refine nw_iload_n (pc := 43) h dX3_reckonHeights_43 rfl 2 rfl ?_
      refine nw_iconst (pc := 44) (v := 1) h dX3_reckonHeights_44 (by decide) ?_
      obtain ⟨h_45, hf⟩ := hf
      refine klX3_66 (pc := 45) h (by rw [hR]; decide) hc_x1 h_45 (Nat.le_of_ble_eq_true rfl) dX3_reckonHeights_45 ?_
      obtain ⟨h_48, hf⟩ := hf
      refine klX3_70 (pc := 48) h (by rw [hR]; decide) h_48 (Nat.le_of_ble_eq_true rfl) dX3_reckonHeights_48 ?_
      refine nw_if_eq (pc := 51) (tgt := 79) h dX3_reckonHeights_51 (by decide) (fun c_51 => ?_) (fun c_51 => ?_)
      · have hf := hf.1 c_51
        exact hL_79 H_18 hH_18 H_28 hH_28 _ _ _ _ hc_x1 (hf)
      · have hf := hf.2 c_51
        refine nw_aload_n (pc := 54) h dX3_reckonHeights_54 rfl 0 rfl ?_
        refine gf3_9 (pc := 55) (r := 20) h rfl rfl dX3_reckonHeights_55 ?_
        refine nw_iload_n (pc := 58) h dX3_reckonHeights_58 rfl 3 rfl ?_
        refine nw_dup2 (pc := 59) h dX3_reckonHeights_59 rfl rfl ?_
        obtain ⟨h_60, hf⟩ := hf
        refine nw_iald (pc := 60) (n := 240) h rfl rfl h_60 dX3_reckonHeights_60 ?_
        refine nw_aload_n (pc := 61) h dX3_reckonHeights_61 rfl 1 rfl ?_
        refine nw_iload_n (pc := 62) h dX3_reckonHeights_62 rfl 2 rfl ?_
        refine nw_iconst (pc := 63) (v := 0) h dX3_reckonHeights_63 (by decide) ?_
        obtain ⟨h_64, hf⟩ := hf
        refine klX3_66 (pc := 64) h (by rw [hR]; decide) hc_x1 h_64 (Nat.le_of_ble_eq_true rfl) dX3_reckonHeights_64 ?_
        refine nw_iadd (pc := 67) h dX3_reckonHeights_67 ?_
        obtain ⟨h_68, hf⟩ := hf
        refine nw_iast (pc := 68) (n := 240) h rfl rfl h_68 dX3_reckonHeights_68 ?_
        refine nw_aload_n (pc := 69) h dX3_reckonHeights_69 rfl 0 rfl ?_
        refine gf3_15 (pc := 70) (r := 21) h rfl rfl dX3_reckonHeights_70 ?_
        refine nw_iload_n (pc := 73) h dX3_reckonHeights_73 rfl 3 rfl ?_
        refine nw_dup2 (pc := 74) h dX3_reckonHeights_74 rfl rfl ?_
        obtain ⟨h_75, hf⟩ := hf
        refine nw_iald (pc := 75) (n := 240) h rfl rfl h_75 dX3_reckonHeights_75 ?_
        refine nw_iconst (pc := 76) (v := 1) h dX3_reckonHeights_76 (by decide) ?_
        refine nw_iadd (pc := 77) h dX3_reckonHeights_77 ?_
        obtain ⟨h_78, hf⟩ := hf
        refine nw_iast (pc := 78) (n := 240) h rfl rfl h_78 dX3_reckonHeights_78 ?_
        exact hL_79 H_18 hH_18 H_28 hH_28 _ _ _ _ hc_x1 (hf)
  have hL_28 : ∀ (H_18 : nw_ST → Nat → Int32 → Prop) (hH_18 : (∀ (σ : nw_ST) (x1 : Nat) (x2 : Int32), nw_cl x1 = 2 → H_18 σ x1 x2 → nw_G P X 4 σ [(0, .ref (P.2.1 19)), (1, .ref (P.2.1 x1)), (2, .int x2)] 18 [])), ∀ (n : Nat) (σ : nw_ST) (x1 : Nat) (x2 : Int32) (x3 : Int32), nw_cl x1 = 2 → f3_reckonHeights_28 K H_18 n σ x1 x2 x3 → nw_G P X 4 σ [(0, .ref (P.2.1 19)), (1, .ref (P.2.1 x1)), (2, .int x2), (3, .int x3)] 28 [] := by
    intro H_18 hH_18 n
    induction n with
    | zero => intro σ x1 x2 x3 hc_x1 hf; exact False.elim hf
    | succ n ih => exact hB_28 H_18 hH_18 _ ih
  have hB_18 : ∀ (H_18 : nw_ST → Nat → Int32 → Prop) (hH_18 : (∀ (σ : nw_ST) (x1 : Nat) (x2 : Int32), nw_cl x1 = 2 → H_18 σ x1 x2 → nw_G P X 4 σ [(0, .ref (P.2.1 19)), (1, .ref (P.2.1 x1)), (2, .int x2)] 18 [])), ∀ (σ : nw_ST) (x1 : Nat) (x2 : Int32), nw_cl x1 = 2 → b3_reckonHeights_18 K H_18 σ x1 x2 → nw_G P X 4 σ [(0, .ref (P.2.1 19)), (1, .ref (P.2.1 x1)), (2, .int x2)] 18 [] := by
    intro H_18 hH_18 σ x1 x2 hc_x1 hf
    unfold b3_reckonHeights_18 at hf
    refine nw_iload_n (pc := 18) h dX3_reckonHeights_18 rfl 2 rfl ?_
    refine nw_aload_n (pc := 19) h dX3_reckonHeights_19 rfl 1 rfl ?_
    refine gf3_61 (pc := 20) h hc_x1 dX3_reckonHeights_20 ?_
    refine nw_icmp_ge (pc := 23) (tgt := 91) h dX3_reckonHeights_23 (by decide) (fun c_23 => ?_) (fun c_23 => ?_)
    · have hf := hf.1 c_23
      exact nw_vret (pc := 91) h he dX3_reckonHeights_91 ⟨rfl, hf⟩
    · have hf := hf.2 c_23
      refine nw_iconst (pc := 26) (v := 0) h dX3_reckonHeights_26 (by decide) ?_
      refine nw_istore_n (pc := 27) (lv' := [(3, .int (0 : Int32)), (0, .ref (P.2.1 19)), (1, .ref (P.2.1 x1)), (2, .int x2)]) h dX3_reckonHeights_27 rfl (by decide) rfl ?_
      obtain ⟨n_28, hf⟩ := hf
      refine nw_sub (lv' := [(0, .ref (P.2.1 19)), (1, .ref (P.2.1 x1)), (2, .int x2), (3, .int (0 : Int32))]) [1, 2, 3, 0] rfl ?_
      exact hL_28 H_18 hH_18 n_28 _ _ _ _ hc_x1 hf
  have hL_18 :  ∀ (n : Nat) (σ : nw_ST) (x1 : Nat) (x2 : Int32), nw_cl x1 = 2 → f3_reckonHeights_18 K n σ x1 x2 → nw_G P X 4 σ [(0, .ref (P.2.1 19)), (1, .ref (P.2.1 x1)), (2, .int x2)] 18 [] := by
    intro n
    induction n with
    | zero => intro σ x1 x2 hc_x1 hf; exact False.elim hf
    | succ n ih => exact hB_18 _ ih
  unfold f3_reckonHeights at hf
  refine nw_aload_n (pc := 0) h dX3_reckonHeights_0 rfl 0 rfl ?_
  refine gf3_9 (pc := 1) (r := 20) h rfl rfl dX3_reckonHeights_1 ?_
  refine nw_iconst (pc := 4) (v := 0) h dX3_reckonHeights_4 (by decide) ?_
  refine klX3_47 (pc := 5) h (by rw [hR]; decide) rfl hf (Nat.le_of_ble_eq_true rfl) dX3_reckonHeights_5 (fun s_5 hf => ?_)
  refine nw_aload_n (pc := 8) h dX3_reckonHeights_8 rfl 0 rfl ?_
  refine gf3_15 (pc := 9) (r := 21) h rfl rfl dX3_reckonHeights_9 ?_
  refine nw_iconst (pc := 12) (v := 0) h dX3_reckonHeights_12 (by decide) ?_
  refine klX3_47 (pc := 13) h (by rw [hR]; decide) rfl hf (Nat.le_of_ble_eq_true rfl) dX3_reckonHeights_13 (fun s_13 hf => ?_)
  refine nw_iconst (pc := 16) (v := 0) h dX3_reckonHeights_16 (by decide) ?_
  refine nw_istore_n (pc := 17) (lv' := [(2, .int (0 : Int32)), (0, .ref (P.2.1 19)), (1, .ref (P.2.1 q1))]) h dX3_reckonHeights_17 rfl (by decide) rfl ?_
  obtain ⟨n_18, hf⟩ := hf
  refine nw_sub (lv' := [(0, .ref (P.2.1 19)), (1, .ref (P.2.1 q1)), (2, .int (0 : Int32))]) [1, 2, 0] rfl ?_
  exact hL_18 n_18 _ _ _ hc_q1 hf
theorem gf3_53 {P : nw_PT} {X : nw_EX} {cc : ByteArray} {nL : Nat} {σ : nw_ST} {lv : List (Nat × Value)} {pc : Nat} {st : List Value} {q : Nat} (h : nw_ok P X cc RX3 nL) (hq : nw_cl q = 0) (hd : decode cc pc = .ok (.getfield 53, 3)) (k : nw_G P X nL σ lv (pc + 3) (.int (nw_gS σ q 2) :: st)) : nw_G P X nL σ lv pc (.ref (P.2.1 q) :: st) := by
  intro H locs ls h1 h2 h3
  exact va_getN (D := P.1) (ci := 0) (C := RX0) (T := TX0) (N := 3) h.1.1 h.1.2.1 h.1.2.2.2.2 in_T0 h.1.2.2.2.1 h.2.1.1 h1 q (nw_at0 hq) rfl 2 (by decide) (va_Nw.use rfl (h.2.1.2.1 ("NumberedWaves$Waves", 53, "NumberedWaves$Pairs", "size", "I", "NumberedWaves") (by decide +kernel))) (fun _ z => z) rfl hd (k H locs ls h1 h2 h3)
theorem gf3_58 {P : nw_PT} {X : nw_EX} {cc : ByteArray} {nL : Nat} {σ : nw_ST} {lv : List (Nat × Value)} {pc : Nat} {st : List Value} {q : Nat} (h : nw_ok P X cc RX3 nL) (hq : nw_cl q = 0) {r : Nat} (hr : nw_rf q 0 = r) (hd : decode cc pc = .ok (.getfield 58, 3)) (k : nw_G P X nL σ lv (pc + 3) (.ref (P.2.1 r) :: st)) : nw_G P X nL σ lv pc (.ref (P.2.1 q) :: st) := by
  subst hr; intro H locs ls h1 h2 h3
  exact va_getN (D := P.1) (ci := 0) (C := RX0) (T := TX0) (N := 3) h.1.1 h.1.2.1 h.1.2.2.2.2 in_T0 h.1.2.2.2.1 h.2.1.1 h1 q (nw_at0 hq) rfl 0 (by decide) (va_Nw.use rfl (h.2.1.2.1 ("NumberedWaves$Waves", 58, "NumberedWaves$Pairs", "first", "[I", "NumberedWaves") (by decide +kernel))) (fun _ z => z) rfl hd (k H locs ls h1 h2 h3)
theorem gf3_25 {P : nw_PT} {X : nw_EX} {cc : ByteArray} {nL : Nat} {σ : nw_ST} {lv : List (Nat × Value)} {pc : Nat} {st : List Value} {q : Nat} (h : nw_ok P X cc RX3 nL) (hq : nw_cl q = 3) {r : Nat} (hr : nw_rf q 4 = r) (hd : decode cc pc = .ok (.getfield 25, 3)) (k : nw_G P X nL σ lv (pc + 3) (.ref (P.2.1 r) :: st)) : nw_G P X nL σ lv pc (.ref (P.2.1 q) :: st) := by
  subst hr; intro H locs ls h1 h2 h3
  exact va_get (D := P.1) (ci := 3) (C := RX3) (T := TX3) (N := 7) h.1.1 h.1.2.1 h.1.2.2.2.2 in_T3 h.1.2.2.2.1 h.2.1.1 h1 q (nw_at3 hq) rfl 4 (by decide) (h.1.2.2.2.2 _ nw_w94) (fun _ z => z) rfl hd (k H locs ls h1 h2 h3)
theorem gf3_74 {P : nw_PT} {X : nw_EX} {cc : ByteArray} {nL : Nat} {σ : nw_ST} {lv : List (Nat × Value)} {pc : Nat} {st : List Value} {q : Nat} (h : nw_ok P X cc RX3 nL) (hq : nw_cl q = 0) {r : Nat} (hr : nw_rf q 1 = r) (hd : decode cc pc = .ok (.getfield 74, 3)) (k : nw_G P X nL σ lv (pc + 3) (.ref (P.2.1 r) :: st)) : nw_G P X nL σ lv pc (.ref (P.2.1 q) :: st) := by
  subst hr; intro H locs ls h1 h2 h3
  exact va_getN (D := P.1) (ci := 0) (C := RX0) (T := TX0) (N := 3) h.1.1 h.1.2.1 h.1.2.2.2.2 in_T0 h.1.2.2.2.1 h.2.1.1 h1 q (nw_at0 hq) rfl 1 (by decide) (va_Nw.use rfl (h.2.1.2.1 ("NumberedWaves$Waves", 74, "NumberedWaves$Pairs", "second", "[I", "NumberedWaves") (by decide +kernel))) (fun _ z => z) rfl hd (k H locs ls h1 h2 h3)
def b3_reckonNumbers_39 (K : nw_ST → Prop) (H_24 : nw_ST → Nat → Int32 → Prop) (H_39 : nw_ST → Nat → Int32 → Int32 → Prop) (σ : nw_ST) (x1 : Nat) (x2 : Int32) (x3 : Int32) : Prop := ((((240 : Int32) < x3) → (H_24 σ x1 (x2 + (1 : Int32)))) ∧ (¬ ((240 : Int32) < x3) → ((vp_in x3 241) ∧ ((vp_in x2 (nw_len (nw_rf x1 1))) ∧ ((vp_in x3 241) ∧ (H_39 (nw_sA σ 24 x3.toNatClampNeg ((nw_gA σ 24 x3.toNatClampNeg) + (nw_gA σ (nw_rf x1 1) x2.toNatClampNeg))) x1 x2 (x3 + (1 : Int32))))))))
def f3_reckonNumbers_39 (K : nw_ST → Prop) (H_24 : nw_ST → Nat → Int32 → Prop) : Nat → nw_ST → Nat → Int32 → Int32 → Prop
  | 0 => fun _ _ _ _ => False
  | n + 1 => b3_reckonNumbers_39 K H_24 (f3_reckonNumbers_39 K H_24 n)
def b3_reckonNumbers_24 (K : nw_ST → Prop) (H_24 : nw_ST → Nat → Int32 → Prop) (σ : nw_ST) (x1 : Nat) (x2 : Int32) : Prop := ((((nw_gS σ x1 2) ≤ x2) → (K σ)) ∧ (¬ ((nw_gS σ x1 2) ≤ x2) → ((vp_in x2 (nw_len (nw_rf x1 0))) ∧ (∃ n, f3_reckonNumbers_39 K H_24 n σ x1 x2 (nw_gA σ (nw_rf x1 0) x2.toNatClampNeg)))))
def f3_reckonNumbers_24 (K : nw_ST → Prop) : Nat → nw_ST → Nat → Int32 → Prop
  | 0 => fun _ _ _ => False
  | n + 1 => b3_reckonNumbers_24 K (f3_reckonNumbers_24 K n)
def b3_reckonNumbers_2 (K : nw_ST → Prop) (H_2 : nw_ST → Nat → Int32 → Prop) (σ : nw_ST) (x1 : Nat) (x2 : Int32) : Prop := ((((240 : Int32) < x2) → (∃ n, f3_reckonNumbers_24 K n σ x1 (0 : Int32))) ∧ (¬ ((240 : Int32) < x2) → ((vp_in x2 241) ∧ (H_2 (nw_sA σ 24 x2.toNatClampNeg x2) x1 (x2 + (1 : Int32))))))
def f3_reckonNumbers_2 (K : nw_ST → Prop) : Nat → nw_ST → Nat → Int32 → Prop
  | 0 => fun _ _ _ => False
  | n + 1 => b3_reckonNumbers_2 K (f3_reckonNumbers_2 K n)
def f3_reckonNumbers (K : nw_ST → Prop) (σ : nw_ST) (q1 : Nat) : Prop := (∃ n, f3_reckonNumbers_2 K n σ q1 (0 : Int32))
def rm3_reckonNumbers : Room := { frames := 0, cells := 0, slots := 0, locals := 0 }
theorem yd3_reckonNumbers : yX3_reckonNumbers.cls = RX3 ∧ yX3_reckonNumbers.cls ≠ "java/lang/invoke/MethodHandle" ∧ yX3_reckonNumbers.cls ≠ "java/lang/invoke/VarHandle" ∧ (parseMethodDescriptor yX3_reckonNumbers.desc).map (fun d => d.parameters.length) = some 1 := by decide +kernel
set_option maxHeartbeats 4000000 in
set_option maxRecDepth 100000 in
theorem ct3_reckonNumbers (l : Launch) (P : nw_PT) (hD : nw_D P) (σ : nw_ST) (q1 : Nat) (hc_q1 : nw_cl q1 = 0) (K : nw_ST → Prop) (hf : f3_reckonNumbers K σ q1) : nw_MT l yX3_reckonNumbers cX3_reckonNumbers 4 none rm3_reckonNumbers P [.ref (P.2.1 19), .ref (P.2.1 q1)] σ (nw_Kv K) := by
  refine nw_enter (by decide) (by first | decide | exact Nat.le_of_ble_eq_true rfl) hD ?_
  intro X hl h he hR
  subst hl
  have h : nw_ok P X cX3_reckonNumbers RX3 4 := h
  show nw_G P X 4 σ [(0, .ref (P.2.1 19)), (1, .ref (P.2.1 q1))] 0 []
  have hB_39 : ∀ (H_24 : nw_ST → Nat → Int32 → Prop) (hH_24 : (∀ (σ : nw_ST) (x1 : Nat) (x2 : Int32), nw_cl x1 = 0 → H_24 σ x1 x2 → nw_G P X 4 σ [(0, .ref (P.2.1 19)), (1, .ref (P.2.1 x1)), (2, .int x2)] 24 [])) (H_39 : nw_ST → Nat → Int32 → Int32 → Prop) (hH_39 : (∀ (σ : nw_ST) (x1 : Nat) (x2 : Int32) (x3 : Int32), nw_cl x1 = 0 → H_39 σ x1 x2 x3 → nw_G P X 4 σ [(0, .ref (P.2.1 19)), (1, .ref (P.2.1 x1)), (2, .int x2), (3, .int x3)] 39 [])), ∀ (σ : nw_ST) (x1 : Nat) (x2 : Int32) (x3 : Int32), nw_cl x1 = 0 → b3_reckonNumbers_39 K H_24 H_39 σ x1 x2 x3 → nw_G P X 4 σ [(0, .ref (P.2.1 19)), (1, .ref (P.2.1 x1)), (2, .int x2), (3, .int x3)] 39 [] := by
    intro H_24 hH_24 H_39 hH_39 σ x1 x2 x3 hc_x1 hf
    unfold b3_reckonNumbers_39 at hf
    refine nw_iload_n (pc := 39) h dX3_reckonNumbers_39 rfl 3 rfl ?_
    refine nw_sipush (pc := 40) (v := 240) h dX3_reckonNumbers_40 (by decide) ?_
    refine nw_icmp_gt (pc := 43) (tgt := 67) h dX3_reckonNumbers_43 (by decide) (fun c_43 => ?_) (fun c_43 => ?_)
    · have hf := hf.1 c_43
      refine nw_iinc (pc := 67) (v := (x2 + (1 : Int32))) (lv' := [(2, .int (x2 + (1 : Int32))), (0, .ref (P.2.1 19)), (1, .ref (P.2.1 x1)), (3, .int x3)]) h dX3_reckonNumbers_67 (j := 2) rfl rfl (by decide) rfl ?_
      refine nw_goto (pc := 70) (tgt := 24) h dX3_reckonNumbers_70 (by decide) ?_
      refine nw_sub (lv' := [(0, .ref (P.2.1 19)), (1, .ref (P.2.1 x1)), (2, .int (x2 + (1 : Int32)))]) [1, 2, 0] rfl ?_
      exact hH_24 _ _ _ hc_x1 (hf)
    · have hf := hf.2 c_43
      refine nw_aload_n (pc := 46) h dX3_reckonNumbers_46 rfl 0 rfl ?_
      refine gf3_25 (pc := 47) (r := 24) h rfl rfl dX3_reckonNumbers_47 ?_
      refine nw_iload_n (pc := 50) h dX3_reckonNumbers_50 rfl 3 rfl ?_
      refine nw_dup2 (pc := 51) h dX3_reckonNumbers_51 rfl rfl ?_
      obtain ⟨h_52, hf⟩ := hf
      refine nw_iald (pc := 52) (n := 241) h rfl rfl h_52 dX3_reckonNumbers_52 ?_
      refine nw_aload_n (pc := 53) h dX3_reckonNumbers_53 rfl 1 rfl ?_
      refine gf3_74 (pc := 54) h hc_x1 rfl dX3_reckonNumbers_54 ?_
      refine nw_iload_n (pc := 57) h dX3_reckonNumbers_57 rfl 2 rfl ?_
      obtain ⟨h_58, hf⟩ := hf
      refine nw_iald (pc := 58) (n := (nw_len (nw_rf x1 1))) h (nw_wt0_1 hc_x1) rfl h_58 dX3_reckonNumbers_58 ?_
      refine nw_iadd (pc := 59) h dX3_reckonNumbers_59 ?_
      obtain ⟨h_60, hf⟩ := hf
      refine nw_iast (pc := 60) (n := 241) h rfl rfl h_60 dX3_reckonNumbers_60 ?_
      refine nw_iinc (pc := 61) (v := (x3 + (1 : Int32))) (lv' := [(3, .int (x3 + (1 : Int32))), (0, .ref (P.2.1 19)), (1, .ref (P.2.1 x1)), (2, .int x2)]) h dX3_reckonNumbers_61 (j := 3) rfl rfl (by decide) rfl ?_
      refine nw_goto (pc := 64) (tgt := 39) h dX3_reckonNumbers_64 (by decide) ?_
      refine nw_sub (lv' := [(0, .ref (P.2.1 19)), (1, .ref (P.2.1 x1)), (2, .int x2), (3, .int (x3 + (1 : Int32)))]) [1, 2, 3, 0] rfl ?_
      exact hH_39 _ _ _ _ hc_x1 (hf)
  have hL_39 : ∀ (H_24 : nw_ST → Nat → Int32 → Prop) (hH_24 : (∀ (σ : nw_ST) (x1 : Nat) (x2 : Int32), nw_cl x1 = 0 → H_24 σ x1 x2 → nw_G P X 4 σ [(0, .ref (P.2.1 19)), (1, .ref (P.2.1 x1)), (2, .int x2)] 24 [])), ∀ (n : Nat) (σ : nw_ST) (x1 : Nat) (x2 : Int32) (x3 : Int32), nw_cl x1 = 0 → f3_reckonNumbers_39 K H_24 n σ x1 x2 x3 → nw_G P X 4 σ [(0, .ref (P.2.1 19)), (1, .ref (P.2.1 x1)), (2, .int x2), (3, .int x3)] 39 [] := by
    intro H_24 hH_24 n
    induction n with
    | zero => intro σ x1 x2 x3 hc_x1 hf; exact False.elim hf
    | succ n ih => exact hB_39 H_24 hH_24 _ ih
  have hB_24 : ∀ (H_24 : nw_ST → Nat → Int32 → Prop) (hH_24 : (∀ (σ : nw_ST) (x1 : Nat) (x2 : Int32), nw_cl x1 = 0 → H_24 σ x1 x2 → nw_G P X 4 σ [(0, .ref (P.2.1 19)), (1, .ref (P.2.1 x1)), (2, .int x2)] 24 [])), ∀ (σ : nw_ST) (x1 : Nat) (x2 : Int32), nw_cl x1 = 0 → b3_reckonNumbers_24 K H_24 σ x1 x2 → nw_G P X 4 σ [(0, .ref (P.2.1 19)), (1, .ref (P.2.1 x1)), (2, .int x2)] 24 [] := by
    intro H_24 hH_24 σ x1 x2 hc_x1 hf
    unfold b3_reckonNumbers_24 at hf
    refine nw_iload_n (pc := 24) h dX3_reckonNumbers_24 rfl 2 rfl ?_
    refine nw_aload_n (pc := 25) h dX3_reckonNumbers_25 rfl 1 rfl ?_
    refine gf3_53 (pc := 26) h hc_x1 dX3_reckonNumbers_26 ?_
    refine nw_icmp_ge (pc := 29) (tgt := 73) h dX3_reckonNumbers_29 (by decide) (fun c_29 => ?_) (fun c_29 => ?_)
    · have hf := hf.1 c_29
      exact nw_vret (pc := 73) h he dX3_reckonNumbers_73 ⟨rfl, hf⟩
    · have hf := hf.2 c_29
      refine nw_aload_n (pc := 32) h dX3_reckonNumbers_32 rfl 1 rfl ?_
      refine gf3_58 (pc := 33) h hc_x1 rfl dX3_reckonNumbers_33 ?_
      refine nw_iload_n (pc := 36) h dX3_reckonNumbers_36 rfl 2 rfl ?_
      obtain ⟨h_37, hf⟩ := hf
      refine nw_iald (pc := 37) (n := (nw_len (nw_rf x1 0))) h (nw_wt0_0 hc_x1) rfl h_37 dX3_reckonNumbers_37 ?_
      refine nw_istore_n (pc := 38) (lv' := [(3, .int (nw_gA σ (nw_rf x1 0) x2.toNatClampNeg)), (0, .ref (P.2.1 19)), (1, .ref (P.2.1 x1)), (2, .int x2)]) h dX3_reckonNumbers_38 rfl (by decide) rfl ?_
      obtain ⟨n_39, hf⟩ := hf
      refine nw_sub (lv' := [(0, .ref (P.2.1 19)), (1, .ref (P.2.1 x1)), (2, .int x2), (3, .int (nw_gA σ (nw_rf x1 0) x2.toNatClampNeg))]) [1, 2, 3, 0] rfl ?_
      exact hL_39 H_24 hH_24 n_39 _ _ _ _ hc_x1 hf
  have hL_24 :  ∀ (n : Nat) (σ : nw_ST) (x1 : Nat) (x2 : Int32), nw_cl x1 = 0 → f3_reckonNumbers_24 K n σ x1 x2 → nw_G P X 4 σ [(0, .ref (P.2.1 19)), (1, .ref (P.2.1 x1)), (2, .int x2)] 24 [] := by
    intro n
    induction n with
    | zero => intro σ x1 x2 hc_x1 hf; exact False.elim hf
    | succ n ih => exact hB_24 _ ih
  have hB_2 : ∀ (H_2 : nw_ST → Nat → Int32 → Prop) (hH_2 : (∀ (σ : nw_ST) (x1 : Nat) (x2 : Int32), nw_cl x1 = 0 → H_2 σ x1 x2 → nw_G P X 4 σ [(0, .ref (P.2.1 19)), (1, .ref (P.2.1 x1)), (2, .int x2)] 2 [])), ∀ (σ : nw_ST) (x1 : Nat) (x2 : Int32), nw_cl x1 = 0 → b3_reckonNumbers_2 K H_2 σ x1 x2 → nw_G P X 4 σ [(0, .ref (P.2.1 19)), (1, .ref (P.2.1 x1)), (2, .int x2)] 2 [] := by
    intro H_2 hH_2 σ x1 x2 hc_x1 hf
    unfold b3_reckonNumbers_2 at hf
    refine nw_iload_n (pc := 2) h dX3_reckonNumbers_2 rfl 2 rfl ?_
    refine nw_sipush (pc := 3) (v := 240) h dX3_reckonNumbers_3 (by decide) ?_
    refine nw_icmp_gt (pc := 6) (tgt := 22) h dX3_reckonNumbers_6 (by decide) (fun c_6 => ?_) (fun c_6 => ?_)
    · have hf := hf.1 c_6
      refine nw_iconst (pc := 22) (v := 0) h dX3_reckonNumbers_22 (by decide) ?_
      refine nw_istore_n (pc := 23) (lv' := [(2, .int (0 : Int32)), (0, .ref (P.2.1 19)), (1, .ref (P.2.1 x1))]) h dX3_reckonNumbers_23 rfl (by decide) rfl ?_
      obtain ⟨n_24, hf⟩ := hf
      refine nw_sub (lv' := [(0, .ref (P.2.1 19)), (1, .ref (P.2.1 x1)), (2, .int (0 : Int32))]) [1, 2, 0] rfl ?_
      exact hL_24 n_24 _ _ _ hc_x1 hf
    · have hf := hf.2 c_6
      refine nw_aload_n (pc := 9) h dX3_reckonNumbers_9 rfl 0 rfl ?_
      refine gf3_25 (pc := 10) (r := 24) h rfl rfl dX3_reckonNumbers_10 ?_
      refine nw_iload_n (pc := 13) h dX3_reckonNumbers_13 rfl 2 rfl ?_
      refine nw_iload_n (pc := 14) h dX3_reckonNumbers_14 rfl 2 rfl ?_
      obtain ⟨h_15, hf⟩ := hf
      refine nw_iast (pc := 15) (n := 241) h rfl rfl h_15 dX3_reckonNumbers_15 ?_
      refine nw_iinc (pc := 16) (v := (x2 + (1 : Int32))) (lv' := [(2, .int (x2 + (1 : Int32))), (0, .ref (P.2.1 19)), (1, .ref (P.2.1 x1))]) h dX3_reckonNumbers_16 (j := 2) rfl rfl (by decide) rfl ?_
      refine nw_goto (pc := 19) (tgt := 2) h dX3_reckonNumbers_19 (by decide) ?_
      refine nw_sub (lv' := [(0, .ref (P.2.1 19)), (1, .ref (P.2.1 x1)), (2, .int (x2 + (1 : Int32)))]) [1, 2, 0] rfl ?_
      exact hH_2 _ _ _ hc_x1 (hf)
  have hL_2 :  ∀ (n : Nat) (σ : nw_ST) (x1 : Nat) (x2 : Int32), nw_cl x1 = 0 → f3_reckonNumbers_2 K n σ x1 x2 → nw_G P X 4 σ [(0, .ref (P.2.1 19)), (1, .ref (P.2.1 x1)), (2, .int x2)] 2 [] := by
    intro n
    induction n with
    | zero => intro σ x1 x2 hc_x1 hf; exact False.elim hf
    | succ n ih => exact hB_2 _ ih
  unfold f3_reckonNumbers at hf
  refine nw_iconst (pc := 0) (v := 0) h dX3_reckonNumbers_0 (by decide) ?_
  refine nw_istore_n (pc := 1) (lv' := [(2, .int (0 : Int32)), (0, .ref (P.2.1 19)), (1, .ref (P.2.1 q1))]) h dX3_reckonNumbers_1 rfl (by decide) rfl ?_
  obtain ⟨n_2, hf⟩ := hf
  refine nw_sub (lv' := [(0, .ref (P.2.1 19)), (1, .ref (P.2.1 q1)), (2, .int (0 : Int32))]) [1, 2, 0] rfl ?_
  exact hL_2 n_2 _ _ _ hc_q1 hf
def v4_breaksAt (a1 : Int32) (a2 : Int32) : Int32 := (if (a1 < (1 : Int32)) then (0 : Int32) else (if (a1 < a2) then (0 : Int32) else (1 : Int32)))
theorem z4_breaksAt (a1 : Int32) (a2 : Int32) : nw_isZ (v4_breaksAt a1 a2) := by
  unfold v4_breaksAt; repeat' split
  all_goals first | exact (Or.inl rfl) | exact (Or.inr rfl)
def rm4_breaksAt : Room := { frames := 0, cells := 0, slots := 0, locals := 0 }
theorem yd4_breaksAt : yX4_breaksAt.cls = RX4 ∧ yX4_breaksAt.cls ≠ "java/lang/invoke/MethodHandle" ∧ yX4_breaksAt.cls ≠ "java/lang/invoke/VarHandle" ∧ (parseMethodDescriptor yX4_breaksAt.desc).map (fun d => d.parameters.length) = some 2 := by decide +kernel
set_option maxHeartbeats 4000000 in
set_option maxRecDepth 100000 in
theorem ct4_breaksAt (l : Launch) (P : nw_PT) (hD : nw_D P) (σ : nw_ST) (a1 : Int32) (a2 : Int32)   : nw_MT l yX4_breaksAt cX4_breaksAt 2 (some .boolean) rm4_breaksAt P [.int a1, .int a2] σ (nw_Ki (fun r s2 => r = (v4_breaksAt a1 a2) ∧ s2 = σ)) := by
  refine nw_enter (by decide) (by first | decide | exact Nat.le_of_ble_eq_true rfl) hD ?_
  intro X hl h he hR
  subst hl
  have h : nw_ok P X cX4_breaksAt RX4 2 := h
  show nw_G P X 2 σ [(0, .int a1), (1, .int a2)] 0 []
  refine nw_iload_n (pc := 0) h dX4_breaksAt_0 rfl 0 rfl ?_
  refine nw_iconst (pc := 1) (v := 1) h dX4_breaksAt_1 (by decide) ?_
  refine nw_icmp_lt (pc := 2) (tgt := 14) h dX4_breaksAt_2 (by decide) (fun c_2 => ?_) (fun c_2 => ?_)
  · skip
    refine nw_iconst (pc := 14) (v := 0) h dX4_breaksAt_14 (by decide) ?_
    exact nw_zret (pc := 15) h he dX4_breaksAt_15 (Or.inl rfl) ⟨_, rfl, (by unfold v4_breaksAt; rw [if_pos c_2]), rfl⟩
  · skip
    refine nw_iload_n (pc := 5) h dX4_breaksAt_5 rfl 0 rfl ?_
    refine nw_iload_n (pc := 6) h dX4_breaksAt_6 rfl 1 rfl ?_
    refine nw_icmp_lt (pc := 7) (tgt := 14) h dX4_breaksAt_7 (by decide) (fun c_7 => ?_) (fun c_7 => ?_)
    · skip
      refine nw_iconst (pc := 14) (v := 0) h dX4_breaksAt_14 (by decide) ?_
      exact nw_zret (pc := 15) h he dX4_breaksAt_15 (Or.inl rfl) ⟨_, rfl, (by unfold v4_breaksAt; rw [if_neg c_2, if_pos c_7]), rfl⟩
    · skip
      refine nw_iconst (pc := 10) (v := 1) h dX4_breaksAt_10 (by decide) ?_
      refine nw_goto (pc := 11) (tgt := 15) h dX4_breaksAt_11 (by decide) ?_
      exact nw_zret (pc := 15) h he dX4_breaksAt_15 (Or.inr rfl) ⟨_, rfl, (by unfold v4_breaksAt; rw [if_neg c_2, if_neg c_7]), rfl⟩
theorem klX3_39 {P : nw_PT} {X : nw_EX} {cc : ByteArray} {nL : Nat} {σ : nw_ST} {lv : List (Nat × Value)} {pc : Nat} {rest : List Value} {q1 : Nat} (h : nw_ok P X cc RX3 nL) (hR : rm3_reckonHeights.frames + 1 ≤ X.2.2.2.1.frames ∧ 8 + (4 + 11) + rm3_reckonHeights.locals ≤ X.2.2.2.1.locals) (hc_q1 : nw_cl q1 = 2) {K : nw_ST → Prop} (hf : f3_reckonHeights K σ q1) (hst : (rest.map fun v => v.category).sum ≤ 8) (hd : decode cc pc = .ok (.invokevirtual 39, 3)) (k : ∀ (s2 : nw_ST), K s2 → nw_G P X nL s2 lv (pc + 3) rest) : nw_G P X nL σ lv pc (.ref (P.2.1 q1) :: .ref (P.2.1 19) :: rest) :=
  nw_callV (As := [.ref (P.2.1 q1)]) (rest := rest) (C := RX3) (ci := 3) h (ct3_reckonHeights _ P h.2.2 σ q1 hc_q1 K hf) (nw_goodV nw_w95 nw_w96 nw_w97 nw_w98 nw_w99) yd3_reckonHeights rfl hR ⟨rfl, rfl⟩ rfl (by decide) rfl rfl hst rfl hd (fun v s2 z => by obtain ⟨rfl, z⟩ := z; exact k s2 z)
theorem klX3_43 {P : nw_PT} {X : nw_EX} {cc : ByteArray} {nL : Nat} {σ : nw_ST} {lv : List (Nat × Value)} {pc : Nat} {rest : List Value} {q1 : Nat} (h : nw_ok P X cc RX3 nL) (hR : rm3_reckonNumbers.frames + 1 ≤ X.2.2.2.1.frames ∧ 8 + (4 + 11) + rm3_reckonNumbers.locals ≤ X.2.2.2.1.locals) (hc_q1 : nw_cl q1 = 0) {K : nw_ST → Prop} (hf : f3_reckonNumbers K σ q1) (hst : (rest.map fun v => v.category).sum ≤ 8) (hd : decode cc pc = .ok (.invokevirtual 43, 3)) (k : ∀ (s2 : nw_ST), K s2 → nw_G P X nL s2 lv (pc + 3) rest) : nw_G P X nL σ lv pc (.ref (P.2.1 q1) :: .ref (P.2.1 19) :: rest) :=
  nw_callV (As := [.ref (P.2.1 q1)]) (rest := rest) (C := RX3) (ci := 3) h (ct3_reckonNumbers _ P h.2.2 σ q1 hc_q1 K hf) (nw_goodV nw_w100 nw_w101 nw_w102 nw_w98 nw_w103) yd3_reckonNumbers rfl hR ⟨rfl, rfl⟩ rfl (by decide) rfl rfl hst rfl hd (fun v s2 z => by obtain ⟨rfl, z⟩ := z; exact k s2 z)
theorem gf3_28 {P : nw_PT} {X : nw_EX} {cc : ByteArray} {nL : Nat} {σ : nw_ST} {lv : List (Nat × Value)} {pc : Nat} {st : List Value} {q : Nat} (h : nw_ok P X cc RX3 nL) (hq : nw_cl q = 3) {r : Nat} (hr : nw_rf q 5 = r) (hd : decode cc pc = .ok (.getfield 28, 3)) (k : nw_G P X nL σ lv (pc + 3) (.ref (P.2.1 r) :: st)) : nw_G P X nL σ lv pc (.ref (P.2.1 q) :: st) := by
  subst hr; intro H locs ls h1 h2 h3
  exact va_get (D := P.1) (ci := 3) (C := RX3) (T := TX3) (N := 7) h.1.1 h.1.2.1 h.1.2.2.2.2 in_T3 h.1.2.2.2.1 h.2.1.1 h1 q (nw_at3 hq) rfl 5 (by decide) (h.1.2.2.2.2 _ nw_w104) (fun _ z => z) rfl hd (k H locs ls h1 h2 h3)
theorem pf3_31 {P : nw_PT} {X : nw_EX} {cc : ByteArray} {nL : Nat} {σ : nw_ST} {lv : List (Nat × Value)} {pc : Nat} {st : List Value} {q : Nat} (h : nw_ok P X cc RX3 nL) (hq : nw_cl q = 3) {v : Int32} (hd : decode cc pc = .ok (.putfield 31, 3)) (k : nw_G P X nL (nw_sS σ q 6 v) lv (pc + 3) st) : nw_G P X nL σ lv pc (.int v :: .ref (P.2.1 q) :: st) := by
  intro H locs ls h1 h2 h3
  exact va_put (D := P.1) (ci := 3) (ty := .int) (C := RX3) (T := TX3) (N := 7) h.1.1 h.1.2.1 h.1.2.2.2.2 in_T3 tyX3 tyX3_ok nmX3 h.1.2.2.2.1 h.2.1.1 h1 (h.2.2 σ) h2 q (nw_at3 hq) rfl 6 (by decide) (h.1.2.2.2.2 _ nw_w105) (fun _ z => z) rfl (by decide +kernel) rfl rfl (by show 6 < 7; decide) hd (fun H1 locs1 g1 _ g2 => k H1 locs1 ls (by rw [nw_set3_6 hq] at g1; exact g1) g2 h3)
theorem gf3_22 {P : nw_PT} {X : nw_EX} {cc : ByteArray} {nL : Nat} {σ : nw_ST} {lv : List (Nat × Value)} {pc : Nat} {st : List Value} {q : Nat} (h : nw_ok P X cc RX3 nL) (hq : nw_cl q = 3) {r : Nat} (hr : nw_rf q 3 = r) (hd : decode cc pc = .ok (.getfield 22, 3)) (k : nw_G P X nL σ lv (pc + 3) (.ref (P.2.1 r) :: st)) : nw_G P X nL σ lv pc (.ref (P.2.1 q) :: st) := by
  subst hr; intro H locs ls h1 h2 h3
  exact va_get (D := P.1) (ci := 3) (C := RX3) (T := TX3) (N := 7) h.1.1 h.1.2.1 h.1.2.2.2.2 in_T3 h.1.2.2.2.1 h.2.1.1 h1 q (nw_at3 hq) rfl 3 (by decide) (h.1.2.2.2.2 _ nw_w106) (fun _ z => z) rfl hd (k H locs ls h1 h2 h3)
theorem klX3_35 {P : nw_PT} {X : nw_EX} {cc : ByteArray} {nL : Nat} {σ : nw_ST} {lv : List (Nat × Value)} {pc : Nat} {rest : List Value} {a1 : Int32} {a2 : Int32} (h : nw_ok P X cc RX3 nL) (hR : rm4_breaksAt.frames + 1 ≤ X.2.2.2.1.frames ∧ 8 + (2 + 11) + rm4_breaksAt.locals ≤ X.2.2.2.1.locals)  (hst : (rest.map fun v => v.category).sum ≤ 8) (hd : decode cc pc = .ok (.invokestatic 35, 3)) (k : nw_G P X nL σ lv (pc + 3) (.int (v4_breaksAt a1 a2) :: rest)) : nw_G P X nL σ lv pc (.int a2 :: .int a1 :: rest) :=
  nw_callSN (As := [.int a1, .int a2]) (rest := rest) (host := "NumberedWaves") h (ct4_breaksAt _ P h.2.2 σ a1 a2) (nw_goodN nw_w107) (by decide +kernel) nw_w24 nw_w108 yd4_breaksAt.2 rfl hR ⟨rfl, rfl⟩ hst rfl hd (fun v s2 z => by obtain ⟨r, rfl, rfl, rfl⟩ := z; exact k)
theorem gf3_18 {P : nw_PT} {X : nw_EX} {cc : ByteArray} {nL : Nat} {σ : nw_ST} {lv : List (Nat × Value)} {pc : Nat} {st : List Value} {q : Nat} (h : nw_ok P X cc RX3 nL) (hq : nw_cl q = 3) {r : Nat} (hr : nw_rf q 2 = r) (hd : decode cc pc = .ok (.getfield 18, 3)) (k : nw_G P X nL σ lv (pc + 3) (.ref (P.2.1 r) :: st)) : nw_G P X nL σ lv pc (.ref (P.2.1 q) :: st) := by
  subst hr; intro H locs ls h1 h2 h3
  exact va_get (D := P.1) (ci := 3) (C := RX3) (T := TX3) (N := 7) h.1.1 h.1.2.1 h.1.2.2.2.2 in_T3 h.1.2.2.2.1 h.2.1.1 h1 q (nw_at3 hq) rfl 2 (by decide) (h.1.2.2.2.2 _ nw_w109) (fun _ z => z) rfl hd (k H locs ls h1 h2 h3)
theorem gf3_31 {P : nw_PT} {X : nw_EX} {cc : ByteArray} {nL : Nat} {σ : nw_ST} {lv : List (Nat × Value)} {pc : Nat} {st : List Value} {q : Nat} (h : nw_ok P X cc RX3 nL) (hq : nw_cl q = 3) (hd : decode cc pc = .ok (.getfield 31, 3)) (k : nw_G P X nL σ lv (pc + 3) (.int (nw_gS σ q 6) :: st)) : nw_G P X nL σ lv pc (.ref (P.2.1 q) :: st) := by
  intro H locs ls h1 h2 h3
  exact va_get (D := P.1) (ci := 3) (C := RX3) (T := TX3) (N := 7) h.1.1 h.1.2.1 h.1.2.2.2.2 in_T3 h.1.2.2.2.1 h.2.1.1 h1 q (nw_at3 hq) rfl 6 (by decide) (h.1.2.2.2.2 _ nw_w105) (fun _ z => z) rfl hd (k H locs ls h1 h2 h3)
def f3_reckon_160 (K : nw_ST → Prop) (H_83 : nw_ST → Int32 → Int32 → Prop) (σ : nw_ST) (x2 : Int32) (x5 : Int32) : Prop := (H_83 σ x2 (x5 + (1 : Int32)))
def b3_reckon_83 (K : nw_ST → Prop) (H_83 : nw_ST → Int32 → Int32 → Prop) (σ : nw_ST) (x2 : Int32) (x5 : Int32) : Prop := ((((240 : Int32) ≤ x5) → (K σ)) ∧ (¬ ((240 : Int32) ≤ x5) → ((vp_in x5 240) ∧ ((vp_in x5 240) ∧ ((((v4_breaksAt (nw_gA (nw_sA σ 23 x5.toNatClampNeg (0 : Int32)) 20 x5.toNatClampNeg) x2) = 0) → (f3_reckon_160 K H_83 (nw_sA σ 23 x5.toNatClampNeg (0 : Int32)) x2 x5)) ∧ (¬ ((v4_breaksAt (nw_gA (nw_sA σ 23 x5.toNatClampNeg (0 : Int32)) 20 x5.toNatClampNeg) x2) = 0) → ((vp_in x5 240) ∧ ((((nw_gA (nw_sA σ 23 x5.toNatClampNeg (0 : Int32)) 22 x5.toNatClampNeg) = 0) → ((vp_in x5 240) ∧ ((vp_in (nw_gS (nw_sA (nw_sS (nw_sA σ 23 x5.toNatClampNeg (0 : Int32)) 19 6 ((nw_gS (nw_sA σ 23 x5.toNatClampNeg (0 : Int32)) 19 6) + (1 : Int32))) 23 x5.toNatClampNeg (nw_gS (nw_sS (nw_sA σ 23 x5.toNatClampNeg (0 : Int32)) 19 6 ((nw_gS (nw_sA σ 23 x5.toNatClampNeg (0 : Int32)) 19 6) + (1 : Int32))) 19 6)) 19 6) 241) ∧ ((vp_in (nw_gA (nw_sA (nw_sS (nw_sA σ 23 x5.toNatClampNeg (0 : Int32)) 19 6 ((nw_gS (nw_sA σ 23 x5.toNatClampNeg (0 : Int32)) 19 6) + (1 : Int32))) 23 x5.toNatClampNeg (nw_gS (nw_sS (nw_sA σ 23 x5.toNatClampNeg (0 : Int32)) 19 6 ((nw_gS (nw_sA σ 23 x5.toNatClampNeg (0 : Int32)) 19 6) + (1 : Int32))) 19 6)) 24 (nw_gS (nw_sA (nw_sS (nw_sA σ 23 x5.toNatClampNeg (0 : Int32)) 19 6 ((nw_gS (nw_sA σ 23 x5.toNatClampNeg (0 : Int32)) 19 6) + (1 : Int32))) 23 x5.toNatClampNeg (nw_gS (nw_sS (nw_sA σ 23 x5.toNatClampNeg (0 : Int32)) 19 6 ((nw_gS (nw_sA σ 23 x5.toNatClampNeg (0 : Int32)) 19 6) + (1 : Int32))) 19 6)) 19 6).toNatClampNeg) 401) ∧ (f3_reckon_160 K H_83 (nw_sA (nw_sA (nw_sS (nw_sA σ 23 x5.toNatClampNeg (0 : Int32)) 19 6 ((nw_gS (nw_sA σ 23 x5.toNatClampNeg (0 : Int32)) 19 6) + (1 : Int32))) 23 x5.toNatClampNeg (nw_gS (nw_sS (nw_sA σ 23 x5.toNatClampNeg (0 : Int32)) 19 6 ((nw_gS (nw_sA σ 23 x5.toNatClampNeg (0 : Int32)) 19 6) + (1 : Int32))) 19 6)) 25 (nw_gA (nw_sA (nw_sS (nw_sA σ 23 x5.toNatClampNeg (0 : Int32)) 19 6 ((nw_gS (nw_sA σ 23 x5.toNatClampNeg (0 : Int32)) 19 6) + (1 : Int32))) 23 x5.toNatClampNeg (nw_gS (nw_sS (nw_sA σ 23 x5.toNatClampNeg (0 : Int32)) 19 6 ((nw_gS (nw_sA σ 23 x5.toNatClampNeg (0 : Int32)) 19 6) + (1 : Int32))) 19 6)) 24 (nw_gS (nw_sA (nw_sS (nw_sA σ 23 x5.toNatClampNeg (0 : Int32)) 19 6 ((nw_gS (nw_sA σ 23 x5.toNatClampNeg (0 : Int32)) 19 6) + (1 : Int32))) 23 x5.toNatClampNeg (nw_gS (nw_sS (nw_sA σ 23 x5.toNatClampNeg (0 : Int32)) 19 6 ((nw_gS (nw_sA σ 23 x5.toNatClampNeg (0 : Int32)) 19 6) + (1 : Int32))) 19 6)) 19 6).toNatClampNeg).toNatClampNeg x5) x2 x5))))) ∧ (¬ ((nw_gA (nw_sA σ 23 x5.toNatClampNeg (0 : Int32)) 22 x5.toNatClampNeg) = 0) → (f3_reckon_160 K H_83 (nw_sA σ 23 x5.toNatClampNeg (0 : Int32)) x2 x5))))))))))
def f3_reckon_83 (K : nw_ST → Prop) : Nat → nw_ST → Int32 → Int32 → Prop
  | 0 => fun _ _ _ => False
  | n + 1 => b3_reckon_83 K (f3_reckon_83 K n)
def b3_reckon_47 (K : nw_ST → Prop) (H_47 : nw_ST → Int32 → Nat → Int32 → Prop) (σ : nw_ST) (x2 : Int32) (x3 : Nat) (x5 : Int32) : Prop := ((((nw_gS σ x3 2) ≤ x5) → (∃ n, f3_reckon_83 K n (nw_sS σ 19 6 (0 : Int32)) x2 (0 : Int32))) ∧ (¬ ((nw_gS σ x3 2) ≤ x5) → ((vp_in x5 (nw_len (nw_rf x3 0))) ∧ ((vp_in (nw_gA σ (nw_rf x3 0) x5.toNatClampNeg) 240) ∧ (H_47 (nw_sA σ 22 (nw_gA σ (nw_rf x3 0) x5.toNatClampNeg).toNatClampNeg (1 : Int32)) x2 x3 (x5 + (1 : Int32)))))))
def f3_reckon_47 (K : nw_ST → Prop) : Nat → nw_ST → Int32 → Nat → Int32 → Prop
  | 0 => fun _ _ _ _ => False
  | n + 1 => b3_reckon_47 K (f3_reckon_47 K n)
def b3_reckon_22 (K : nw_ST → Prop) (H_22 : nw_ST → Int32 → Nat → Int32 → Prop) (σ : nw_ST) (x2 : Int32) (x3 : Nat) (x5 : Int32) : Prop := ((((240 : Int32) ≤ x5) → (∃ n, f3_reckon_47 K n σ x2 x3 (0 : Int32))) ∧ (¬ ((240 : Int32) ≤ x5) → ((vp_in x5 240) ∧ (H_22 (nw_sA σ 22 x5.toNatClampNeg (0 : Int32)) x2 x3 (x5 + (1 : Int32))))))
def f3_reckon_22 (K : nw_ST → Prop) : Nat → nw_ST → Int32 → Nat → Int32 → Prop
  | 0 => fun _ _ _ _ => False
  | n + 1 => b3_reckon_22 K (f3_reckon_22 K n)
def f3_reckon (K : nw_ST → Prop) (σ : nw_ST) (q1 : Nat) (a2 : Int32) (q3 : Nat) (q4 : Nat) : Prop := (f3_reckonHeights (fun (s_2 : nw_ST) => (f3_reckonNumbers (fun (s_8 : nw_ST) => (fJ7_fill_53178 (fun (s_16 : nw_ST) => (∃ n, f3_reckon_22 K n s_16 a2 q3 (0 : Int32))) s_8 25 (-1 : Int32))) s_2 q4)) σ q1)
def rm3_reckon : Room := { frames := 2, cells := 0, slots := 0, locals := 46 }
theorem yd3_reckon : yX3_reckon.cls = RX3 ∧ yX3_reckon.cls ≠ "java/lang/invoke/MethodHandle" ∧ yX3_reckon.cls ≠ "java/lang/invoke/VarHandle" ∧ (parseMethodDescriptor yX3_reckon.desc).map (fun d => d.parameters.length) = some 4 := by decide +kernel
set_option maxHeartbeats 4000000 in
set_option maxRecDepth 100000 in
theorem ct3_reckon (l : Launch) (P : nw_PT) (hD : nw_D P) (σ : nw_ST) (q1 : Nat) (a2 : Int32) (q3 : Nat) (q4 : Nat) (hc_q1 : nw_cl q1 = 2) (hc_q3 : nw_cl q3 = 0) (hc_q4 : nw_cl q4 = 0) (K : nw_ST → Prop) (hf : f3_reckon K σ q1 a2 q3 q4) : nw_MT l yX3_reckon cX3_reckon 6 none rm3_reckon P [.ref (P.2.1 19), .ref (P.2.1 q1), .int a2, .ref (P.2.1 q3), .ref (P.2.1 q4)] σ (nw_Kv K) := by
  refine nw_enter (by decide) (by first | decide | exact Nat.le_of_ble_eq_true rfl) hD ?_
  intro X hl h he hR
  subst hl
  have h : nw_ok P X cX3_reckon RX3 6 := h
  show nw_G P X 6 σ [(0, .ref (P.2.1 19)), (1, .ref (P.2.1 q1)), (2, .int a2), (3, .ref (P.2.1 q3)), (4, .ref (P.2.1 q4))] 0 []
  have hL_160 : ∀ (H_83 : nw_ST → Int32 → Int32 → Prop) (hH_83 : (∀ (σ : nw_ST) (x2 : Int32) (x5 : Int32), H_83 σ x2 x5 → nw_G P X 6 σ [(0, .ref (P.2.1 19)), (2, .int x2), (5, .int x5)] 83 [])), ∀ (σ : nw_ST) (x2 : Int32) (x5 : Int32), f3_reckon_160 K H_83 σ x2 x5 → nw_G P X 6 σ [(0, .ref (P.2.1 19)), (2, .int x2), (5, .int x5)] 160 [] := by
    intro H_83 hH_83 σ x2 x5 hf
    unfold f3_reckon_160 at hf
    refine nw_iinc (pc := 160) (v := (x5 + (1 : Int32))) (lv' := [(5, .int (x5 + (1 : Int32))), (0, .ref (P.2.1 19)), (2, .int x2)]) h dX3_reckon_160 (j := 2) rfl rfl (by decide) rfl ?_
    refine nw_goto (pc := 163) (tgt := 83) h dX3_reckon_163 (by decide) ?_
    refine nw_sub (lv' := [(0, .ref (P.2.1 19)), (2, .int x2), (5, .int (x5 + (1 : Int32)))]) [1, 2, 0] rfl ?_
    exact hH_83 _ _ _ (hf)
  have hB_83 : ∀ (H_83 : nw_ST → Int32 → Int32 → Prop) (hH_83 : (∀ (σ : nw_ST) (x2 : Int32) (x5 : Int32), H_83 σ x2 x5 → nw_G P X 6 σ [(0, .ref (P.2.1 19)), (2, .int x2), (5, .int x5)] 83 [])), ∀ (σ : nw_ST) (x2 : Int32) (x5 : Int32), b3_reckon_83 K H_83 σ x2 x5 → nw_G P X 6 σ [(0, .ref (P.2.1 19)), (2, .int x2), (5, .int x5)] 83 [] := by
    intro H_83 hH_83 σ x2 x5 hf
    unfold b3_reckon_83 at hf
    refine nw_iload (pc := 83) h dX3_reckon_83 2 rfl ?_
    refine nw_sipush (pc := 85) (v := 240) h dX3_reckon_85 (by decide) ?_
    refine nw_icmp_ge (pc := 88) (tgt := 166) h dX3_reckon_88 (by decide) (fun c_88 => ?_) (fun c_88 => ?_)
    · have hf := hf.1 c_88
      exact nw_vret (pc := 166) h he dX3_reckon_166 ⟨rfl, hf⟩
    · have hf := hf.2 c_88
      refine nw_aload_n (pc := 91) h dX3_reckon_91 rfl 0 rfl ?_
      refine gf3_22 (pc := 92) (r := 23) h rfl rfl dX3_reckon_92 ?_
      refine nw_iload (pc := 95) h dX3_reckon_95 2 rfl ?_
      refine nw_iconst (pc := 97) (v := 0) h dX3_reckon_97 (by decide) ?_
      obtain ⟨h_98, hf⟩ := hf
      refine nw_iast (pc := 98) (n := 240) h rfl rfl h_98 dX3_reckon_98 ?_
      refine nw_aload_n (pc := 99) h dX3_reckon_99 rfl 0 rfl ?_
      refine gf3_9 (pc := 100) (r := 20) h rfl rfl dX3_reckon_100 ?_
      refine nw_iload (pc := 103) h dX3_reckon_103 2 rfl ?_
      obtain ⟨h_105, hf⟩ := hf
      refine nw_iald (pc := 105) (n := 240) h rfl rfl h_105 dX3_reckon_105 ?_
      refine nw_iload_n (pc := 106) h dX3_reckon_106 rfl 1 rfl ?_
      refine klX3_35 (pc := 107) h (by rw [hR]; decide) (Nat.le_of_ble_eq_true rfl) dX3_reckon_107 ?_
      refine nw_if_eq (pc := 110) (tgt := 160) h dX3_reckon_110 (by decide) (fun c_110 => ?_) (fun c_110 => ?_)
      · have hf := hf.1 c_110
        exact hL_160 H_83 hH_83 _ _ _ (hf)
      · have hf := hf.2 c_110
        refine nw_aload_n (pc := 113) h dX3_reckon_113 rfl 0 rfl ?_
        refine gf3_18 (pc := 114) (r := 22) h rfl rfl dX3_reckon_114 ?_
        refine nw_iload (pc := 117) h dX3_reckon_117 2 rfl ?_
        obtain ⟨h_119, hf⟩ := hf
        refine nw_zald (pc := 119) (n := 240) h rfl rfl h_119 dX3_reckon_119 ?_
        refine nw_if_ne (pc := 120) (tgt := 160) h dX3_reckon_120 (by decide) (fun c_120 => ?_) (fun c_120 => ?_)
        · have hf := hf.2 c_120
          exact hL_160 H_83 hH_83 _ _ _ (hf)
        · have hf := hf.1 c_120
          refine nw_aload_n (pc := 123) h dX3_reckon_123 rfl 0 rfl ?_
          refine nw_dup (pc := 124) h dX3_reckon_124 rfl ?_
          refine gf3_31 (pc := 125) h rfl dX3_reckon_125 ?_
          refine nw_iconst (pc := 128) (v := 1) h dX3_reckon_128 (by decide) ?_
          refine nw_iadd (pc := 129) h dX3_reckon_129 ?_
          refine pf3_31 (pc := 130) h rfl dX3_reckon_130 ?_
          refine nw_aload_n (pc := 133) h dX3_reckon_133 rfl 0 rfl ?_
          refine gf3_22 (pc := 134) (r := 23) h rfl rfl dX3_reckon_134 ?_
          refine nw_iload (pc := 137) h dX3_reckon_137 2 rfl ?_
          refine nw_aload_n (pc := 139) h dX3_reckon_139 rfl 0 rfl ?_
          refine gf3_31 (pc := 140) h rfl dX3_reckon_140 ?_
          obtain ⟨h_143, hf⟩ := hf
          refine nw_iast (pc := 143) (n := 240) h rfl rfl h_143 dX3_reckon_143 ?_
          refine nw_aload_n (pc := 144) h dX3_reckon_144 rfl 0 rfl ?_
          refine gf3_28 (pc := 145) (r := 25) h rfl rfl dX3_reckon_145 ?_
          refine nw_aload_n (pc := 148) h dX3_reckon_148 rfl 0 rfl ?_
          refine gf3_25 (pc := 149) (r := 24) h rfl rfl dX3_reckon_149 ?_
          refine nw_aload_n (pc := 152) h dX3_reckon_152 rfl 0 rfl ?_
          refine gf3_31 (pc := 153) h rfl dX3_reckon_153 ?_
          obtain ⟨h_156, hf⟩ := hf
          refine nw_iald (pc := 156) (n := 241) h rfl rfl h_156 dX3_reckon_156 ?_
          refine nw_iload (pc := 157) h dX3_reckon_157 2 rfl ?_
          obtain ⟨h_159, hf⟩ := hf
          refine nw_iast (pc := 159) (n := 401) h rfl rfl h_159 dX3_reckon_159 ?_
          exact hL_160 H_83 hH_83 _ _ _ (hf)
  have hL_83 :  ∀ (n : Nat) (σ : nw_ST) (x2 : Int32) (x5 : Int32), f3_reckon_83 K n σ x2 x5 → nw_G P X 6 σ [(0, .ref (P.2.1 19)), (2, .int x2), (5, .int x5)] 83 [] := by
    intro n
    induction n with
    | zero => intro σ x2 x5 hf; exact False.elim hf
    | succ n ih => exact hB_83 _ ih
  have hB_47 : ∀ (H_47 : nw_ST → Int32 → Nat → Int32 → Prop) (hH_47 : (∀ (σ : nw_ST) (x2 : Int32) (x3 : Nat) (x5 : Int32), nw_cl x3 = 0 → H_47 σ x2 x3 x5 → nw_G P X 6 σ [(0, .ref (P.2.1 19)), (2, .int x2), (3, .ref (P.2.1 x3)), (5, .int x5)] 47 [])), ∀ (σ : nw_ST) (x2 : Int32) (x3 : Nat) (x5 : Int32), nw_cl x3 = 0 → b3_reckon_47 K H_47 σ x2 x3 x5 → nw_G P X 6 σ [(0, .ref (P.2.1 19)), (2, .int x2), (3, .ref (P.2.1 x3)), (5, .int x5)] 47 [] := by
    intro H_47 hH_47 σ x2 x3 x5 hc_x3 hf
    unfold b3_reckon_47 at hf
    refine nw_iload (pc := 47) h dX3_reckon_47 3 rfl ?_
    refine nw_aload_n (pc := 49) h dX3_reckon_49 rfl 2 rfl ?_
    refine gf3_53 (pc := 50) h hc_x3 dX3_reckon_50 ?_
    refine nw_icmp_ge (pc := 53) (tgt := 75) h dX3_reckon_53 (by decide) (fun c_53 => ?_) (fun c_53 => ?_)
    · have hf := hf.1 c_53
      refine nw_aload_n (pc := 75) h dX3_reckon_75 rfl 0 rfl ?_
      refine nw_iconst (pc := 76) (v := 0) h dX3_reckon_76 (by decide) ?_
      refine pf3_31 (pc := 77) h rfl dX3_reckon_77 ?_
      refine nw_iconst (pc := 80) (v := 0) h dX3_reckon_80 (by decide) ?_
      refine nw_istore (pc := 81) (lv' := [(5, .int (0 : Int32)), (0, .ref (P.2.1 19)), (2, .int x2), (3, .ref (P.2.1 x3))]) h dX3_reckon_81 (by decide) rfl ?_
      obtain ⟨n_83, hf⟩ := hf
      refine nw_sub (lv' := [(0, .ref (P.2.1 19)), (2, .int x2), (5, .int (0 : Int32))]) [1, 2, 0] rfl ?_
      exact hL_83 n_83 _ _ _ hf
    · have hf := hf.2 c_53
      refine nw_aload_n (pc := 56) h dX3_reckon_56 rfl 0 rfl ?_
      refine gf3_18 (pc := 57) (r := 22) h rfl rfl dX3_reckon_57 ?_
      refine nw_aload_n (pc := 60) h dX3_reckon_60 rfl 2 rfl ?_
      refine gf3_58 (pc := 61) h hc_x3 rfl dX3_reckon_61 ?_
      refine nw_iload (pc := 64) h dX3_reckon_64 3 rfl ?_
      obtain ⟨h_66, hf⟩ := hf
      refine nw_iald (pc := 66) (n := (nw_len (nw_rf x3 0))) h (nw_wt0_0 hc_x3) rfl h_66 dX3_reckon_66 ?_
      refine nw_iconst (pc := 67) (v := 1) h dX3_reckon_67 (by decide) ?_
      obtain ⟨h_68, hf⟩ := hf
      refine nw_zast (pc := 68) (n := 240) h rfl rfl h_68 (by decide) dX3_reckon_68 ?_
      refine nw_iinc (pc := 69) (v := (x5 + (1 : Int32))) (lv' := [(5, .int (x5 + (1 : Int32))), (0, .ref (P.2.1 19)), (2, .int x2), (3, .ref (P.2.1 x3))]) h dX3_reckon_69 (j := 3) rfl rfl (by decide) rfl ?_
      refine nw_goto (pc := 72) (tgt := 47) h dX3_reckon_72 (by decide) ?_
      refine nw_sub (lv' := [(0, .ref (P.2.1 19)), (2, .int x2), (3, .ref (P.2.1 x3)), (5, .int (x5 + (1 : Int32)))]) [1, 2, 3, 0] rfl ?_
      exact hH_47 _ _ _ _ hc_x3 (hf)
  have hL_47 :  ∀ (n : Nat) (σ : nw_ST) (x2 : Int32) (x3 : Nat) (x5 : Int32), nw_cl x3 = 0 → f3_reckon_47 K n σ x2 x3 x5 → nw_G P X 6 σ [(0, .ref (P.2.1 19)), (2, .int x2), (3, .ref (P.2.1 x3)), (5, .int x5)] 47 [] := by
    intro n
    induction n with
    | zero => intro σ x2 x3 x5 hc_x3 hf; exact False.elim hf
    | succ n ih => exact hB_47 _ ih
  have hB_22 : ∀ (H_22 : nw_ST → Int32 → Nat → Int32 → Prop) (hH_22 : (∀ (σ : nw_ST) (x2 : Int32) (x3 : Nat) (x5 : Int32), nw_cl x3 = 0 → H_22 σ x2 x3 x5 → nw_G P X 6 σ [(0, .ref (P.2.1 19)), (2, .int x2), (3, .ref (P.2.1 x3)), (5, .int x5)] 22 [])), ∀ (σ : nw_ST) (x2 : Int32) (x3 : Nat) (x5 : Int32), nw_cl x3 = 0 → b3_reckon_22 K H_22 σ x2 x3 x5 → nw_G P X 6 σ [(0, .ref (P.2.1 19)), (2, .int x2), (3, .ref (P.2.1 x3)), (5, .int x5)] 22 [] := by
    intro H_22 hH_22 σ x2 x3 x5 hc_x3 hf
    unfold b3_reckon_22 at hf
    refine nw_iload (pc := 22) h dX3_reckon_22 3 rfl ?_
    refine nw_sipush (pc := 24) (v := 240) h dX3_reckon_24 (by decide) ?_
    refine nw_icmp_ge (pc := 27) (tgt := 44) h dX3_reckon_27 (by decide) (fun c_27 => ?_) (fun c_27 => ?_)
    · have hf := hf.1 c_27
      refine nw_iconst (pc := 44) (v := 0) h dX3_reckon_44 (by decide) ?_
      refine nw_istore (pc := 45) (lv' := [(5, .int (0 : Int32)), (0, .ref (P.2.1 19)), (2, .int x2), (3, .ref (P.2.1 x3))]) h dX3_reckon_45 (by decide) rfl ?_
      obtain ⟨n_47, hf⟩ := hf
      refine nw_sub (lv' := [(0, .ref (P.2.1 19)), (2, .int x2), (3, .ref (P.2.1 x3)), (5, .int (0 : Int32))]) [1, 2, 3, 0] rfl ?_
      exact hL_47 n_47 _ _ _ _ hc_x3 hf
    · have hf := hf.2 c_27
      refine nw_aload_n (pc := 30) h dX3_reckon_30 rfl 0 rfl ?_
      refine gf3_18 (pc := 31) (r := 22) h rfl rfl dX3_reckon_31 ?_
      refine nw_iload (pc := 34) h dX3_reckon_34 3 rfl ?_
      refine nw_iconst (pc := 36) (v := 0) h dX3_reckon_36 (by decide) ?_
      obtain ⟨h_37, hf⟩ := hf
      refine nw_zast (pc := 37) (n := 240) h rfl rfl h_37 (by decide) dX3_reckon_37 ?_
      refine nw_iinc (pc := 38) (v := (x5 + (1 : Int32))) (lv' := [(5, .int (x5 + (1 : Int32))), (0, .ref (P.2.1 19)), (2, .int x2), (3, .ref (P.2.1 x3))]) h dX3_reckon_38 (j := 3) rfl rfl (by decide) rfl ?_
      refine nw_goto (pc := 41) (tgt := 22) h dX3_reckon_41 (by decide) ?_
      refine nw_sub (lv' := [(0, .ref (P.2.1 19)), (2, .int x2), (3, .ref (P.2.1 x3)), (5, .int (x5 + (1 : Int32)))]) [1, 2, 3, 0] rfl ?_
      exact hH_22 _ _ _ _ hc_x3 (hf)
  have hL_22 :  ∀ (n : Nat) (σ : nw_ST) (x2 : Int32) (x3 : Nat) (x5 : Int32), nw_cl x3 = 0 → f3_reckon_22 K n σ x2 x3 x5 → nw_G P X 6 σ [(0, .ref (P.2.1 19)), (2, .int x2), (3, .ref (P.2.1 x3)), (5, .int x5)] 22 [] := by
    intro n
    induction n with
    | zero => intro σ x2 x3 x5 hc_x3 hf; exact False.elim hf
    | succ n ih => exact hB_22 _ ih
  unfold f3_reckon at hf
  refine nw_aload_n (pc := 0) h dX3_reckon_0 rfl 0 rfl ?_
  refine nw_aload_n (pc := 1) h dX3_reckon_1 rfl 1 rfl ?_
  refine klX3_39 (pc := 2) h (by rw [hR]; decide) hc_q1 hf (Nat.le_of_ble_eq_true rfl) dX3_reckon_2 (fun s_2 hf => ?_)
  refine nw_aload_n (pc := 5) h dX3_reckon_5 rfl 0 rfl ?_
  refine nw_aload (pc := 6) h dX3_reckon_6 4 rfl ?_
  refine klX3_43 (pc := 8) h (by rw [hR]; decide) hc_q4 hf (Nat.le_of_ble_eq_true rfl) dX3_reckon_8 (fun s_8 hf => ?_)
  refine nw_aload_n (pc := 11) h dX3_reckon_11 rfl 0 rfl ?_
  refine gf3_28 (pc := 12) (r := 25) h rfl rfl dX3_reckon_12 ?_
  refine nw_iconst (pc := 15) (v := -1) h dX3_reckon_15 (by decide) ?_
  refine klX3_47 (pc := 16) h (by rw [hR]; decide) rfl hf (Nat.le_of_ble_eq_true rfl) dX3_reckon_16 (fun s_16 hf => ?_)
  refine nw_iconst (pc := 19) (v := 0) h dX3_reckon_19 (by decide) ?_
  refine nw_istore (pc := 20) (lv' := [(5, .int (0 : Int32)), (0, .ref (P.2.1 19)), (1, .ref (P.2.1 q1)), (2, .int a2), (3, .ref (P.2.1 q3)), (4, .ref (P.2.1 q4))]) h dX3_reckon_20 (by decide) rfl ?_
  obtain ⟨n_22, hf⟩ := hf
  refine nw_sub (lv' := [(0, .ref (P.2.1 19)), (2, .int a2), (3, .ref (P.2.1 q3)), (5, .int (0 : Int32))]) [1, 3, 4, 0] rfl ?_
  exact hL_22 n_22 _ _ _ _ hc_q3 hf
theorem gf4_80 {P : nw_PT} {X : nw_EX} {cc : ByteArray} {nL : Nat} {σ : nw_ST} {lv : List (Nat × Value)} {pc : Nat} {st : List Value} {q : Nat} (h : nw_ok P X cc RX4 nL) (hq : nw_cl q = 4) (hd : decode cc pc = .ok (.getfield 80, 3)) (k : nw_G P X nL σ lv (pc + 3) (.int (nw_gS σ q 12) :: st)) : nw_G P X nL σ lv pc (.ref (P.2.1 q) :: st) := by
  intro H locs ls h1 h2 h3
  exact va_get (D := P.1) (ci := 4) (C := RX4) (T := TX4) (N := 13) h.1.1 h.1.2.1 h.1.2.2.2.2 in_T4 h.1.2.2.2.1 h.2.1.1 h1 q (nw_at4 hq) rfl 12 (by decide) (h.1.2.2.2.2 _ nw_w34) (fun _ z => z) rfl hd (k H locs ls h1 h2 h3)
theorem gf4_55 {P : nw_PT} {X : nw_EX} {cc : ByteArray} {nL : Nat} {σ : nw_ST} {lv : List (Nat × Value)} {pc : Nat} {st : List Value} {q : Nat} (h : nw_ok P X cc RX4 nL) (hq : nw_cl q = 4) {r : Nat} (hr : nw_rf q 6 = r) (hd : decode cc pc = .ok (.getfield 55, 3)) (k : nw_G P X nL σ lv (pc + 3) (.ref (P.2.1 r) :: st)) : nw_G P X nL σ lv pc (.ref (P.2.1 q) :: st) := by
  subst hr; intro H locs ls h1 h2 h3
  exact va_get (D := P.1) (ci := 4) (C := RX4) (T := TX4) (N := 13) h.1.1 h.1.2.1 h.1.2.2.2.2 in_T4 h.1.2.2.2.1 h.2.1.1 h1 q (nw_at4 hq) rfl 6 (by decide) (h.1.2.2.2.2 _ nw_w110) (fun _ z => z) rfl hd (k H locs ls h1 h2 h3)
theorem klX4_373 {P : nw_PT} {X : nw_EX} {cc : ByteArray} {nL : Nat} {σ : nw_ST} {lv : List (Nat × Value)} {pc : Nat} {rest : List Value} {q1 : Nat} {a2 : Int32} {q3 : Nat} {q4 : Nat} (h : nw_ok P X cc RX4 nL) (hR : rm3_reckon.frames + 1 ≤ X.2.2.2.1.frames ∧ 8 + (6 + 11) + rm3_reckon.locals ≤ X.2.2.2.1.locals) (hc_q1 : nw_cl q1 = 2) (hc_q3 : nw_cl q3 = 0) (hc_q4 : nw_cl q4 = 0) {K : nw_ST → Prop} (hf : f3_reckon K σ q1 a2 q3 q4) (hst : (rest.map fun v => v.category).sum ≤ 8) (hd : decode cc pc = .ok (.invokevirtual 373, 3)) (k : ∀ (s2 : nw_ST), K s2 → nw_G P X nL s2 lv (pc + 3) rest) : nw_G P X nL σ lv pc (.ref (P.2.1 q4) :: .ref (P.2.1 q3) :: .int a2 :: .ref (P.2.1 q1) :: .ref (P.2.1 19) :: rest) :=
  nw_callV (As := [.ref (P.2.1 q1), .int a2, .ref (P.2.1 q3), .ref (P.2.1 q4)]) (rest := rest) (C := RX3) (ci := 3) h (ct3_reckon _ P h.2.2 σ q1 a2 q3 q4 hc_q1 hc_q3 hc_q4 K hf) (nw_goodV nw_w111 nw_w112 nw_w113 nw_w98 nw_w114) yd3_reckon rfl hR ⟨rfl, rfl⟩ rfl (by decide) rfl rfl hst rfl hd (fun v s2 z => by obtain ⟨rfl, z⟩ := z; exact k s2 z)
def f4_waves_35 (K : Nat → nw_ST → Prop) (σ : nw_ST) : Prop := (K 19 σ)
def f4_waves (K : Nat → nw_ST → Prop) (σ : nw_ST)  : Prop := ((((nw_gS σ 0 12) = 0) → (f3_reckon (fun (s_27 : nw_ST) => (f4_waves_35 K (nw_sS s_27 0 12 (1 : Int32)))) σ 1 (nw_gS σ 0 10) 10 7)) ∧ (¬ ((nw_gS σ 0 12) = 0) → (f4_waves_35 K σ)))
def rm4_waves : Room := { frames := 3, cells := 0, slots := 0, locals := 71 }
theorem yd4_waves : yX4_waves.cls = RX4 ∧ yX4_waves.cls ≠ "java/lang/invoke/MethodHandle" ∧ yX4_waves.cls ≠ "java/lang/invoke/VarHandle" ∧ (parseMethodDescriptor yX4_waves.desc).map (fun d => d.parameters.length) = some 0 := by decide +kernel
set_option maxHeartbeats 4000000 in
set_option maxRecDepth 100000 in
theorem ct4_waves (l : Launch) (P : nw_PT) (hD : nw_D P) (σ : nw_ST)   (K : Nat → nw_ST → Prop) (hf : f4_waves K σ ) : nw_MT l yX4_waves cX4_waves 1 (some (.object "NumberedWaves$Waves")) rm4_waves P [.ref (P.2.1 0)] σ (nw_Kr P 3 K) := by
  refine nw_enter (by decide) (by first | decide | exact Nat.le_of_ble_eq_true rfl) hD ?_
  intro X hl h he hR
  subst hl
  have h : nw_ok P X cX4_waves RX4 1 := h
  show nw_G P X 1 σ [(0, .ref (P.2.1 0))] 0 []
  have hL_35 :  ∀ (σ : nw_ST), f4_waves_35 K σ → nw_G P X 1 σ [(0, .ref (P.2.1 0))] 35 [] := by
    intro σ hf
    unfold f4_waves_35 at hf
    refine nw_aload_n (pc := 35) h dX4_waves_35 rfl 0 rfl ?_
    refine gf4_55 (pc := 36) (r := 19) h rfl rfl dX4_waves_36 ?_
    exact nw_aret (pc := 39) h he dX4_waves_39 ⟨_, rfl, rfl, hf⟩
  unfold f4_waves at hf
  refine nw_aload_n (pc := 0) h dX4_waves_0 rfl 0 rfl ?_
  refine gf4_80 (pc := 1) h rfl dX4_waves_1 ?_
  refine nw_if_ne (pc := 4) (tgt := 35) h dX4_waves_4 (by decide) (fun c_4 => ?_) (fun c_4 => ?_)
  · have hf := hf.2 c_4
    exact hL_35 _ (hf)
  · have hf := hf.1 c_4
    refine nw_aload_n (pc := 7) h dX4_waves_7 rfl 0 rfl ?_
    refine gf4_55 (pc := 8) (r := 19) h rfl rfl dX4_waves_8 ?_
    refine nw_aload_n (pc := 11) h dX4_waves_11 rfl 0 rfl ?_
    refine gf4_21 (pc := 12) (r := 1) h rfl rfl dX4_waves_12 ?_
    refine nw_aload_n (pc := 15) h dX4_waves_15 rfl 0 rfl ?_
    refine gf4_73 (pc := 16) h rfl dX4_waves_16 ?_
    refine nw_aload_n (pc := 19) h dX4_waves_19 rfl 0 rfl ?_
    refine gf4_43 (pc := 20) (r := 10) h rfl rfl dX4_waves_20 ?_
    refine nw_aload_n (pc := 23) h dX4_waves_23 rfl 0 rfl ?_
    refine gf4_39 (pc := 24) (r := 7) h rfl rfl dX4_waves_24 ?_
    refine klX4_373 (pc := 27) h (by rw [hR]; decide) rfl rfl rfl hf (Nat.le_of_ble_eq_true rfl) dX4_waves_27 (fun s_27 hf => ?_)
    refine nw_aload_n (pc := 30) h dX4_waves_30 rfl 0 rfl ?_
    refine nw_iconst (pc := 31) (v := 1) h dX4_waves_31 (by decide) ?_
    refine pf4_80 (pc := 32) h rfl (Or.inr rfl) dX4_waves_32 ?_
    exact hL_35 _ (hf)
theorem klX4_140 {P : nw_PT} {X : nw_EX} {cc : ByteArray} {nL : Nat} {σ : nw_ST} {lv : List (Nat × Value)} {pc : Nat} {rest : List Value}  (h : nw_ok P X cc RX4 nL) (hR : rm4_waves.frames + 1 ≤ X.2.2.2.1.frames ∧ 8 + (1 + 11) + rm4_waves.locals ≤ X.2.2.2.1.locals)  {K : Nat → nw_ST → Prop} (hf : f4_waves K σ) (hst : (rest.map fun v => v.category).sum ≤ 8) (hd : decode cc pc = .ok (.invokevirtual 140, 3)) (k : ∀ (r : Nat) (s2 : nw_ST), nw_cl r = 3 → K r s2 → nw_G P X nL s2 lv (pc + 3) (.ref (P.2.1 r) :: rest)) : nw_G P X nL σ lv pc (.ref (P.2.1 0) :: rest) :=
  nw_callV (As := []) (rest := rest) (C := RX4) (ci := 4) h (ct4_waves _ P h.2.2 σ  K hf) (nw_goodV nw_w115 nw_w116 nw_w117 nw_w24 nw_w118) yd4_waves rfl hR ⟨rfl, rfl⟩ rfl (by decide) rfl rfl hst rfl hd (fun v s2 z => by obtain ⟨r, rfl, z1, z⟩ := z; exact k r s2 z1 z)
theorem gf4_144 {P : nw_PT} {X : nw_EX} {cc : ByteArray} {nL : Nat} {σ : nw_ST} {lv : List (Nat × Value)} {pc : Nat} {st : List Value} {q : Nat} (h : nw_ok P X cc RX4 nL) (hq : nw_cl q = 3) {r : Nat} (hr : nw_rf q 0 = r) (hd : decode cc pc = .ok (.getfield 144, 3)) (k : nw_G P X nL σ lv (pc + 3) (.ref (P.2.1 r) :: st)) : nw_G P X nL σ lv pc (.ref (P.2.1 q) :: st) := by
  subst hr; intro H locs ls h1 h2 h3
  exact va_getN (D := P.1) (ci := 3) (C := RX3) (T := TX3) (N := 7) h.1.1 h.1.2.1 h.1.2.2.2.2 in_T3 h.1.2.2.2.1 h.2.1.1 h1 q (nw_at3 hq) rfl 0 (by decide) (va_Nw.use rfl (h.2.1.2.1 ("NumberedWaves", 144, "NumberedWaves$Waves", "heights", "[I", "NumberedWaves") (by decide +kernel))) (fun _ z => z) rfl hd (k H locs ls h1 h2 h3)
def f4_high_21 (K : Int32 → nw_ST → Prop) (σ : nw_ST) (y0 : Int32) : Prop := (K y0 σ)
def f4_high (K : Int32 → nw_ST → Prop) (σ : nw_ST) (a1 : Int32) : Prop := ((((v4_isTime a1) = 0) → (f4_high_21 K σ (-2 : Int32))) ∧ (¬ ((v4_isTime a1) = 0) → (f4_waves (fun (r_8 : Nat) (s_8 : nw_ST) => ((vp_in a1 240) ∧ (f4_high_21 K s_8 (nw_gA s_8 20 a1.toNatClampNeg)))) σ)))
def rm4_high : Room := { frames := 4, cells := 0, slots := 0, locals := 91 }
theorem yd4_high : yX4_high.cls = RX4 ∧ yX4_high.cls ≠ "java/lang/invoke/MethodHandle" ∧ yX4_high.cls ≠ "java/lang/invoke/VarHandle" ∧ (parseMethodDescriptor yX4_high.desc).map (fun d => d.parameters.length) = some 1 := by decide +kernel
set_option maxHeartbeats 4000000 in
set_option maxRecDepth 100000 in
theorem ct4_high (l : Launch) (P : nw_PT) (hD : nw_D P) (σ : nw_ST) (a1 : Int32)  (K : Int32 → nw_ST → Prop) (hf : f4_high K σ a1) : nw_MT l yX4_high cX4_high 2 (some .int) rm4_high P [.ref (P.2.1 0), .int a1] σ (nw_Ki K) := by
  refine nw_enter (by decide) (by first | decide | exact Nat.le_of_ble_eq_true rfl) hD ?_
  intro X hl h he hR
  subst hl
  have h : nw_ok P X cX4_high RX4 2 := h
  show nw_G P X 2 σ [(0, .ref (P.2.1 0)), (1, .int a1)] 0 []
  have hL_21 :  ∀ (σ : nw_ST) (y0 : Int32), f4_high_21 K σ y0 → nw_G P X 2 σ [] 21 [.int y0] := by
    intro σ y0 hf
    unfold f4_high_21 at hf
    exact nw_iret (pc := 21) h he dX4_high_21 ⟨_, rfl, hf⟩
  unfold f4_high at hf
  refine nw_iload_n (pc := 0) h dX4_high_0 rfl 1 rfl ?_
  refine klX4_117 (pc := 1) h (by rw [hR]; decide) (Nat.le_of_ble_eq_true rfl) dX4_high_1 ?_
  refine nw_if_eq (pc := 4) (tgt := 19) h dX4_high_4 (by decide) (fun c_4 => ?_) (fun c_4 => ?_)
  · have hf := hf.1 c_4
    refine nw_bipush (pc := 19) (v := -2) h dX4_high_19 (by decide) ?_
    refine nw_sub (lv' := []) [] rfl ?_
    exact hL_21 _ _ (hf)
  · have hf := hf.2 c_4
    refine nw_aload_n (pc := 7) h dX4_high_7 rfl 0 rfl ?_
    refine klX4_140 (pc := 8) h (by rw [hR]; decide) hf (Nat.le_of_ble_eq_true rfl) dX4_high_8 (fun r_8 s_8 hcr hf => ?_)
    obtain rfl := nw_q3 hcr
    refine gf4_144 (pc := 11) (r := 20) h rfl rfl dX4_high_11 ?_
    refine nw_iload_n (pc := 14) h dX4_high_14 rfl 1 rfl ?_
    obtain ⟨h_15, hf⟩ := hf
    refine nw_iald (pc := 15) (n := 240) h rfl rfl h_15 dX4_high_15 ?_
    refine nw_goto (pc := 16) (tgt := 21) h dX4_high_16 (by decide) ?_
    refine nw_sub (lv' := []) [] rfl ?_
    exact hL_21 _ _ (hf)
def v3_numberAt (σ : nw_ST) (a1 : Int32) : Int32 := (nw_gA σ 24 (nw_gA σ 23 a1.toNatClampNeg).toNatClampNeg)
def o3_numberAt (σ : nw_ST) (a1 : Int32) : Prop := ((vp_in a1 240) ∧ (vp_in (nw_gA σ 23 a1.toNatClampNeg) 241))
def rm3_numberAt : Room := { frames := 0, cells := 0, slots := 0, locals := 0 }
theorem yd3_numberAt : yX3_numberAt.cls = RX3 ∧ yX3_numberAt.cls ≠ "java/lang/invoke/MethodHandle" ∧ yX3_numberAt.cls ≠ "java/lang/invoke/VarHandle" ∧ (parseMethodDescriptor yX3_numberAt.desc).map (fun d => d.parameters.length) = some 1 := by decide +kernel
set_option maxHeartbeats 4000000 in
set_option maxRecDepth 100000 in
theorem ct3_numberAt (l : Launch) (P : nw_PT) (hD : nw_D P) (σ : nw_ST) (a1 : Int32)  (ho : o3_numberAt σ a1) : nw_MT l yX3_numberAt cX3_numberAt 2 (some .int) rm3_numberAt P [.ref (P.2.1 19), .int a1] σ (nw_Ki (fun r s2 => r = (v3_numberAt σ a1) ∧ s2 = σ)) := by
  refine nw_enter (by decide) (by first | decide | exact Nat.le_of_ble_eq_true rfl) hD ?_
  intro X hl h he hR
  subst hl
  have h : nw_ok P X cX3_numberAt RX3 2 := h
  show nw_G P X 2 σ [(0, .ref (P.2.1 19)), (1, .int a1)] 0 []
  unfold o3_numberAt at ho
  refine nw_aload_n (pc := 0) h dX3_numberAt_0 rfl 0 rfl ?_
  refine gf3_25 (pc := 1) (r := 24) h rfl rfl dX3_numberAt_1 ?_
  refine nw_aload_n (pc := 4) h dX3_numberAt_4 rfl 0 rfl ?_
  refine gf3_22 (pc := 5) (r := 23) h rfl rfl dX3_numberAt_5 ?_
  refine nw_iload_n (pc := 8) h dX3_numberAt_8 rfl 1 rfl ?_
  obtain ⟨h_9, ho⟩ := ho
  refine nw_iald (pc := 9) (n := 240) h rfl rfl h_9 dX3_numberAt_9 ?_
  have h_10 := ho
  refine nw_iald (pc := 10) (n := 241) h rfl rfl h_10 dX3_numberAt_10 ?_
  exact nw_iret (pc := 11) h he dX3_numberAt_11 ⟨_, rfl, rfl, rfl⟩
def v3_isDouble (σ : nw_ST) (a1 : Int32) : Int32 := (if ((nw_gA σ 21 a1.toNatClampNeg) < (2 : Int32)) then (0 : Int32) else (1 : Int32))
def o3_isDouble (σ : nw_ST) (a1 : Int32) : Prop := (vp_in a1 240)
theorem z3_isDouble (σ : nw_ST) (a1 : Int32) : nw_isZ (v3_isDouble σ a1) := by
  unfold v3_isDouble; repeat' split
  all_goals first | exact (Or.inl rfl) | exact (Or.inr rfl)
def rm3_isDouble : Room := { frames := 0, cells := 0, slots := 0, locals := 0 }
theorem yd3_isDouble : yX3_isDouble.cls = RX3 ∧ yX3_isDouble.cls ≠ "java/lang/invoke/MethodHandle" ∧ yX3_isDouble.cls ≠ "java/lang/invoke/VarHandle" ∧ (parseMethodDescriptor yX3_isDouble.desc).map (fun d => d.parameters.length) = some 1 := by decide +kernel
set_option maxHeartbeats 4000000 in
set_option maxRecDepth 100000 in
theorem ct3_isDouble (l : Launch) (P : nw_PT) (hD : nw_D P) (σ : nw_ST) (a1 : Int32)  (ho : o3_isDouble σ a1) : nw_MT l yX3_isDouble cX3_isDouble 2 (some .boolean) rm3_isDouble P [.ref (P.2.1 19), .int a1] σ (nw_Ki (fun r s2 => r = (v3_isDouble σ a1) ∧ s2 = σ)) := by
  refine nw_enter (by decide) (by first | decide | exact Nat.le_of_ble_eq_true rfl) hD ?_
  intro X hl h he hR
  subst hl
  have h : nw_ok P X cX3_isDouble RX3 2 := h
  show nw_G P X 2 σ [(0, .ref (P.2.1 19)), (1, .int a1)] 0 []
  unfold o3_isDouble at ho
  refine nw_aload_n (pc := 0) h dX3_isDouble_0 rfl 0 rfl ?_
  refine gf3_15 (pc := 1) (r := 21) h rfl rfl dX3_isDouble_1 ?_
  refine nw_iload_n (pc := 4) h dX3_isDouble_4 rfl 1 rfl ?_
  have h_5 := ho
  refine nw_iald (pc := 5) (n := 240) h rfl rfl h_5 dX3_isDouble_5 ?_
  refine nw_iconst (pc := 6) (v := 2) h dX3_isDouble_6 (by decide) ?_
  refine nw_icmp_lt (pc := 7) (tgt := 14) h dX3_isDouble_7 (by decide) (fun c_7 => ?_) (fun c_7 => ?_)
  · skip
    refine nw_iconst (pc := 14) (v := 0) h dX3_isDouble_14 (by decide) ?_
    exact nw_zret (pc := 15) h he dX3_isDouble_15 (Or.inl rfl) ⟨_, rfl, (by unfold v3_isDouble; rw [if_pos c_7]), rfl⟩
  · skip
    refine nw_iconst (pc := 10) (v := 1) h dX3_isDouble_10 (by decide) ?_
    refine nw_goto (pc := 11) (tgt := 15) h dX3_isDouble_11 (by decide) ?_
    exact nw_zret (pc := 15) h he dX3_isDouble_15 (Or.inr rfl) ⟨_, rfl, (by unfold v3_isDouble; rw [if_neg c_7]), rfl⟩
theorem klX4_153 {P : nw_PT} {X : nw_EX} {cc : ByteArray} {nL : Nat} {σ : nw_ST} {lv : List (Nat × Value)} {pc : Nat} {rest : List Value} {a1 : Int32} (h : nw_ok P X cc RX4 nL) (hR : rm3_isDouble.frames + 1 ≤ X.2.2.2.1.frames ∧ 8 + (2 + 11) + rm3_isDouble.locals ≤ X.2.2.2.1.locals)  (ho : o3_isDouble σ a1) (hst : (rest.map fun v => v.category).sum ≤ 8) (hd : decode cc pc = .ok (.invokevirtual 153, 3)) (k : nw_G P X nL σ lv (pc + 3) (.int (v3_isDouble σ a1) :: rest)) : nw_G P X nL σ lv pc (.int a1 :: .ref (P.2.1 19) :: rest) :=
  nw_callV (As := [.int a1]) (rest := rest) (C := RX3) (ci := 3) h (ct3_isDouble _ P h.2.2 σ a1 ho) (nw_goodV nw_w119 nw_w120 nw_w121 nw_w98 nw_w122) yd3_isDouble rfl hR ⟨rfl, rfl⟩ rfl (by decide) rfl rfl hst rfl hd (fun v s2 z => by obtain ⟨r, rfl, rfl, rfl⟩ := z; exact k)
theorem klX4_150 {P : nw_PT} {X : nw_EX} {cc : ByteArray} {nL : Nat} {σ : nw_ST} {lv : List (Nat × Value)} {pc : Nat} {rest : List Value} {a1 : Int32} (h : nw_ok P X cc RX4 nL) (hR : rm3_numberAt.frames + 1 ≤ X.2.2.2.1.frames ∧ 8 + (2 + 11) + rm3_numberAt.locals ≤ X.2.2.2.1.locals)  (ho : o3_numberAt σ a1) (hst : (rest.map fun v => v.category).sum ≤ 8) (hd : decode cc pc = .ok (.invokevirtual 150, 3)) (k : nw_G P X nL σ lv (pc + 3) (.int (v3_numberAt σ a1) :: rest)) : nw_G P X nL σ lv pc (.int a1 :: .ref (P.2.1 19) :: rest) :=
  nw_callV (As := [.int a1]) (rest := rest) (C := RX3) (ci := 3) h (ct3_numberAt _ P h.2.2 σ a1 ho) (nw_goodV nw_w123 nw_w124 nw_w125 nw_w98 nw_w126) yd3_numberAt rfl hR ⟨rfl, rfl⟩ rfl (by decide) rfl rfl hst rfl hd (fun v s2 z => by obtain ⟨r, rfl, rfl, rfl⟩ := z; exact k)
theorem klX4_147 {P : nw_PT} {X : nw_EX} {cc : ByteArray} {nL : Nat} {σ : nw_ST} {lv : List (Nat × Value)} {pc : Nat} {rest : List Value} {a1 : Int32} {a2 : Int32} (h : nw_ok P X cc RX4 nL) (hR : rm4_breaksAt.frames + 1 ≤ X.2.2.2.1.frames ∧ 8 + (2 + 11) + rm4_breaksAt.locals ≤ X.2.2.2.1.locals)  (hst : (rest.map fun v => v.category).sum ≤ 8) (hd : decode cc pc = .ok (.invokestatic 147, 3)) (k : nw_G P X nL σ lv (pc + 3) (.int (v4_breaksAt a1 a2) :: rest)) : nw_G P X nL σ lv pc (.int a2 :: .int a1 :: rest) :=
  nw_callS (As := [.int a1, .int a2]) (rest := rest) h (ct4_breaksAt _ P h.2.2 σ a1 a2) (nw_goodS nw_w127 nw_w108 nw_w24 nw_w107) yd4_breaksAt.2 rfl hR ⟨rfl, rfl⟩ hst rfl hd (fun v s2 z => by obtain ⟨r, rfl, rfl, rfl⟩ := z; exact k)
def f4_wave_15 (K : Int32 → nw_ST → Prop) (σ : nw_ST) : Prop := (K (-2 : Int32) σ)
def f4_wave_77 (K : Int32 → nw_ST → Prop) (σ : nw_ST) (y0 : Int32) : Prop := (K y0 σ)
def f4_wave_46 (K : Int32 → nw_ST → Prop) (σ : nw_ST) (y0 : Int32) : Prop := (K y0 σ)
def f4_wave (K : Int32 → nw_ST → Prop) (σ : nw_ST) (a1 : Int32) (a2 : Int32) : Prop := ((((v4_isTime a1) = 0) → (f4_wave_15 K σ)) ∧ (¬ ((v4_isTime a1) = 0) → ((((v4_isBelow a2 (3 : Int32)) = 0) → (f4_wave_15 K σ)) ∧ (¬ ((v4_isBelow a2 (3 : Int32)) = 0) → (((a2 = 0) → (f4_waves (fun (r_23 : Nat) (s_23 : nw_ST) => ((vp_in a1 240) ∧ (f4_wave_46 K s_23 (if ((v4_breaksAt (nw_gA s_23 20 a1.toNatClampNeg) (nw_gS s_23 0 10)) = 0) then (0 : Int32) else (1 : Int32))))) σ)) ∧ (¬ (a2 = 0) → (((a2 = (1 : Int32)) → (f4_waves (fun (r_53 : Nat) (s_53 : nw_ST) => ((o3_numberAt s_53 a1) ∧ (K (v3_numberAt s_53 a1) s_53))) σ)) ∧ (¬ (a2 = (1 : Int32)) → (f4_waves (fun (r_62 : Nat) (s_62 : nw_ST) => ((o3_isDouble s_62 a1) ∧ (f4_wave_77 K s_62 (if ((v3_isDouble s_62 a1) = 0) then (0 : Int32) else (1 : Int32))))) σ)))))))))
def rm4_wave : Room := { frames := 4, cells := 0, slots := 0, locals := 91 }
theorem yd4_wave : yX4_wave.cls = RX4 ∧ yX4_wave.cls ≠ "java/lang/invoke/MethodHandle" ∧ yX4_wave.cls ≠ "java/lang/invoke/VarHandle" ∧ (parseMethodDescriptor yX4_wave.desc).map (fun d => d.parameters.length) = some 2 := by decide +kernel
set_option maxHeartbeats 4000000 in
set_option maxRecDepth 100000 in
theorem ct4_wave (l : Launch) (P : nw_PT) (hD : nw_D P) (σ : nw_ST) (a1 : Int32) (a2 : Int32)  (K : Int32 → nw_ST → Prop) (hf : f4_wave K σ a1 a2) : nw_MT l yX4_wave cX4_wave 3 (some .int) rm4_wave P [.ref (P.2.1 0), .int a1, .int a2] σ (nw_Ki K) := by
  refine nw_enter (by decide) (by first | decide | exact Nat.le_of_ble_eq_true rfl) hD ?_
  intro X hl h he hR
  subst hl
  have h : nw_ok P X cX4_wave RX4 3 := h
  show nw_G P X 3 σ [(0, .ref (P.2.1 0)), (1, .int a1), (2, .int a2)] 0 []
  have hL_15 :  ∀ (σ : nw_ST), f4_wave_15 K σ → nw_G P X 3 σ [] 15 [] := by
    intro σ hf
    unfold f4_wave_15 at hf
    refine nw_bipush (pc := 15) (v := -2) h dX4_wave_15 (by decide) ?_
    exact nw_iret (pc := 17) h he dX4_wave_17 ⟨_, rfl, hf⟩
  have hL_77 :  ∀ (σ : nw_ST) (y0 : Int32), f4_wave_77 K σ y0 → nw_G P X 3 σ [] 77 [.int y0] := by
    intro σ y0 hf
    unfold f4_wave_77 at hf
    exact nw_iret (pc := 77) h he dX4_wave_77 ⟨_, rfl, hf⟩
  have hL_46 :  ∀ (σ : nw_ST) (y0 : Int32), f4_wave_46 K σ y0 → nw_G P X 3 σ [] 46 [.int y0] := by
    intro σ y0 hf
    unfold f4_wave_46 at hf
    exact nw_iret (pc := 46) h he dX4_wave_46 ⟨_, rfl, hf⟩
  unfold f4_wave at hf
  refine nw_iload_n (pc := 0) h dX4_wave_0 rfl 1 rfl ?_
  refine klX4_117 (pc := 1) h (by rw [hR]; decide) (Nat.le_of_ble_eq_true rfl) dX4_wave_1 ?_
  refine nw_if_eq (pc := 4) (tgt := 15) h dX4_wave_4 (by decide) (fun c_4 => ?_) (fun c_4 => ?_)
  · have hf := hf.1 c_4
    refine nw_sub (lv' := []) [] rfl ?_
    exact hL_15 _ (hf)
  · have hf := hf.2 c_4
    refine nw_iload_n (pc := 7) h dX4_wave_7 rfl 2 rfl ?_
    refine nw_iconst (pc := 8) (v := 3) h dX4_wave_8 (by decide) ?_
    refine klX4_84 (pc := 9) h (by rw [hR]; decide) (Nat.le_of_ble_eq_true rfl) dX4_wave_9 ?_
    refine nw_if_ne (pc := 12) (tgt := 18) h dX4_wave_12 (by decide) (fun c_12 => ?_) (fun c_12 => ?_)
    · have hf := hf.2 c_12
      refine nw_iload_n (pc := 18) h dX4_wave_18 rfl 2 rfl ?_
      refine nw_if_ne (pc := 19) (tgt := 47) h dX4_wave_19 (by decide) (fun c_19 => ?_) (fun c_19 => ?_)
      · have hf := hf.2 c_19
        refine nw_iload_n (pc := 47) h dX4_wave_47 rfl 2 rfl ?_
        refine nw_iconst (pc := 48) (v := 1) h dX4_wave_48 (by decide) ?_
        refine nw_icmp_ne (pc := 49) (tgt := 61) h dX4_wave_49 (by decide) (fun c_49 => ?_) (fun c_49 => ?_)
        · have hf := hf.2 c_49
          refine nw_aload_n (pc := 61) h dX4_wave_61 rfl 0 rfl ?_
          refine klX4_140 (pc := 62) h (by rw [hR]; decide) hf (Nat.le_of_ble_eq_true rfl) dX4_wave_62 (fun r_62 s_62 hcr hf => ?_)
          obtain rfl := nw_q3 hcr
          refine nw_iload_n (pc := 65) h dX4_wave_65 rfl 1 rfl ?_
          obtain ⟨h_66, hf⟩ := hf
          refine klX4_153 (pc := 66) h (by rw [hR]; decide) h_66 (Nat.le_of_ble_eq_true rfl) dX4_wave_66 ?_
          refine nw_if_eq (pc := 69) (tgt := 76) h dX4_wave_69 (by decide) (fun c_69 => ?_) (fun c_69 => ?_)
          · skip
            refine nw_iconst (pc := 76) (v := 0) h dX4_wave_76 (by decide) ?_
            simp only [if_pos c_69] at hf
            refine nw_sub (lv' := []) [] rfl ?_
            exact hL_77 _ _ hf
          · skip
            refine nw_iconst (pc := 72) (v := 1) h dX4_wave_72 (by decide) ?_
            refine nw_goto (pc := 73) (tgt := 77) h dX4_wave_73 (by decide) ?_
            simp only [if_neg c_69] at hf
            refine nw_sub (lv' := []) [] rfl ?_
            exact hL_77 _ _ hf
        · have hf := hf.1 c_49
          refine nw_aload_n (pc := 52) h dX4_wave_52 rfl 0 rfl ?_
          refine klX4_140 (pc := 53) h (by rw [hR]; decide) hf (Nat.le_of_ble_eq_true rfl) dX4_wave_53 (fun r_53 s_53 hcr hf => ?_)
          obtain rfl := nw_q3 hcr
          refine nw_iload_n (pc := 56) h dX4_wave_56 rfl 1 rfl ?_
          obtain ⟨h_57, hf⟩ := hf
          refine klX4_150 (pc := 57) h (by rw [hR]; decide) h_57 (Nat.le_of_ble_eq_true rfl) dX4_wave_57 ?_
          exact nw_iret (pc := 60) h he dX4_wave_60 ⟨_, rfl, hf⟩
      · have hf := hf.1 c_19
        refine nw_aload_n (pc := 22) h dX4_wave_22 rfl 0 rfl ?_
        refine klX4_140 (pc := 23) h (by rw [hR]; decide) hf (Nat.le_of_ble_eq_true rfl) dX4_wave_23 (fun r_23 s_23 hcr hf => ?_)
        obtain rfl := nw_q3 hcr
        refine gf4_144 (pc := 26) (r := 20) h rfl rfl dX4_wave_26 ?_
        refine nw_iload_n (pc := 29) h dX4_wave_29 rfl 1 rfl ?_
        obtain ⟨h_30, hf⟩ := hf
        refine nw_iald (pc := 30) (n := 240) h rfl rfl h_30 dX4_wave_30 ?_
        refine nw_aload_n (pc := 31) h dX4_wave_31 rfl 0 rfl ?_
        refine gf4_73 (pc := 32) h rfl dX4_wave_32 ?_
        refine klX4_147 (pc := 35) h (by rw [hR]; decide) (Nat.le_of_ble_eq_true rfl) dX4_wave_35 ?_
        refine nw_if_eq (pc := 38) (tgt := 45) h dX4_wave_38 (by decide) (fun c_38 => ?_) (fun c_38 => ?_)
        · skip
          refine nw_iconst (pc := 45) (v := 0) h dX4_wave_45 (by decide) ?_
          simp only [if_pos c_38] at hf
          refine nw_sub (lv' := []) [] rfl ?_
          exact hL_46 _ _ hf
        · skip
          refine nw_iconst (pc := 41) (v := 1) h dX4_wave_41 (by decide) ?_
          refine nw_goto (pc := 42) (tgt := 46) h dX4_wave_42 (by decide) ?_
          simp only [if_neg c_38] at hf
          refine nw_sub (lv' := []) [] rfl ?_
          exact hL_46 _ _ hf
    · have hf := hf.1 c_12
      refine nw_sub (lv' := []) [] rfl ?_
      exact hL_15 _ (hf)
theorem gf4_159 {P : nw_PT} {X : nw_EX} {cc : ByteArray} {nL : Nat} {σ : nw_ST} {lv : List (Nat × Value)} {pc : Nat} {st : List Value} {q : Nat} (h : nw_ok P X cc RX4 nL) (hq : nw_cl q = 3) {r : Nat} (hr : nw_rf q 5 = r) (hd : decode cc pc = .ok (.getfield 159, 3)) (k : nw_G P X nL σ lv (pc + 3) (.ref (P.2.1 r) :: st)) : nw_G P X nL σ lv pc (.ref (P.2.1 q) :: st) := by
  subst hr; intro H locs ls h1 h2 h3
  exact va_getN (D := P.1) (ci := 3) (C := RX3) (T := TX3) (N := 7) h.1.1 h.1.2.1 h.1.2.2.2.2 in_T3 h.1.2.2.2.1 h.2.1.1 h1 q (nw_at3 hq) rfl 5 (by decide) (va_Nw.use rfl (h.2.1.2.1 ("NumberedWaves", 159, "NumberedWaves$Waves", "times", "[I", "NumberedWaves") (by decide +kernel))) (fun _ z => z) rfl hd (k H locs ls h1 h2 h3)
def f4_when_21 (K : Int32 → nw_ST → Prop) (σ : nw_ST) (y0 : Int32) : Prop := (K y0 σ)
def f4_when (K : Int32 → nw_ST → Prop) (σ : nw_ST) (a1 : Int32) : Prop := ((((v4_isNumber a1) = 0) → (f4_when_21 K σ (-2 : Int32))) ∧ (¬ ((v4_isNumber a1) = 0) → (f4_waves (fun (r_8 : Nat) (s_8 : nw_ST) => ((vp_in a1 401) ∧ (f4_when_21 K s_8 (nw_gA s_8 25 a1.toNatClampNeg)))) σ)))
def rm4_when : Room := { frames := 4, cells := 0, slots := 0, locals := 91 }
theorem yd4_when : yX4_when.cls = RX4 ∧ yX4_when.cls ≠ "java/lang/invoke/MethodHandle" ∧ yX4_when.cls ≠ "java/lang/invoke/VarHandle" ∧ (parseMethodDescriptor yX4_when.desc).map (fun d => d.parameters.length) = some 1 := by decide +kernel
set_option maxHeartbeats 4000000 in
set_option maxRecDepth 100000 in
theorem ct4_when (l : Launch) (P : nw_PT) (hD : nw_D P) (σ : nw_ST) (a1 : Int32)  (K : Int32 → nw_ST → Prop) (hf : f4_when K σ a1) : nw_MT l yX4_when cX4_when 2 (some .int) rm4_when P [.ref (P.2.1 0), .int a1] σ (nw_Ki K) := by
  refine nw_enter (by decide) (by first | decide | exact Nat.le_of_ble_eq_true rfl) hD ?_
  intro X hl h he hR
  subst hl
  have h : nw_ok P X cX4_when RX4 2 := h
  show nw_G P X 2 σ [(0, .ref (P.2.1 0)), (1, .int a1)] 0 []
  have hL_21 :  ∀ (σ : nw_ST) (y0 : Int32), f4_when_21 K σ y0 → nw_G P X 2 σ [] 21 [.int y0] := by
    intro σ y0 hf
    unfold f4_when_21 at hf
    exact nw_iret (pc := 21) h he dX4_when_21 ⟨_, rfl, hf⟩
  unfold f4_when at hf
  refine nw_iload_n (pc := 0) h dX4_when_0 rfl 1 rfl ?_
  refine klX4_156 (pc := 1) h (by rw [hR]; decide) (Nat.le_of_ble_eq_true rfl) dX4_when_1 ?_
  refine nw_if_eq (pc := 4) (tgt := 19) h dX4_when_4 (by decide) (fun c_4 => ?_) (fun c_4 => ?_)
  · have hf := hf.1 c_4
    refine nw_bipush (pc := 19) (v := -2) h dX4_when_19 (by decide) ?_
    refine nw_sub (lv' := []) [] rfl ?_
    exact hL_21 _ _ (hf)
  · have hf := hf.2 c_4
    refine nw_aload_n (pc := 7) h dX4_when_7 rfl 0 rfl ?_
    refine klX4_140 (pc := 8) h (by rw [hR]; decide) hf (Nat.le_of_ble_eq_true rfl) dX4_when_8 (fun r_8 s_8 hcr hf => ?_)
    obtain rfl := nw_q3 hcr
    refine gf4_159 (pc := 11) (r := 25) h rfl rfl dX4_when_11 ?_
    refine nw_iload_n (pc := 14) h dX4_when_14 rfl 1 rfl ?_
    obtain ⟨h_15, hf⟩ := hf
    refine nw_iald (pc := 15) (n := 401) h rfl rfl h_15 dX4_when_15 ?_
    refine nw_goto (pc := 16) (tgt := 21) h dX4_when_16 (by decide) ?_
    refine nw_sub (lv' := []) [] rfl ?_
    exact hL_21 _ _ (hf)
theorem gf4_162 {P : nw_PT} {X : nw_EX} {cc : ByteArray} {nL : Nat} {σ : nw_ST} {lv : List (Nat × Value)} {pc : Nat} {st : List Value} {q : Nat} (h : nw_ok P X cc RX4 nL) (hq : nw_cl q = 3) {r : Nat} (hr : nw_rf q 3 = r) (hd : decode cc pc = .ok (.getfield 162, 3)) (k : nw_G P X nL σ lv (pc + 3) (.ref (P.2.1 r) :: st)) : nw_G P X nL σ lv pc (.ref (P.2.1 q) :: st) := by
  subst hr; intro H locs ls h1 h2 h3
  exact va_getN (D := P.1) (ci := 3) (C := RX3) (T := TX3) (N := 7) h.1.1 h.1.2.1 h.1.2.2.2.2 in_T3 h.1.2.2.2.1 h.2.1.1 h1 q (nw_at3 hq) rfl 3 (by decide) (va_Nw.use rfl (h.2.1.2.1 ("NumberedWaves", 162, "NumberedWaves$Waves", "turns", "[I", "NumberedWaves") (by decide +kernel))) (fun _ z => z) rfl hd (k H locs ls h1 h2 h3)
def f4_called_14 (K : Int32 → nw_ST → Prop) (σ : nw_ST) : Prop := (K (-2 : Int32) σ)
def f4_called_47 (K : Int32 → nw_ST → Prop) (H_28 : nw_ST → Int32 → Int32 → Int32 → Prop) (σ : nw_ST) (x2 : Int32) (x4 : Int32) (x5 : Int32) : Prop := (H_28 σ x2 x4 (x5 + (1 : Int32)))
def b4_called_28 (K : Int32 → nw_ST → Prop) (H_28 : nw_ST → Int32 → Int32 → Int32 → Prop) (σ : nw_ST) (x2 : Int32) (x4 : Int32) (x5 : Int32) : Prop := (((x2 < x5) → (K x4 σ)) ∧ (¬ (x2 < x5) → ((vp_in x5 240) ∧ (f4_called_47 K H_28 σ x2 (if ((nw_gA σ 23 x5.toNatClampNeg) ≤ 0) then x4 else (x4 + (1 : Int32))) x5))))
def f4_called_28 (K : Int32 → nw_ST → Prop) : Nat → nw_ST → Int32 → Int32 → Int32 → Prop
  | 0 => fun _ _ _ _ => False
  | n + 1 => b4_called_28 K (f4_called_28 K n)
def f4_called (K : Int32 → nw_ST → Prop) (σ : nw_ST) (a1 : Int32) (a2 : Int32) : Prop := ((((v4_isTime a1) = 0) → (f4_called_14 K σ)) ∧ (¬ ((v4_isTime a1) = 0) → ((((v4_isTime a2) = 0) → (f4_called_14 K σ)) ∧ (¬ ((v4_isTime a2) = 0) → (f4_waves (fun (r_18 : Nat) (s_18 : nw_ST) => (∃ n, f4_called_28 K n s_18 a2 (0 : Int32) a1)) σ)))))
def rm4_called : Room := { frames := 4, cells := 0, slots := 0, locals := 91 }
theorem yd4_called : yX4_called.cls = RX4 ∧ yX4_called.cls ≠ "java/lang/invoke/MethodHandle" ∧ yX4_called.cls ≠ "java/lang/invoke/VarHandle" ∧ (parseMethodDescriptor yX4_called.desc).map (fun d => d.parameters.length) = some 2 := by decide +kernel
set_option maxHeartbeats 4000000 in
set_option maxRecDepth 100000 in
theorem ct4_called (l : Launch) (P : nw_PT) (hD : nw_D P) (σ : nw_ST) (a1 : Int32) (a2 : Int32)  (K : Int32 → nw_ST → Prop) (hf : f4_called K σ a1 a2) : nw_MT l yX4_called cX4_called 6 (some .int) rm4_called P [.ref (P.2.1 0), .int a1, .int a2] σ (nw_Ki K) := by
  refine nw_enter (by decide) (by first | decide | exact Nat.le_of_ble_eq_true rfl) hD ?_
  intro X hl h he hR
  subst hl
  have h : nw_ok P X cX4_called RX4 6 := h
  show nw_G P X 6 σ [(0, .ref (P.2.1 0)), (1, .int a1), (2, .int a2)] 0 []
  have hL_14 :  ∀ (σ : nw_ST), f4_called_14 K σ → nw_G P X 6 σ [] 14 [] := by
    intro σ hf
    unfold f4_called_14 at hf
    refine nw_bipush (pc := 14) (v := -2) h dX4_called_14 (by decide) ?_
    exact nw_iret (pc := 16) h he dX4_called_16 ⟨_, rfl, hf⟩
  have hL_47 : ∀ (H_28 : nw_ST → Int32 → Int32 → Int32 → Prop) (hH_28 : (∀ (σ : nw_ST) (x2 : Int32) (x4 : Int32) (x5 : Int32), H_28 σ x2 x4 x5 → nw_G P X 6 σ [(2, .int x2), (3, .ref (P.2.1 19)), (4, .int x4), (5, .int x5)] 28 [])), ∀ (σ : nw_ST) (x2 : Int32) (x4 : Int32) (x5 : Int32), f4_called_47 K H_28 σ x2 x4 x5 → nw_G P X 6 σ [(2, .int x2), (3, .ref (P.2.1 19)), (4, .int x4), (5, .int x5)] 47 [] := by
    intro H_28 hH_28 σ x2 x4 x5 hf
    unfold f4_called_47 at hf
    refine nw_iinc (pc := 47) (v := (x5 + (1 : Int32))) (lv' := [(5, .int (x5 + (1 : Int32))), (2, .int x2), (3, .ref (P.2.1 19)), (4, .int x4)]) h dX4_called_47 (j := 3) rfl rfl (by decide) rfl ?_
    refine nw_goto (pc := 50) (tgt := 28) h dX4_called_50 (by decide) ?_
    refine nw_sub (lv' := [(2, .int x2), (3, .ref (P.2.1 19)), (4, .int x4), (5, .int (x5 + (1 : Int32)))]) [1, 2, 3, 0] rfl ?_
    exact hH_28 _ _ _ _ (hf)
  have hB_28 : ∀ (H_28 : nw_ST → Int32 → Int32 → Int32 → Prop) (hH_28 : (∀ (σ : nw_ST) (x2 : Int32) (x4 : Int32) (x5 : Int32), H_28 σ x2 x4 x5 → nw_G P X 6 σ [(2, .int x2), (3, .ref (P.2.1 19)), (4, .int x4), (5, .int x5)] 28 [])), ∀ (σ : nw_ST) (x2 : Int32) (x4 : Int32) (x5 : Int32), b4_called_28 K H_28 σ x2 x4 x5 → nw_G P X 6 σ [(2, .int x2), (3, .ref (P.2.1 19)), (4, .int x4), (5, .int x5)] 28 [] := by
    intro H_28 hH_28 σ x2 x4 x5 hf
    unfold b4_called_28 at hf
    refine nw_iload (pc := 28) h dX4_called_28 3 rfl ?_
    refine nw_iload_n (pc := 30) h dX4_called_30 rfl 0 rfl ?_
    refine nw_icmp_gt (pc := 31) (tgt := 53) h dX4_called_31 (by decide) (fun c_31 => ?_) (fun c_31 => ?_)
    · have hf := hf.1 c_31
      refine nw_iload (pc := 53) h dX4_called_53 2 rfl ?_
      exact nw_iret (pc := 55) h he dX4_called_55 ⟨_, rfl, hf⟩
    · have hf := hf.2 c_31
      refine nw_aload_n (pc := 34) h dX4_called_34 rfl 1 rfl ?_
      refine gf4_162 (pc := 35) (r := 23) h rfl rfl dX4_called_35 ?_
      refine nw_iload (pc := 38) h dX4_called_38 3 rfl ?_
      obtain ⟨h_40, hf⟩ := hf
      refine nw_iald (pc := 40) (n := 240) h rfl rfl h_40 dX4_called_40 ?_
      refine nw_if_le (pc := 41) (tgt := 47) h dX4_called_41 (by decide) (fun c_41 => ?_) (fun c_41 => ?_)
      · skip
        simp only [if_pos c_41] at hf
        exact hL_47 H_28 hH_28 _ _ _ _ hf
      · skip
        refine nw_iinc (pc := 44) (v := (x4 + (1 : Int32))) (lv' := [(4, .int (x4 + (1 : Int32))), (2, .int x2), (3, .ref (P.2.1 19)), (5, .int x5)]) h dX4_called_44 (j := 2) rfl rfl (by decide) rfl ?_
        simp only [if_neg c_41] at hf
        refine nw_sub (lv' := [(2, .int x2), (3, .ref (P.2.1 19)), (4, .int (x4 + (1 : Int32))), (5, .int x5)]) [1, 2, 0, 3] rfl ?_
        exact hL_47 H_28 hH_28 _ _ _ _ hf
  have hL_28 :  ∀ (n : Nat) (σ : nw_ST) (x2 : Int32) (x4 : Int32) (x5 : Int32), f4_called_28 K n σ x2 x4 x5 → nw_G P X 6 σ [(2, .int x2), (3, .ref (P.2.1 19)), (4, .int x4), (5, .int x5)] 28 [] := by
    intro n
    induction n with
    | zero => intro σ x2 x4 x5 hf; exact False.elim hf
    | succ n ih => exact hB_28 _ ih
  unfold f4_called at hf
  refine nw_iload_n (pc := 0) h dX4_called_0 rfl 1 rfl ?_
  refine klX4_117 (pc := 1) h (by rw [hR]; decide) (Nat.le_of_ble_eq_true rfl) dX4_called_1 ?_
  refine nw_if_eq (pc := 4) (tgt := 14) h dX4_called_4 (by decide) (fun c_4 => ?_) (fun c_4 => ?_)
  · have hf := hf.1 c_4
    refine nw_sub (lv' := []) [] rfl ?_
    exact hL_14 _ (hf)
  · have hf := hf.2 c_4
    refine nw_iload_n (pc := 7) h dX4_called_7 rfl 2 rfl ?_
    refine klX4_117 (pc := 8) h (by rw [hR]; decide) (Nat.le_of_ble_eq_true rfl) dX4_called_8 ?_
    refine nw_if_ne (pc := 11) (tgt := 17) h dX4_called_11 (by decide) (fun c_11 => ?_) (fun c_11 => ?_)
    · have hf := hf.2 c_11
      refine nw_aload_n (pc := 17) h dX4_called_17 rfl 0 rfl ?_
      refine klX4_140 (pc := 18) h (by rw [hR]; decide) hf (Nat.le_of_ble_eq_true rfl) dX4_called_18 (fun r_18 s_18 hcr hf => ?_)
      obtain rfl := nw_q3 hcr
      refine nw_astore_n (pc := 21) (lv' := [(3, .ref (P.2.1 19)), (0, .ref (P.2.1 0)), (1, .int a1), (2, .int a2)]) h dX4_called_21 rfl (by decide) rfl ?_
      refine nw_iconst (pc := 22) (v := 0) h dX4_called_22 (by decide) ?_
      refine nw_istore (pc := 23) (lv' := [(4, .int (0 : Int32)), (3, .ref (P.2.1 19)), (0, .ref (P.2.1 0)), (1, .int a1), (2, .int a2)]) h dX4_called_23 (by decide) rfl ?_
      refine nw_iload_n (pc := 25) h dX4_called_25 rfl 3 rfl ?_
      refine nw_istore (pc := 26) (lv' := [(5, .int a1), (4, .int (0 : Int32)), (3, .ref (P.2.1 19)), (0, .ref (P.2.1 0)), (1, .int a1), (2, .int a2)]) h dX4_called_26 (by decide) rfl ?_
      obtain ⟨n_28, hf⟩ := hf
      refine nw_sub (lv' := [(2, .int a2), (3, .ref (P.2.1 19)), (4, .int (0 : Int32)), (5, .int a1)]) [5, 2, 1, 0] rfl ?_
      exact hL_28 n_28 _ _ _ _ hf
    · have hf := hf.1 c_11
      refine nw_sub (lv' := []) [] rfl ?_
      exact hL_14 _ (hf)
def f4_valueOf_59 (K : Int32 → nw_ST → Prop) (H_4 : nw_ST → Int32 → Int32 → Int32 → Prop) (σ : nw_ST) (x1 : Int32) (x2 : Int32) (x3 : Int32) : Prop := (H_4 σ x1 x2 (x3 + (1 : Int32)))
def b4_valueOf_4 (K : Int32 → nw_ST → Prop) (H_4 : nw_ST → Int32 → Int32 → Int32 → Prop) (σ : nw_ST) (x1 : Int32) (x2 : Int32) (x3 : Int32) : Prop := ((((nw_gS σ 4 6) ≤ x3) → (K x2 σ)) ∧ (¬ ((nw_gS σ 4 6) ≤ x3) → ((o2_part σ 4 x3 (0 : Int32)) ∧ (((((v2_part σ 4 x3 (0 : Int32)) ≤ 0) → True) ∧ (¬ ((v2_part σ 4 x3 (0 : Int32)) ≤ 0) → ((¬ (v2_part σ 4 x3 (0 : Int32)) = 0) ∧ ((o2_part σ 4 x3 (1 : Int32)) ∧ ((((nw_rem x1 (v2_part σ 4 x3 (0 : Int32))) = (v2_part σ 4 x3 (1 : Int32))) → (o2_part σ 4 x3 (2 : Int32))) ∧ (¬ ((nw_rem x1 (v2_part σ 4 x3 (0 : Int32))) = (v2_part σ 4 x3 (1 : Int32))) → True)))))) ∧ (f4_valueOf_59 K H_4 σ x1 (if ((v2_part σ 4 x3 (0 : Int32)) ≤ 0) then x2 else (if ((nw_rem x1 (v2_part σ 4 x3 (0 : Int32))) = (v2_part σ 4 x3 (1 : Int32))) then (x2 + (v2_part σ 4 x3 (2 : Int32))) else x2)) x3)))))
def f4_valueOf_4 (K : Int32 → nw_ST → Prop) : Nat → nw_ST → Int32 → Int32 → Int32 → Prop
  | 0 => fun _ _ _ _ => False
  | n + 1 => b4_valueOf_4 K (f4_valueOf_4 K n)
def f4_valueOf (K : Int32 → nw_ST → Prop) (σ : nw_ST) (a1 : Int32) : Prop := (∃ n, f4_valueOf_4 K n σ a1 (0 : Int32) (0 : Int32))
def rm4_valueOf : Room := { frames := 1, cells := 0, slots := 0, locals := 22 }
theorem yd4_valueOf : yX4_valueOf.cls = RX4 ∧ yX4_valueOf.cls ≠ "java/lang/invoke/MethodHandle" ∧ yX4_valueOf.cls ≠ "java/lang/invoke/VarHandle" ∧ (parseMethodDescriptor yX4_valueOf.desc).map (fun d => d.parameters.length) = some 1 := by decide +kernel
set_option maxHeartbeats 4000000 in
set_option maxRecDepth 100000 in
theorem ct4_valueOf (l : Launch) (P : nw_PT) (hD : nw_D P) (σ : nw_ST) (a1 : Int32)  (K : Int32 → nw_ST → Prop) (hf : f4_valueOf K σ a1) : nw_MT l yX4_valueOf cX4_valueOf 5 (some .int) rm4_valueOf P [.ref (P.2.1 0), .int a1] σ (nw_Ki K) := by
  refine nw_enter (by decide) (by first | decide | exact Nat.le_of_ble_eq_true rfl) hD ?_
  intro X hl h he hR
  subst hl
  have h : nw_ok P X cX4_valueOf RX4 5 := h
  show nw_G P X 5 σ [(0, .ref (P.2.1 0)), (1, .int a1)] 0 []
  have hL_59 : ∀ (H_4 : nw_ST → Int32 → Int32 → Int32 → Prop) (hH_4 : (∀ (σ : nw_ST) (x1 : Int32) (x2 : Int32) (x3 : Int32), H_4 σ x1 x2 x3 → nw_G P X 5 σ [(0, .ref (P.2.1 0)), (1, .int x1), (2, .int x2), (3, .int x3)] 4 [])), ∀ (σ : nw_ST) (x1 : Int32) (x2 : Int32) (x3 : Int32), f4_valueOf_59 K H_4 σ x1 x2 x3 → nw_G P X 5 σ [(0, .ref (P.2.1 0)), (1, .int x1), (2, .int x2), (3, .int x3)] 59 [] := by
    intro H_4 hH_4 σ x1 x2 x3 hf
    unfold f4_valueOf_59 at hf
    refine nw_iinc (pc := 59) (v := (x3 + (1 : Int32))) (lv' := [(3, .int (x3 + (1 : Int32))), (0, .ref (P.2.1 0)), (1, .int x1), (2, .int x2)]) h dX4_valueOf_59 (j := 3) rfl rfl (by decide) rfl ?_
    refine nw_goto (pc := 62) (tgt := 4) h dX4_valueOf_62 (by decide) ?_
    refine nw_sub (lv' := [(0, .ref (P.2.1 0)), (1, .int x1), (2, .int x2), (3, .int (x3 + (1 : Int32)))]) [1, 2, 3, 0] rfl ?_
    exact hH_4 _ _ _ _ (hf)
  have hB_4 : ∀ (H_4 : nw_ST → Int32 → Int32 → Int32 → Prop) (hH_4 : (∀ (σ : nw_ST) (x1 : Int32) (x2 : Int32) (x3 : Int32), H_4 σ x1 x2 x3 → nw_G P X 5 σ [(0, .ref (P.2.1 0)), (1, .int x1), (2, .int x2), (3, .int x3)] 4 [])), ∀ (σ : nw_ST) (x1 : Int32) (x2 : Int32) (x3 : Int32), b4_valueOf_4 K H_4 σ x1 x2 x3 → nw_G P X 5 σ [(0, .ref (P.2.1 0)), (1, .int x1), (2, .int x2), (3, .int x3)] 4 [] := by
    intro H_4 hH_4 σ x1 x2 x3 hf
    unfold b4_valueOf_4 at hf
    refine nw_iload_n (pc := 4) h dX4_valueOf_4 rfl 3 rfl ?_
    refine nw_aload_n (pc := 5) h dX4_valueOf_5 rfl 0 rfl ?_
    refine gf4_31 (pc := 6) (r := 4) h rfl rfl dX4_valueOf_6 ?_
    refine gf4_178 (pc := 9) h rfl dX4_valueOf_9 ?_
    refine nw_icmp_ge (pc := 12) (tgt := 65) h dX4_valueOf_12 (by decide) (fun c_12 => ?_) (fun c_12 => ?_)
    · have hf := hf.1 c_12
      refine nw_iload_n (pc := 65) h dX4_valueOf_65 rfl 2 rfl ?_
      exact nw_iret (pc := 66) h he dX4_valueOf_66 ⟨_, rfl, hf⟩
    · have hf := hf.2 c_12
      refine nw_aload_n (pc := 15) h dX4_valueOf_15 rfl 0 rfl ?_
      refine gf4_31 (pc := 16) (r := 4) h rfl rfl dX4_valueOf_16 ?_
      refine nw_iload_n (pc := 19) h dX4_valueOf_19 rfl 3 rfl ?_
      refine nw_iconst (pc := 20) (v := 0) h dX4_valueOf_20 (by decide) ?_
      obtain ⟨h_21, hf⟩ := hf
      refine klX4_181 (pc := 21) h (by rw [hR]; decide) rfl h_21 (Nat.le_of_ble_eq_true rfl) dX4_valueOf_21 ?_
      refine nw_istore (pc := 24) (lv' := [(4, .int (v2_part σ 4 x3 (0 : Int32))), (0, .ref (P.2.1 0)), (1, .int x1), (2, .int x2), (3, .int x3)]) h dX4_valueOf_24 (by decide) rfl ?_
      refine nw_iload (pc := 26) h dX4_valueOf_26 0 rfl ?_
      obtain ⟨ho, hf⟩ := hf
      refine nw_if_le (pc := 28) (tgt := 59) h dX4_valueOf_28 (by decide) (fun c_28 => ?_) (fun c_28 => ?_)
      · skip
        have ho := ho.1 c_28
        simp only [if_pos c_28] at hf
        refine nw_sub (lv' := [(0, .ref (P.2.1 0)), (1, .int x1), (2, .int x2), (3, .int x3)]) [1, 2, 3, 4] rfl ?_
        exact hL_59 H_4 hH_4 _ _ _ _ hf
      · skip
        have ho := ho.2 c_28
        refine nw_iload_n (pc := 31) h dX4_valueOf_31 rfl 2 rfl ?_
        refine nw_iload (pc := 32) h dX4_valueOf_32 0 rfl ?_
        obtain ⟨h_34, ho⟩ := ho
        refine nw_irem (pc := 34) h dX4_valueOf_34 h_34 ?_
        refine nw_aload_n (pc := 35) h dX4_valueOf_35 rfl 1 rfl ?_
        refine gf4_31 (pc := 36) (r := 4) h rfl rfl dX4_valueOf_36 ?_
        refine nw_iload_n (pc := 39) h dX4_valueOf_39 rfl 4 rfl ?_
        refine nw_iconst (pc := 40) (v := 1) h dX4_valueOf_40 (by decide) ?_
        obtain ⟨h_41, ho⟩ := ho
        refine klX4_181 (pc := 41) h (by rw [hR]; decide) rfl h_41 (Nat.le_of_ble_eq_true rfl) dX4_valueOf_41 ?_
        refine nw_icmp_ne (pc := 44) (tgt := 59) h dX4_valueOf_44 (by decide) (fun c_44 => ?_) (fun c_44 => ?_)
        · skip
          have ho := ho.2 c_44
          simp only [if_neg c_28, if_neg c_44] at hf
          refine nw_sub (lv' := [(0, .ref (P.2.1 0)), (1, .int x1), (2, .int x2), (3, .int x3)]) [1, 2, 3, 4] rfl ?_
          exact hL_59 H_4 hH_4 _ _ _ _ hf
        · skip
          have ho := ho.1 c_44
          refine nw_iload_n (pc := 47) h dX4_valueOf_47 rfl 3 rfl ?_
          refine nw_aload_n (pc := 48) h dX4_valueOf_48 rfl 1 rfl ?_
          refine gf4_31 (pc := 49) (r := 4) h rfl rfl dX4_valueOf_49 ?_
          refine nw_iload_n (pc := 52) h dX4_valueOf_52 rfl 4 rfl ?_
          refine nw_iconst (pc := 53) (v := 2) h dX4_valueOf_53 (by decide) ?_
          have h_54 := ho
          refine klX4_181 (pc := 54) h (by rw [hR]; decide) rfl h_54 (Nat.le_of_ble_eq_true rfl) dX4_valueOf_54 ?_
          refine nw_iadd (pc := 57) h dX4_valueOf_57 ?_
          refine nw_istore_n (pc := 58) (lv' := [(2, .int (x2 + (v2_part σ 4 x3 (2 : Int32)))), (4, .int (v2_part σ 4 x3 (0 : Int32))), (0, .ref (P.2.1 0)), (1, .int x1), (3, .int x3)]) h dX4_valueOf_58 rfl (by decide) rfl ?_
          simp only [if_neg c_28, if_pos c_44] at hf
          refine nw_sub (lv' := [(0, .ref (P.2.1 0)), (1, .int x1), (2, .int (x2 + (v2_part σ 4 x3 (2 : Int32)))), (3, .int x3)]) [2, 3, 0, 4] rfl ?_
          exact hL_59 H_4 hH_4 _ _ _ _ hf
  have hL_4 :  ∀ (n : Nat) (σ : nw_ST) (x1 : Int32) (x2 : Int32) (x3 : Int32), f4_valueOf_4 K n σ x1 x2 x3 → nw_G P X 5 σ [(0, .ref (P.2.1 0)), (1, .int x1), (2, .int x2), (3, .int x3)] 4 [] := by
    intro n
    induction n with
    | zero => intro σ x1 x2 x3 hf; exact False.elim hf
    | succ n ih => exact hB_4 _ ih
  unfold f4_valueOf at hf
  refine nw_iconst (pc := 0) (v := 0) h dX4_valueOf_0 (by decide) ?_
  refine nw_istore_n (pc := 1) (lv' := [(2, .int (0 : Int32)), (0, .ref (P.2.1 0)), (1, .int a1)]) h dX4_valueOf_1 rfl (by decide) rfl ?_
  refine nw_iconst (pc := 2) (v := 0) h dX4_valueOf_2 (by decide) ?_
  refine nw_istore_n (pc := 3) (lv' := [(3, .int (0 : Int32)), (2, .int (0 : Int32)), (0, .ref (P.2.1 0)), (1, .int a1)]) h dX4_valueOf_3 rfl (by decide) rfl ?_
  obtain ⟨n_4, hf⟩ := hf
  refine nw_sub (lv' := [(0, .ref (P.2.1 0)), (1, .int a1), (2, .int (0 : Int32)), (3, .int (0 : Int32))]) [2, 3, 1, 0] rfl ?_
  exact hL_4 n_4 _ _ _ _ hf
theorem klX4_165 {P : nw_PT} {X : nw_EX} {cc : ByteArray} {nL : Nat} {σ : nw_ST} {lv : List (Nat × Value)} {pc : Nat} {rest : List Value} {a1 : Int32} (h : nw_ok P X cc RX4 nL) (hR : rm4_valueOf.frames + 1 ≤ X.2.2.2.1.frames ∧ 8 + (5 + 11) + rm4_valueOf.locals ≤ X.2.2.2.1.locals)  {K : Int32 → nw_ST → Prop} (hf : f4_valueOf K σ a1) (hst : (rest.map fun v => v.category).sum ≤ 8) (hd : decode cc pc = .ok (.invokevirtual 165, 3)) (k : ∀ (r : Int32) (s2 : nw_ST), K r s2 → nw_G P X nL s2 lv (pc + 3) (.int r :: rest)) : nw_G P X nL σ lv pc (.int a1 :: .ref (P.2.1 0) :: rest) :=
  nw_callV (As := [.int a1]) (rest := rest) (C := RX4) (ci := 4) h (ct4_valueOf _ P h.2.2 σ a1 K hf) (nw_goodV nw_w128 nw_w129 nw_w130 nw_w24 nw_w131) yd4_valueOf rfl hR ⟨rfl, rfl⟩ rfl (by decide) rfl rfl hst rfl hd (fun v s2 z => by obtain ⟨r, rfl, z⟩ := z; exact k r s2 z)
def f4_brings_17 (K : Int32 → nw_ST → Prop) (σ : nw_ST) (y0 : Int32) : Prop := (K y0 σ)
def f4_brings (K : Int32 → nw_ST → Prop) (σ : nw_ST) (a1 : Int32) : Prop := ((((v4_isNumber a1) = 0) → (f4_brings_17 K σ (-2 : Int32))) ∧ (¬ ((v4_isNumber a1) = 0) → (f4_valueOf (fun (r_9 : Int32) (s_9 : nw_ST) => (f4_brings_17 K s_9 r_9)) σ a1)))
def rm4_brings : Room := { frames := 2, cells := 0, slots := 0, locals := 46 }
theorem yd4_brings : yX4_brings.cls = RX4 ∧ yX4_brings.cls ≠ "java/lang/invoke/MethodHandle" ∧ yX4_brings.cls ≠ "java/lang/invoke/VarHandle" ∧ (parseMethodDescriptor yX4_brings.desc).map (fun d => d.parameters.length) = some 1 := by decide +kernel
set_option maxHeartbeats 4000000 in
set_option maxRecDepth 100000 in
theorem ct4_brings (l : Launch) (P : nw_PT) (hD : nw_D P) (σ : nw_ST) (a1 : Int32)  (K : Int32 → nw_ST → Prop) (hf : f4_brings K σ a1) : nw_MT l yX4_brings cX4_brings 2 (some .int) rm4_brings P [.ref (P.2.1 0), .int a1] σ (nw_Ki K) := by
  refine nw_enter (by decide) (by first | decide | exact Nat.le_of_ble_eq_true rfl) hD ?_
  intro X hl h he hR
  subst hl
  have h : nw_ok P X cX4_brings RX4 2 := h
  show nw_G P X 2 σ [(0, .ref (P.2.1 0)), (1, .int a1)] 0 []
  have hL_17 :  ∀ (σ : nw_ST) (y0 : Int32), f4_brings_17 K σ y0 → nw_G P X 2 σ [] 17 [.int y0] := by
    intro σ y0 hf
    unfold f4_brings_17 at hf
    exact nw_iret (pc := 17) h he dX4_brings_17 ⟨_, rfl, hf⟩
  unfold f4_brings at hf
  refine nw_iload_n (pc := 0) h dX4_brings_0 rfl 1 rfl ?_
  refine klX4_156 (pc := 1) h (by rw [hR]; decide) (Nat.le_of_ble_eq_true rfl) dX4_brings_1 ?_
  refine nw_if_eq (pc := 4) (tgt := 15) h dX4_brings_4 (by decide) (fun c_4 => ?_) (fun c_4 => ?_)
  · have hf := hf.1 c_4
    refine nw_bipush (pc := 15) (v := -2) h dX4_brings_15 (by decide) ?_
    refine nw_sub (lv' := []) [] rfl ?_
    exact hL_17 _ _ (hf)
  · have hf := hf.2 c_4
    refine nw_aload_n (pc := 7) h dX4_brings_7 rfl 0 rfl ?_
    refine nw_iload_n (pc := 8) h dX4_brings_8 rfl 1 rfl ?_
    refine klX4_165 (pc := 9) h (by rw [hR]; decide) hf (Nat.le_of_ble_eq_true rfl) dX4_brings_9 (fun r_9 s_9 hf => ?_)
    refine nw_goto (pc := 12) (tgt := 17) h dX4_brings_12 (by decide) ?_
    refine nw_sub (lv' := []) [] rfl ?_
    exact hL_17 _ _ (hf)
def b0_firstWithSecond_2 (K : Int32 → nw_ST → Prop) (H_2 : nw_ST → Nat → Int32 → Int32 → Prop) (σ : nw_ST) (x0 : Nat) (x1 : Int32) (x2 : Int32) : Prop := ((((nw_gS σ x0 2) ≤ x2) → (K (-1 : Int32) σ)) ∧ (¬ ((nw_gS σ x0 2) ≤ x2) → ((vp_in x2 (nw_len (nw_rf x0 1))) ∧ ((((nw_gA σ (nw_rf x0 1) x2.toNatClampNeg) = x1) → (K x2 σ)) ∧ (¬ ((nw_gA σ (nw_rf x0 1) x2.toNatClampNeg) = x1) → (H_2 σ x0 x1 (x2 + (1 : Int32))))))))
def f0_firstWithSecond_2 (K : Int32 → nw_ST → Prop) : Nat → nw_ST → Nat → Int32 → Int32 → Prop
  | 0 => fun _ _ _ _ => False
  | n + 1 => b0_firstWithSecond_2 K (f0_firstWithSecond_2 K n)
def f0_firstWithSecond (K : Int32 → nw_ST → Prop) (σ : nw_ST) (q0 : Nat) (a1 : Int32) : Prop := (∃ n, f0_firstWithSecond_2 K n σ q0 a1 (0 : Int32))
def rm0_firstWithSecond : Room := { frames := 0, cells := 0, slots := 0, locals := 0 }
theorem yd0_firstWithSecond : yX0_firstWithSecond.cls = RX0 ∧ yX0_firstWithSecond.cls ≠ "java/lang/invoke/MethodHandle" ∧ yX0_firstWithSecond.cls ≠ "java/lang/invoke/VarHandle" ∧ (parseMethodDescriptor yX0_firstWithSecond.desc).map (fun d => d.parameters.length) = some 1 := by decide +kernel
set_option maxHeartbeats 4000000 in
set_option maxRecDepth 100000 in
theorem ct0_firstWithSecond (l : Launch) (P : nw_PT) (hD : nw_D P) (σ : nw_ST) (q0 : Nat) (a1 : Int32) (hc_q0 : nw_cl q0 = 0) (K : Int32 → nw_ST → Prop) (hf : f0_firstWithSecond K σ q0 a1) : nw_MT l yX0_firstWithSecond cX0_firstWithSecond 3 (some .int) rm0_firstWithSecond P [.ref (P.2.1 q0), .int a1] σ (nw_Ki K) := by
  refine nw_enter (by decide) (by first | decide | exact Nat.le_of_ble_eq_true rfl) hD ?_
  intro X hl h he hR
  subst hl
  have h : nw_ok P X cX0_firstWithSecond RX0 3 := h
  show nw_G P X 3 σ [(0, .ref (P.2.1 q0)), (1, .int a1)] 0 []
  have hB_2 : ∀ (H_2 : nw_ST → Nat → Int32 → Int32 → Prop) (hH_2 : (∀ (σ : nw_ST) (x0 : Nat) (x1 : Int32) (x2 : Int32), nw_cl x0 = 0 → H_2 σ x0 x1 x2 → nw_G P X 3 σ [(0, .ref (P.2.1 x0)), (1, .int x1), (2, .int x2)] 2 [])), ∀ (σ : nw_ST) (x0 : Nat) (x1 : Int32) (x2 : Int32), nw_cl x0 = 0 → b0_firstWithSecond_2 K H_2 σ x0 x1 x2 → nw_G P X 3 σ [(0, .ref (P.2.1 x0)), (1, .int x1), (2, .int x2)] 2 [] := by
    intro H_2 hH_2 σ x0 x1 x2 hc_x0 hf
    unfold b0_firstWithSecond_2 at hf
    refine nw_iload_n (pc := 2) h dX0_firstWithSecond_2 rfl 2 rfl ?_
    refine nw_aload_n (pc := 3) h dX0_firstWithSecond_3 rfl 0 rfl ?_
    refine gf0_18 (pc := 4) h hc_x0 dX0_firstWithSecond_4 ?_
    refine nw_icmp_ge (pc := 7) (tgt := 28) h dX0_firstWithSecond_7 (by decide) (fun c_7 => ?_) (fun c_7 => ?_)
    · have hf := hf.1 c_7
      refine nw_iconst (pc := 28) (v := -1) h dX0_firstWithSecond_28 (by decide) ?_
      exact nw_iret (pc := 29) h he dX0_firstWithSecond_29 ⟨_, rfl, hf⟩
    · have hf := hf.2 c_7
      refine nw_aload_n (pc := 10) h dX0_firstWithSecond_10 rfl 0 rfl ?_
      refine gf0_15 (pc := 11) h hc_x0 rfl dX0_firstWithSecond_11 ?_
      refine nw_iload_n (pc := 14) h dX0_firstWithSecond_14 rfl 2 rfl ?_
      obtain ⟨h_15, hf⟩ := hf
      refine nw_iald (pc := 15) (n := (nw_len (nw_rf x0 1))) h (nw_wt0_1 hc_x0) rfl h_15 dX0_firstWithSecond_15 ?_
      refine nw_iload_n (pc := 16) h dX0_firstWithSecond_16 rfl 1 rfl ?_
      refine nw_icmp_ne (pc := 17) (tgt := 22) h dX0_firstWithSecond_17 (by decide) (fun c_17 => ?_) (fun c_17 => ?_)
      · have hf := hf.2 c_17
        refine nw_iinc (pc := 22) (v := (x2 + (1 : Int32))) (lv' := [(2, .int (x2 + (1 : Int32))), (0, .ref (P.2.1 x0)), (1, .int x1)]) h dX0_firstWithSecond_22 (j := 2) rfl rfl (by decide) rfl ?_
        refine nw_goto (pc := 25) (tgt := 2) h dX0_firstWithSecond_25 (by decide) ?_
        refine nw_sub (lv' := [(0, .ref (P.2.1 x0)), (1, .int x1), (2, .int (x2 + (1 : Int32)))]) [1, 2, 0] rfl ?_
        exact hH_2 _ _ _ _ hc_x0 (hf)
      · have hf := hf.1 c_17
        refine nw_iload_n (pc := 20) h dX0_firstWithSecond_20 rfl 2 rfl ?_
        exact nw_iret (pc := 21) h he dX0_firstWithSecond_21 ⟨_, rfl, hf⟩
  have hL_2 :  ∀ (n : Nat) (σ : nw_ST) (x0 : Nat) (x1 : Int32) (x2 : Int32), nw_cl x0 = 0 → f0_firstWithSecond_2 K n σ x0 x1 x2 → nw_G P X 3 σ [(0, .ref (P.2.1 x0)), (1, .int x1), (2, .int x2)] 2 [] := by
    intro n
    induction n with
    | zero => intro σ x0 x1 x2 hc_x0 hf; exact False.elim hf
    | succ n ih => exact hB_2 _ ih
  unfold f0_firstWithSecond at hf
  refine nw_iconst (pc := 0) (v := 0) h dX0_firstWithSecond_0 (by decide) ?_
  refine nw_istore_n (pc := 1) (lv' := [(2, .int (0 : Int32)), (0, .ref (P.2.1 q0)), (1, .int a1)]) h dX0_firstWithSecond_1 rfl (by decide) rfl ?_
  obtain ⟨n_2, hf⟩ := hf
  refine nw_sub (lv' := [(0, .ref (P.2.1 q0)), (1, .int a1), (2, .int (0 : Int32))]) [1, 2, 0] rfl ?_
  exact hL_2 n_2 _ _ _ _ hc_q0 hf
