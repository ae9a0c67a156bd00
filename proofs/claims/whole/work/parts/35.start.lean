theorem nw_w869 : Cond.instantiable RX4 13 ∈ nw_T := nw_m1 (List.mem_of_getElem? (i := 11) rfl) rfl
theorem nw_w870 : Cond.instantiable RX5 38 ∈ nw_T := nw_m3 (List.mem_of_getElem? (i := 95) rfl) rfl
theorem nw_w871 : Cond.classLink RL 7 RX4 ∈ nw_T := nw_m1 (List.mem_of_getElem? (i := 10) rfl) rfl
theorem nw_w872 : Cond.code yX4_init cX4_init 2 none ∈ nw_T := nw_m1 (List.mem_of_getElem? (i := 14) rfl) rfl
theorem nw_w873 : Cond.methodLink RL 9 yX4_init ∈ nw_T := nw_m1 (List.mem_of_getElem? (i := 12) rfl) rfl
theorem nw_w874 : Cond.instanceMethod yX4_init ∈ nw_T := nw_m1 (List.mem_of_getElem? (i := 13) rfl) rfl
theorem nw_w875 : Cond.classLink RL 10 RX5 ∈ nw_T := nw_m3 (List.mem_of_getElem? (i := 94) rfl) rfl
theorem nw_w876 : Cond.code yX5_init cX5_init 1 none ∈ nw_T := nw_m3 (List.mem_of_getElem? (i := 98) rfl) rfl
theorem nw_w877 : Cond.methodLink RL 12 yX5_init ∈ nw_T := nw_m3 (List.mem_of_getElem? (i := 96) rfl) rfl
theorem nw_w878 : Cond.instanceMethod yX5_init ∈ nw_T := nw_m3 (List.mem_of_getElem? (i := 97) rfl) rfl
def R_law : String := "NumberedWavesLaw"
def lw_P (b : Addr) (xs : List Int32) (args : Array Value) (s : State) : Prop := args = #[.ref b] ∧ s.IntsAt b xs ∧ xs.length ≤ 384 ∧ (Jvm.Cond.and given_1 narrow_1).before args s = true
def lw_Q (_ : Array Value) (s : State) (o : Outcome) (t : State) : Prop := o = .returned (some (.int 1)) ∧ Framed s o t [] 600000 7302250
def lw_Z (below : List Frame) (a : Array Value) (s : State) : State → Prop := fun t => ∃ o, t.status = .running ∧ Ended t below o ∧ lw_Q a s o t
/-- the law's own end, with 1 on the stack, nothing written that was there before, its room as the claim has it -/
theorem lw_ret {p : Program} {l : Launch} {e : Env} {s : State} {m : MethodId} {below : List Frame} {meth : Method} {c : Code} {b : Nat} (hx : p.tables.exec = Jvm.exec) (hb : c.code = code) (hr : meth.sig.returnType = ret) (hlocks : meth.locks = false) {pc : Nat} {H : Heap} {ls : Array Slot} (hdg : decode code pc = .ok (.ireturn, 1)) : W p l e room_1 s m #[Value.ref b] below meth c H [] 600000 7302250 (lw_Z below #[Value.ref b] s) (F0 m pc ls [.int 1]) := by
  intro T hT X
  obtain ⟨fs, hret, hrun, hended, hW, hframe⟩ := X.leave (v := some (.int 1)) (hlocks := hlocks) (fun h => by rw [hr] at h; cases h)
  have hmeth' : T.vm.method? m = some meth := X.method'
  refine ⟨T.setFrames fs, ?_, .returned (some (.int 1)), hrun, hended, rfl, ⟨_, rfl⟩, hW, hframe⟩
  jvm_step X.here [X.here.top, hx, hb, hdg, hmeth', hr, ret, narrow_b1]
  (try refine ⟨rfl, ?_⟩); (try refine ⟨rfl, ?_⟩)
  first | (intro acts; rw [hret _ acts rfl rfl rfl]) | rw [hret _ _ rfl rfl rfl]
  exact Steps.refl _
/-- what holds at the law's entry: the machine, the code, the tables' words (any of lw_tbl by 'hts w (by decide +kernel)'), the script of L ints xs at the cell b, what the Statement gives of the start (any of its parts by flat_of_before) -/
def lw_At (p : Program) (s : State) (m : MethodId) (meth : Method) (c : Code) (b L : Nat) (xs : Nat → Int32) : Prop :=
  p.tables.exec = Jvm.exec ∧ c.code = code ∧ meth.sig.returnType = ret ∧ c.maxLocals = 4 ∧ s.vm.findClass R_law = some m.cls ∧ (∀ w ∈ lw_tbl, w.before #[Value.ref b] s = true) ∧ va_X b L xs s s.heap ∧ b < s.heap.size ∧ meth.locks = false ∧ (Jvm.Cond.and given_1 narrow_1).before #[Value.ref b] s = true
def nw_z0 (q k : Nat) : Int32 := if k = 5 then (if q = 1 then -1 else if q = 4 then -1 else 0) else if k = 3 then (if q = 27 then 1 else if q = 29 then 1 else if q = 31 then 1 else if q = 33 then 1 else 0) else 0
/-- the state behind both constructors -/
def nw_s0 : nw_ST := (nw_z0, fun _ _ => 0, fun _ _ => 0)
def nw_adL (l : List Nat) : Nat → Nat := fun q => l.getD q 0
theorem nw_Dmap {A : Nat → Prop} {ws ws' : va_W} (h : va_D A ws) (e : ws.map Prod.fst = ws'.map Prod.fst) : va_D A ws' := by
  have key : ∀ (k : Nat) (q : Nat × va_E), ws'[k]? = some q → ∃ q' : Nat × va_E, ws[k]? = some q' ∧ q'.1 = q.1 := by
    intro k q hk
    have h1 : (ws.map Prod.fst)[k]? = some q.1 := by rw [e, List.getElem?_map, hk]; rfl
    rw [List.getElem?_map] at h1
    cases hq : ws[k]? with
    | none => rw [hq] at h1; cases h1
    | some q' => rw [hq] at h1; exact ⟨q', rfl, Option.some.inj h1⟩
  refine ⟨fun i j x y hx hy hxy => ?_, fun k q hk => ?_⟩
  · obtain ⟨x', a1, a2⟩ := key i x hx
    obtain ⟨y', b1, b2⟩ := key j y hy
    exact h.1 i j x' y' a1 b1 (by rw [a2, b2, hxy])
  · obtain ⟨q', a1, a2⟩ := key k q hk
    rw [← a2]; exact h.2 k q' a1
theorem nw_shf {D : va_G} {cl : List vw_C} {ws : va_W} {H : Heap} {a n j : Nat} {cA : ClassId} {f g : Nat → Option Nat} (h : va_P D cl ws H) (hw : ws[j]? = some (a, .inl (cA, n, .inr (.inr (.inr (.inr f)))))) (e : ∀ i, i < n → f i = g i) : va_P D cl (ws.set j (a, .inl (cA, n, .inr (.inr (.inr (.inr g)))))) H := by
  intro k q hk
  by_cases hj : k = j
  · subst hj
    have hl : k < ws.length := (List.getElem?_eq_some_iff.mp hw).1
    rw [List.getElem?_set_self hl] at hk
    cases hk
    have h1 := h k _ hw
    show H[a]? = some (vp_cell _ _)
    have h2 : H[a]? = some (vp_cell cA (n, .inr (.inr (.inr (.inr f))))) := h1
    rw [h2, vp_cell_q, vp_cell_q]
    congr 1
    unfold arrV
    congr 2
    funext i
    show va_rf (f i.val) = va_rf (g i.val)
    rw [e i.val i.isLt]
  · rw [List.getElem?_set_ne (fun z => hj z.symm)] at hk
    exact h k q hk
section NLS
variable {P : nw_PT} {X : nw_EX} {cc : ByteArray} {own : String} {nL : Nat} {ws : va_W} {kc ks : Nat} {lv lv' : List (Nat × Value)} {pc : Nat} {st : List Value} {xr : Nat}
theorem nc_astore_n (h : nc_ok P X cc own nL) {n : Fin 4} {i : Nat} (hd : decode cc pc = .ok (.astore_n n, 1)) (hi : (n : Nat) = i) (hn : i < nL) (hl : (i, Value.ref xr) :: lv.filter (fun q => !(q.1 == i) && !(q.1 + 1 == i && q.2.category == 2)) = lv') (k : nc_G P X nL ws kc ks lv' (pc + 1) st) : nc_G P X nL ws kc ks lv pc (.ref xr :: st) :=
  fun H locs ls h1 h2 h3 h4 => lv_astore_n h.1.1 h.1.2.1 hd hi h4 hn hl (fun ls h4 => k H locs ls h1 h2 h3 h4)
end NLS
theorem nl_st0 {args : Array Value} {s : State} {A : Nat → Prop} (hgv : (Jvm.Cond.and given_1 narrow_1).before args s = true) (hl : (Cond.laysStatic RX4 "SWELL_PARTS" "[I").before args s = true) (hi : (Cond.initialized RX4).before args s = true) (hA : ∀ a : Nat, a < s.heap.size → ¬ A a) : ∃ t : Nat, va_Z RX4 (nw_sn 0) "[I" (.ref t) A s s.heap ∧ va_T .int t (nw_len (63 + 0)) (fun j => .int (nw_cst (63 + 0) j)) A s s.heap := by
  have hs := flat_of_before _ hgv
  obtain ⟨t, h1, h2⟩ := va_Tof (tm := (.static "NumberedWaves" "SWELL_PARTS" "[I")) (ty := .int) (N := 5) (f := fun j => .int (nw_cst (63 + 0) j)) (A := A) (by decide) (hs _ (by decide +kernel)) (va_eqt (hs (.eq (.length (.static "NumberedWaves" "SWELL_PARTS" "[I")) (.int 5)) (by decide +kernel))) (fun j hj => by
    rcases (show j = 0 ∨ j = 1 ∨ j = 2 ∨ j = 3 ∨ j = 4 by omega) with rfl | rfl | rfl | rfl | rfl
    · exact va_eqt (hs (.eq (.elem (.static "NumberedWaves" "SWELL_PARTS" "[I") (.int 0)) (.int 0)) (by decide +kernel))
    · exact va_eqt (hs (.eq (.elem (.static "NumberedWaves" "SWELL_PARTS" "[I") (.int 1)) (.int 1)) (by decide +kernel))
    · exact va_eqt (hs (.eq (.elem (.static "NumberedWaves" "SWELL_PARTS" "[I") (.int 2)) (.int 1)) (by decide +kernel))
    · exact va_eqt (hs (.eq (.elem (.static "NumberedWaves" "SWELL_PARTS" "[I") (.int 3)) (.int 2)) (by decide +kernel))
    · exact va_eqt (hs (.eq (.elem (.static "NumberedWaves" "SWELL_PARTS" "[I") (.int 4)) (.int 2)) (by decide +kernel))) hA
  exact ⟨t, va_Zof hl hi h1 hA, h2⟩
theorem nl_st1 {args : Array Value} {s : State} {A : Nat → Prop} (hgv : (Jvm.Cond.and given_1 narrow_1).before args s = true) (hl : (Cond.laysStatic RX4 "SWELL_LEAST" "[I").before args s = true) (hi : (Cond.initialized RX4).before args s = true) (hA : ∀ a : Nat, a < s.heap.size → ¬ A a) : ∃ t : Nat, va_Z RX4 (nw_sn 1) "[I" (.ref t) A s s.heap ∧ va_T .int t (nw_len (63 + 1)) (fun j => .int (nw_cst (63 + 1) j)) A s s.heap := by
  have hs := flat_of_before _ hgv
  obtain ⟨t, h1, h2⟩ := va_Tof (tm := (.static "NumberedWaves" "SWELL_LEAST" "[I")) (ty := .int) (N := 3) (f := fun j => .int (nw_cst (63 + 1) j)) (A := A) (by decide) (hs _ (by decide +kernel)) (va_eqt (hs (.eq (.length (.static "NumberedWaves" "SWELL_LEAST" "[I")) (.int 3)) (by decide +kernel))) (fun j hj => by
    rcases (show j = 0 ∨ j = 1 ∨ j = 2 by omega) with rfl | rfl | rfl
    · exact va_eqt (hs (.eq (.elem (.static "NumberedWaves" "SWELL_LEAST" "[I") (.int 0)) (.int 1)) (by decide +kernel))
    · exact va_eqt (hs (.eq (.elem (.static "NumberedWaves" "SWELL_LEAST" "[I") (.int 1)) (.int 2)) (by decide +kernel))
    · exact va_eqt (hs (.eq (.elem (.static "NumberedWaves" "SWELL_LEAST" "[I") (.int 2)) (.int 0)) (by decide +kernel))) hA
  exact ⟨t, va_Zof hl hi h1 hA, h2⟩
theorem nl_st2 {args : Array Value} {s : State} {A : Nat → Prop} (hgv : (Jvm.Cond.and given_1 narrow_1).before args s = true) (hl : (Cond.laysStatic RX4 "FIND_PARTS" "[I").before args s = true) (hi : (Cond.initialized RX4).before args s = true) (hA : ∀ a : Nat, a < s.heap.size → ¬ A a) : ∃ t : Nat, va_Z RX4 (nw_sn 2) "[I" (.ref t) A s s.heap ∧ va_T .int t (nw_len (63 + 2)) (fun j => .int (nw_cst (63 + 2) j)) A s s.heap := by
  have hs := flat_of_before _ hgv
  obtain ⟨t, h1, h2⟩ := va_Tof (tm := (.static "NumberedWaves" "FIND_PARTS" "[I")) (ty := .int) (N := 5) (f := fun j => .int (nw_cst (63 + 2) j)) (A := A) (by decide) (hs _ (by decide +kernel)) (va_eqt (hs (.eq (.length (.static "NumberedWaves" "FIND_PARTS" "[I")) (.int 5)) (by decide +kernel))) (fun j hj => by
    rcases (show j = 0 ∨ j = 1 ∨ j = 2 ∨ j = 3 ∨ j = 4 by omega) with rfl | rfl | rfl | rfl | rfl
    · exact va_eqt (hs (.eq (.elem (.static "NumberedWaves" "FIND_PARTS" "[I") (.int 0)) (.int 0)) (by decide +kernel))
    · exact va_eqt (hs (.eq (.elem (.static "NumberedWaves" "FIND_PARTS" "[I") (.int 1)) (.int 0)) (by decide +kernel))
    · exact va_eqt (hs (.eq (.elem (.static "NumberedWaves" "FIND_PARTS" "[I") (.int 2)) (.int 1)) (by decide +kernel))
    · exact va_eqt (hs (.eq (.elem (.static "NumberedWaves" "FIND_PARTS" "[I") (.int 3)) (.int 1)) (by decide +kernel))
    · exact va_eqt (hs (.eq (.elem (.static "NumberedWaves" "FIND_PARTS" "[I") (.int 4)) (.int 2)) (by decide +kernel))) hA
  exact ⟨t, va_Zof hl hi h1 hA, h2⟩
theorem nl_st3 {args : Array Value} {s : State} {A : Nat → Prop} (hgv : (Jvm.Cond.and given_1 narrow_1).before args s = true) (hl : (Cond.laysStatic RX4 "FIND_LEAST" "[I").before args s = true) (hi : (Cond.initialized RX4).before args s = true) (hA : ∀ a : Nat, a < s.heap.size → ¬ A a) : ∃ t : Nat, va_Z RX4 (nw_sn 3) "[I" (.ref t) A s s.heap ∧ va_T .int t (nw_len (63 + 3)) (fun j => .int (nw_cst (63 + 3) j)) A s s.heap := by
  have hs := flat_of_before _ hgv
  obtain ⟨t, h1, h2⟩ := va_Tof (tm := (.static "NumberedWaves" "FIND_LEAST" "[I")) (ty := .int) (N := 3) (f := fun j => .int (nw_cst (63 + 3) j)) (A := A) (by decide) (hs _ (by decide +kernel)) (va_eqt (hs (.eq (.length (.static "NumberedWaves" "FIND_LEAST" "[I")) (.int 3)) (by decide +kernel))) (fun j hj => by
    rcases (show j = 0 ∨ j = 1 ∨ j = 2 by omega) with rfl | rfl | rfl
    · exact va_eqt (hs (.eq (.elem (.static "NumberedWaves" "FIND_LEAST" "[I") (.int 0)) (.int 1)) (by decide +kernel))
    · exact va_eqt (hs (.eq (.elem (.static "NumberedWaves" "FIND_LEAST" "[I") (.int 1)) (.int 0)) (by decide +kernel))
    · exact va_eqt (hs (.eq (.elem (.static "NumberedWaves" "FIND_LEAST" "[I") (.int 2)) (.int 0)) (by decide +kernel))) hA
  exact ⟨t, va_Zof hl hi h1 hA, h2⟩
theorem nl_st4 {args : Array Value} {s : State} {A : Nat → Prop} (hgv : (Jvm.Cond.and given_1 narrow_1).before args s = true) (hl : (Cond.laysStatic RX4 "DIGEST_TIMES" "[I").before args s = true) (hi : (Cond.initialized RX4).before args s = true) (hA : ∀ a : Nat, a < s.heap.size → ¬ A a) : ∃ t : Nat, va_Z RX4 (nw_sn 4) "[I" (.ref t) A s s.heap ∧ va_T .int t (nw_len (63 + 4)) (fun j => .int (nw_cst (63 + 4) j)) A s s.heap := by
  have hs := flat_of_before _ hgv
  obtain ⟨t, h1, h2⟩ := va_Tof (tm := (.static "NumberedWaves" "DIGEST_TIMES" "[I")) (ty := .int) (N := 4) (f := fun j => .int (nw_cst (63 + 4) j)) (A := A) (by decide) (hs _ (by decide +kernel)) (va_eqt (hs (.eq (.length (.static "NumberedWaves" "DIGEST_TIMES" "[I")) (.int 4)) (by decide +kernel))) (fun j hj => by
    rcases (show j = 0 ∨ j = 1 ∨ j = 2 ∨ j = 3 by omega) with rfl | rfl | rfl | rfl
    · exact va_eqt (hs (.eq (.elem (.static "NumberedWaves" "DIGEST_TIMES" "[I") (.int 0)) (.int 0)) (by decide +kernel))
    · exact va_eqt (hs (.eq (.elem (.static "NumberedWaves" "DIGEST_TIMES" "[I") (.int 1)) (.int 1)) (by decide +kernel))
    · exact va_eqt (hs (.eq (.elem (.static "NumberedWaves" "DIGEST_TIMES" "[I") (.int 2)) (.int 60)) (by decide +kernel))
    · exact va_eqt (hs (.eq (.elem (.static "NumberedWaves" "DIGEST_TIMES" "[I") (.int 3)) (.int 239)) (by decide +kernel))) hA
  exact ⟨t, va_Zof hl hi h1 hA, h2⟩
theorem nl_st5 {args : Array Value} {s : State} {A : Nat → Prop} (hgv : (Jvm.Cond.and given_1 narrow_1).before args s = true) (hl : (Cond.laysStatic RX4 "DIGEST_NUMBERS" "[I").before args s = true) (hi : (Cond.initialized RX4).before args s = true) (hA : ∀ a : Nat, a < s.heap.size → ¬ A a) : ∃ t : Nat, va_Z RX4 (nw_sn 5) "[I" (.ref t) A s s.heap ∧ va_T .int t (nw_len (63 + 5)) (fun j => .int (nw_cst (63 + 5) j)) A s s.heap := by
  have hs := flat_of_before _ hgv
  obtain ⟨t, h1, h2⟩ := va_Tof (tm := (.static "NumberedWaves" "DIGEST_NUMBERS" "[I")) (ty := .int) (N := 3) (f := fun j => .int (nw_cst (63 + 5) j)) (A := A) (by decide) (hs _ (by decide +kernel)) (va_eqt (hs (.eq (.length (.static "NumberedWaves" "DIGEST_NUMBERS" "[I")) (.int 3)) (by decide +kernel))) (fun j hj => by
    rcases (show j = 0 ∨ j = 1 ∨ j = 2 by omega) with rfl | rfl | rfl
    · exact va_eqt (hs (.eq (.elem (.static "NumberedWaves" "DIGEST_NUMBERS" "[I") (.int 0)) (.int 1)) (by decide +kernel))
    · exact va_eqt (hs (.eq (.elem (.static "NumberedWaves" "DIGEST_NUMBERS" "[I") (.int 1)) (.int 7)) (by decide +kernel))
    · exact va_eqt (hs (.eq (.elem (.static "NumberedWaves" "DIGEST_NUMBERS" "[I") (.int 2)) (.int 40)) (by decide +kernel))) hA
  exact ⟨t, va_Zof hl hi h1 hA, h2⟩
set_option maxHeartbeats 8000000 in
set_option maxRecDepth 100000 in
theorem whole_open (Inv : nw_ST → Prop) (hI0 : Inv nw_s0) (hSt : nl_Step Inv) {p : Program} {e : Env} {s : State} {m : MethodId} {below : List Frame} {meth : Method} {c : Code} (l : Launch) {b L : Nat} {xs : Nat → Int32} (hL : L ≤ 384) (C0 : lw_At p s m meth c b L xs) : W p l e room_1 s m #[Value.ref b] below meth c s.heap [] 0 0 (lw_Z below #[Value.ref b] s) (entryFrame m ([Value.ref b] : List Value).toArray 4) := by
  obtain ⟨hxx, hb, hr, hml, hown, hts, hX, hbl, hlocks, hgv⟩ := C0
  have htT : ∀ w ∈ nw_T, w.before #[Value.ref b] s = true := fun w hw => hts w (nw_T_in hw)
  obtain ⟨c0, iS0, hKn0⟩ := u_known (C := RX0) (T := TX0) (N := 3) (n := 3) htT in_T0 (htT _ nw_w855)
  obtain ⟨c1, iS1, hKn1⟩ := u_known (C := RX1) (T := TX1) (N := 4) (n := 4) htT in_T1 (htT _ nw_w864)
  obtain ⟨c2, iS2, hKn2⟩ := u_known (C := RX2) (T := TX2) (N := 7) (n := 7) htT in_T2 (htT _ nw_w846)
  obtain ⟨c3, iS3, hKn3⟩ := u_known (C := RX3) (T := TX3) (N := 7) (n := 7) htT in_T3 (htT _ nw_w860)
  obtain ⟨c4, iS4, hKn4⟩ := u_known (C := RX4) (T := TX4) (N := 13) (n := 13) htT in_T4 (htT _ nw_w869)
  obtain ⟨c5, iS5, hKn5⟩ := u_known (C := RX5) (T := TX5) (N := 38) (n := 38) htT in_T5 (htT _ nw_w870)
  obtain ⟨dC, dI, hKc⟩ : ∃ (dC : Nat → ClassId) (dI : Nat → Nat → Nat), ∀ (k : Nat) (q : vw_C), vwCl[k]? = some q → u_Kn s q.1 q.2.1 q.2.2 (dC k) (dI k) := by
    refine ⟨fun k => if k = 0 then c0 else if k = 1 then c1 else if k = 2 then c2 else if k = 3 then c3 else if k = 4 then c4 else c5, fun k => if k = 0 then iS0 else if k = 1 then iS1 else if k = 2 then iS2 else if k = 3 then iS3 else if k = 4 then iS4 else iS5, ?_⟩
    intro k q hq
    match k, hq with
    | 0, hq => cases hq; exact hKn0
    | 1, hq => cases hq; exact hKn1
    | 2, hq => cases hq; exact hKn2
    | 3, hq => cases hq; exact hKn3
    | 4, hq => cases hq; exact hKn4
    | 5, hq => cases hq; exact hKn5
    | k + 6, hq => simp [vwCl] at hq
  obtain ⟨cI, kI, coI, i1, i2, i3⟩ := Cond.arrayClass_spec (htT _ nw_w839)
  obtain ⟨cJ, kJ, coJ, j1, j2, j3⟩ := Cond.arrayClass_spec (htT _ nw_w867)
  obtain ⟨cZ, kZ, coZ, z1, z2, z3⟩ := Cond.arrayClass_spec (htT _ nw_w843)
  have hover : (Cond.arrayOver (.object "NumberedWaves$Sheet")).before #[Value.ref b] s = true := hts _ (List.mem_append_right _ (List.mem_append_left _ (List.mem_of_getElem? (i := 117) rfl)))
  obtain ⟨coS, cS, kS, s0, s1, s2, s3, s4⟩ := Cond.arrayOver_spec hover
  have hAo : ∀ a : Nat, a < s.heap.size → ¬ (fun q : Nat => s.heap.size ≤ q) a := fun a ha => Nat.not_le.mpr ha
  obtain ⟨t0, hz0, ht0⟩ := nl_st0 (A := fun q : Nat => s.heap.size ≤ q) hgv (hts (.laysStatic RX4 "SWELL_PARTS" "[I") (List.mem_append_right _ (by decide +kernel))) (htT _ nw_w24) hAo
  obtain ⟨t1, hz1, ht1⟩ := nl_st1 (A := fun q : Nat => s.heap.size ≤ q) hgv (hts (.laysStatic RX4 "SWELL_LEAST" "[I") (List.mem_append_right _ (by decide +kernel))) (htT _ nw_w24) hAo
  obtain ⟨t2, hz2, ht2⟩ := nl_st2 (A := fun q : Nat => s.heap.size ≤ q) hgv (hts (.laysStatic RX4 "FIND_PARTS" "[I") (List.mem_append_right _ (by decide +kernel))) (htT _ nw_w24) hAo
  obtain ⟨t3, hz3, ht3⟩ := nl_st3 (A := fun q : Nat => s.heap.size ≤ q) hgv (hts (.laysStatic RX4 "FIND_LEAST" "[I") (List.mem_append_right _ (by decide +kernel))) (htT _ nw_w24) hAo
  obtain ⟨t4, hz4, ht4⟩ := nl_st4 (A := fun q : Nat => s.heap.size ≤ q) hgv (hts (.laysStatic RX4 "DIGEST_TIMES" "[I") (List.mem_append_right _ (by decide +kernel))) (htT _ nw_w24) hAo
  obtain ⟨t5, hz5, ht5⟩ := nl_st5 (A := fun q : Nat => s.heap.size ≤ q) hgv (hts (.laysStatic RX4 "DIGEST_NUMBERS" "[I") (List.mem_append_right _ (by decide +kernel))) (htT _ nw_w24) hAo
  obtain ⟨ca, hca⟩ : ∃ ca : Nat → ClassId, ca = fun k => if k = 0 then cI else if k = 1 then cJ else if k = 2 then cZ else cS := ⟨_, rfl⟩
  obtain ⟨P0, hP0⟩ : ∃ P0 : nw_PT, P0 = ((dC, dI), nw_adL (List.replicate 63 0 ++ [t0, t1, t2, t3, t4, t5]), ca, s.heap.size) := ⟨_, rfl⟩
  have hB0 : ∀ ad : Nat → Nat, (∀ k, k < 6 → ad (63 + k) = [t0, t1, t2, t3, t4, t5].getD k 0) → nw_B ((dC, dI), ad, ca, s.heap.size) s s.heap := by
    intro ad had
    refine ⟨⟨hKc, fun k q hq => ?_⟩, fun q hq => va_Nw.of rfl (hts _ (List.mem_append_right _ ((by decide +kernel : ∀ q ∈ nw_nF, Cond.fieldLinkNest q.1 q.2.1 q.2.2.1 q.2.2.2.1 q.2.2.2.2.1 q.2.2.2.2.2 ∈ tables_1) q hq))), fun q hq => va_Nw.of rfl (hts _ (List.mem_append_right _ ((by decide +kernel : ∀ q ∈ nw_nM, Cond.methodLinkNest q.1 q.2.1 q.2.2.1 q.2.2.2 ∈ tables_1) q hq))), fun k hk => ?_⟩
    · subst hca
      match k, hq with
      | 0, hq => cases hq; exact ⟨fun N z => ⟨(fun k h => by cases h), kI, i2, coI, i3⟩, i1⟩
      | 1, hq => cases hq; exact ⟨fun N z => ⟨(fun k h => by cases h), kJ, j2, coJ, j3⟩, j1⟩
      | 2, hq => cases hq; exact ⟨fun N z => ⟨(fun k h => by cases h), kZ, z2, coZ, z3⟩, z1⟩
      | 3, hq => cases hq; exact ⟨fun N z => ⟨(fun k h => by cases h), kS, s2, coS, s3⟩, kS, coS, s2, s3, s0, s4⟩
      | k + 4, hq => simp [nw_tys] at hq
    · have e := had k hk
      show va_Z RX4 (nw_sn k) "[I" (.ref (ad (63 + k))) _ s s.heap ∧ va_T .int (ad (63 + k)) _ _ _ s s.heap
      rw [e]
      match k, hk with
      | 0, _ => exact ⟨hz0, ht0⟩
      | 1, _ => exact ⟨hz1, ht1⟩
      | 2, _ => exact ⟨hz2, ht2⟩
      | 3, _ => exact ⟨hz3, ht3⟩
      | 4, _ => exact ⟨hz4, ht4⟩
      | 5, _ => exact ⟨hz5, ht5⟩
      | k + 6, h => exact absurd h (by omega)
  obtain ⟨X, hXe⟩ : ∃ X : nw_EX, X = (p, l, e, room_1, s, m, #[Value.ref b], below, meth, c, lw_Z below #[Value.ref b] s) := ⟨_, rfl⟩
  have hR : X.2.2.2.1 = room_1 := by rw [hXe]
  have hCF : CallFix X.1 X.2.2.2.2.2.1 X.2.2.2.2.2.2.2.2.2.1 code 4 X.2.2.2.2.1 X.2.2.2.2.2.2.1 nw_T RL := by rw [hXe]; exact ⟨hxx, hb, hml, hown, htT⟩
  have hn : nc_ok P0 X code RL 4 := by
    refine ⟨hCF, ?_, ?_, ?_⟩
    · rw [hXe, hP0]; exact hB0 _ (fun k hk => by match k, hk with | 0, _ => rfl | 1, _ => rfl | 2, _ => rfl | 3, _ => rfl | 4, _ => rfl | 5, _ => rfl | k + 6, h => exact absurd h (by omega))
    · rw [hXe, hP0]; exact Nat.le_refl _
    · rw [hXe]; exact va_AO.of hover
  suffices hG : nc_G P0 X 4 [] 0 0 [(0, .ref b)] 0 [] by
    have hl := lv_entry ([.ref b]) (n := 4) (Nat.le_of_ble_eq_true rfl)
    rw [lg_entry_eq]
    have hG2 := hG s.heap [] _ (fun k q h => by simp at h) ⟨fun i j p q h => by simp at h, fun k q h => by simp at h⟩ (by rw [hXe]; exact va_S.rf) hl
    rw [hXe] at hG2
    exact hG2
  refine nc_new (pc := 0) (ci := 4) (C := RX4) (T := TX4) (N := 13) (fs := [.null, .null, .null, .null, .null, .null, .null, .null, .null, .null, .int 0, .int 0, .int 0]) hn in_T4 tyX4 tyX4_ok nw_w871 nw_w869 nw_w24 rfl (fun j hj => by rcases (show j = 0 ∨ j = 1 ∨ j = 2 ∨ j = 3 ∨ j = 4 ∨ j = 5 ∨ j = 6 ∨ j = 7 ∨ j = 8 ∨ j = 9 ∨ j = 10 ∨ j = 11 ∨ j = 12 by omega) with rfl | rfl | rfl | rfl | rfl | rfl | rfl | rfl | rfl | rfl | rfl | rfl | rfl <;> rfl) (by rw [hR]; decide) dL_law_0 (fun hx => ?_)
  show nc_G P0 X 4 [(hx, .inr (4, [.null, .null, .null, .null, .null, .null, .null, .null, .null, .null, .int 0, .int 0, .int 0]))] 1 13 [(0, .ref b)] 3 [.ref hx]
  refine nc_dup (pc := 3) hn dL_law_3 rfl ?_
  refine nc_callI (pc := 4) (As := []) (rest := [.ref hx]) hn (ci4_init X.2.1 P0 hx) (nw_goodN nw_w872) nw_w24 nw_w873 nw_w874 rfl yd4_init.2 rfl (by rw [hR]; decide) rfl rfl (Nat.le_of_ble_eq_true rfl) rfl (by rw [hR]; decide) dL_law_4 (fun ws2 hw2 => ?_)
  obtain ⟨xq5_4, xq6_5_9, xq30_21_9, xq24_12, xq6_5_17, xq30_21_17, xq43_20, xq6_5_23, xq13_9_23, xq56_26, xq6_5_29, xq13_9_29, xq69_32, xq6_5_35, xq13_9_35, xq82_38, xq6_5_41, xq13_9_41, xq95_44, xq8_5_46, xq17_9_46, xq26_13_46, xq35_17_46, xq44_21_46, xq53_25_46, xq107_50, xq125_60, xq7_5_62, xq125_72, xq7_5_74, xq125_84, xq7_5_86, xq125_96, xq7_5_98, xq143_107, xq151_111, rfl⟩ := hw2
  show nc_G P0 X 4 [(xq125_96, .inr (1, [.ref xq7_5_98, .int 0, .int 0, .int 1])), (xq7_5_98, .inl (P0.2.2.1 0, 48, .inl (fun _ => 0))), (xq125_84, .inr (1, [.ref xq7_5_86, .int 0, .int 0, .int 1])), (xq7_5_86, .inl (P0.2.2.1 0, 48, .inl (fun _ => 0))), (xq125_72, .inr (1, [.ref xq7_5_74, .int 0, .int 0, .int 1])), (xq7_5_74, .inl (P0.2.2.1 0, 48, .inl (fun _ => 0))), (xq125_60, .inr (1, [.ref xq7_5_62, .int 0, .int 0, .int 1])), (xq7_5_62, .inl (P0.2.2.1 0, 48, .inl (fun _ => 0))), (xq95_44, .inr (3, [.ref xq8_5_46, .ref xq17_9_46, .ref xq26_13_46, .ref xq35_17_46, .ref xq44_21_46, .ref xq53_25_46, .int 0])), (xq8_5_46, .inl (P0.2.2.1 0, 240, .inl (fun _ => 0))), (xq17_9_46, .inl (P0.2.2.1 0, 240, .inl (fun _ => 0))), (xq26_13_46, .inl (P0.2.2.1 2, 240, .inl (fun _ => 0))), (xq35_17_46, .inl (P0.2.2.1 0, 240, .inl (fun _ => 0))), (xq44_21_46, .inl (P0.2.2.1 0, 241, .inl (fun _ => 0))), (xq53_25_46, .inl (P0.2.2.1 0, 401, .inl (fun _ => 0))), (xq82_38, .inr (0, [.ref xq6_5_41, .ref xq13_9_41, .int 0])), (xq6_5_41, .inl (P0.2.2.1 0, 8, .inl (fun _ => 0))), (xq13_9_41, .inl (P0.2.2.1 0, 8, .inl (fun _ => 0))), (xq69_32, .inr (0, [.ref xq6_5_35, .ref xq13_9_35, .int 0])), (xq6_5_35, .inl (P0.2.2.1 0, 12, .inl (fun _ => 0))), (xq13_9_35, .inl (P0.2.2.1 0, 12, .inl (fun _ => 0))), (xq56_26, .inr (0, [.ref xq6_5_29, .ref xq13_9_29, .int 0])), (xq6_5_29, .inl (P0.2.2.1 0, 8, .inl (fun _ => 0))), (xq13_9_29, .inl (P0.2.2.1 0, 8, .inl (fun _ => 0))), (xq43_20, .inr (0, [.ref xq6_5_23, .ref xq13_9_23, .int 0])), (xq6_5_23, .inl (P0.2.2.1 0, 12, .inl (fun _ => 0))), (xq13_9_23, .inl (P0.2.2.1 0, 12, .inl (fun _ => 0))), (xq24_12, .inr (2, [.ref xq6_5_17, .ref (P0.2.1 65), .ref (P0.2.1 66), .ref xq30_21_17, .int 0, .int (-1), .int 0])), (xq6_5_17, .inl (P0.2.2.1 0, 47, .inl (fun _ => 0))), (xq30_21_17, .inl (P0.2.2.1 0, 24, .inl (fun _ => 0))), (xq5_4, .inr (2, [.ref xq6_5_9, .ref (P0.2.1 63), .ref (P0.2.1 64), .ref xq30_21_9, .int 0, .int (-1), .int 0])), (xq6_5_9, .inl (P0.2.2.1 0, 35, .inl (fun _ => 0))), (xq30_21_9, .inl (P0.2.2.1 0, 18, .inl (fun _ => 0))), (hx, .inr (4, [.ref xq5_4, .ref xq24_12, .ref xq43_20, .ref xq56_26, .ref xq69_32, .ref xq82_38, .ref xq95_44, .ref xq107_50, .ref xq143_107, .ref xq151_111, .int 0, .int 0, .int 0])), (xq107_50, .inl (P0.2.2.1 3, 4, .inr (.inr (.inr (.inr (va_up (va_up (va_up (va_up (fun _ => none) 0 (some xq125_60)) 1 (some xq125_72)) 2 (some xq125_84)) 3 (some xq125_96))))))), (xq143_107, .inl (P0.2.2.1 0, 240, .inl (fun _ => 0))), (xq151_111, .inl (P0.2.2.1 1, 13, .inr (.inl (fun _ => 0))))] 37 2317 [(0, .ref b)] 7 [.ref hx]
  refine nc_astore_n (pc := 7) (lv' := [(1, .ref hx), (0, .ref b)]) hn dL_law_7 rfl (by decide) rfl ?_
  refine nc_new (pc := 8) (ci := 5) (C := RX5) (T := TX5) (N := 38) (fs := [.null, .null, .int 0, .null, .null, .null, .int 0, .null, .null, .null, .int 0, .int 0, .null, .null, .int 0, .null, .int 0, .null, .null, .null, .null, .null, .int 0, .int 0, .int 0, .int 0, .int 0, .null, .int 0, .null, .null, .null, .null, .null, .null, .null, .null, .int 0]) hn in_T5 tyX5 tyX5_ok nw_w875 nw_w870 nw_w342 rfl (fun j hj => by rcases (show j = 0 ∨ j = 1 ∨ j = 2 ∨ j = 3 ∨ j = 4 ∨ j = 5 ∨ j = 6 ∨ j = 7 ∨ j = 8 ∨ j = 9 ∨ j = 10 ∨ j = 11 ∨ j = 12 ∨ j = 13 ∨ j = 14 ∨ j = 15 ∨ j = 16 ∨ j = 17 ∨ j = 18 ∨ j = 19 ∨ j = 20 ∨ j = 21 ∨ j = 22 ∨ j = 23 ∨ j = 24 ∨ j = 25 ∨ j = 26 ∨ j = 27 ∨ j = 28 ∨ j = 29 ∨ j = 30 ∨ j = 31 ∨ j = 32 ∨ j = 33 ∨ j = 34 ∨ j = 35 ∨ j = 36 ∨ j = 37 by omega) with rfl | rfl | rfl | rfl | rfl | rfl | rfl | rfl | rfl | rfl | rfl | rfl | rfl | rfl | rfl | rfl | rfl | rfl | rfl | rfl | rfl | rfl | rfl | rfl | rfl | rfl | rfl | rfl | rfl | rfl | rfl | rfl | rfl | rfl | rfl | rfl | rfl | rfl <;> rfl) (by rw [hR]; decide) dL_law_8 (fun hm => ?_)
  refine nc_perm (ws' := [(hm, .inr (5, [.null, .null, .int 0, .null, .null, .null, .int 0, .null, .null, .null, .int 0, .int 0, .null, .null, .int 0, .null, .int 0, .null, .null, .null, .null, .null, .int 0, .int 0, .int 0, .int 0, .int 0, .null, .int 0, .null, .null, .null, .null, .null, .null, .null, .null, .int 0]))] ++ [(xq125_96, .inr (1, [.ref xq7_5_98, .int 0, .int 0, .int 1])), (xq7_5_98, .inl (P0.2.2.1 0, 48, .inl (fun _ => 0))), (xq125_84, .inr (1, [.ref xq7_5_86, .int 0, .int 0, .int 1])), (xq7_5_86, .inl (P0.2.2.1 0, 48, .inl (fun _ => 0))), (xq125_72, .inr (1, [.ref xq7_5_74, .int 0, .int 0, .int 1])), (xq7_5_74, .inl (P0.2.2.1 0, 48, .inl (fun _ => 0))), (xq125_60, .inr (1, [.ref xq7_5_62, .int 0, .int 0, .int 1])), (xq7_5_62, .inl (P0.2.2.1 0, 48, .inl (fun _ => 0))), (xq95_44, .inr (3, [.ref xq8_5_46, .ref xq17_9_46, .ref xq26_13_46, .ref xq35_17_46, .ref xq44_21_46, .ref xq53_25_46, .int 0])), (xq8_5_46, .inl (P0.2.2.1 0, 240, .inl (fun _ => 0))), (xq17_9_46, .inl (P0.2.2.1 0, 240, .inl (fun _ => 0))), (xq26_13_46, .inl (P0.2.2.1 2, 240, .inl (fun _ => 0))), (xq35_17_46, .inl (P0.2.2.1 0, 240, .inl (fun _ => 0))), (xq44_21_46, .inl (P0.2.2.1 0, 241, .inl (fun _ => 0))), (xq53_25_46, .inl (P0.2.2.1 0, 401, .inl (fun _ => 0))), (xq82_38, .inr (0, [.ref xq6_5_41, .ref xq13_9_41, .int 0])), (xq6_5_41, .inl (P0.2.2.1 0, 8, .inl (fun _ => 0))), (xq13_9_41, .inl (P0.2.2.1 0, 8, .inl (fun _ => 0))), (xq69_32, .inr (0, [.ref xq6_5_35, .ref xq13_9_35, .int 0])), (xq6_5_35, .inl (P0.2.2.1 0, 12, .inl (fun _ => 0))), (xq13_9_35, .inl (P0.2.2.1 0, 12, .inl (fun _ => 0))), (xq56_26, .inr (0, [.ref xq6_5_29, .ref xq13_9_29, .int 0])), (xq6_5_29, .inl (P0.2.2.1 0, 8, .inl (fun _ => 0))), (xq13_9_29, .inl (P0.2.2.1 0, 8, .inl (fun _ => 0))), (xq43_20, .inr (0, [.ref xq6_5_23, .ref xq13_9_23, .int 0])), (xq6_5_23, .inl (P0.2.2.1 0, 12, .inl (fun _ => 0))), (xq13_9_23, .inl (P0.2.2.1 0, 12, .inl (fun _ => 0))), (xq24_12, .inr (2, [.ref xq6_5_17, .ref (P0.2.1 65), .ref (P0.2.1 66), .ref xq30_21_17, .int 0, .int (-1), .int 0])), (xq6_5_17, .inl (P0.2.2.1 0, 47, .inl (fun _ => 0))), (xq30_21_17, .inl (P0.2.2.1 0, 24, .inl (fun _ => 0))), (xq5_4, .inr (2, [.ref xq6_5_9, .ref (P0.2.1 63), .ref (P0.2.1 64), .ref xq30_21_9, .int 0, .int (-1), .int 0])), (xq6_5_9, .inl (P0.2.2.1 0, 35, .inl (fun _ => 0))), (xq30_21_9, .inl (P0.2.2.1 0, 18, .inl (fun _ => 0))), (hx, .inr (4, [.ref xq5_4, .ref xq24_12, .ref xq43_20, .ref xq56_26, .ref xq69_32, .ref xq82_38, .ref xq95_44, .ref xq107_50, .ref xq143_107, .ref xq151_111, .int 0, .int 0, .int 0])), (xq107_50, .inl (P0.2.2.1 3, 4, .inr (.inr (.inr (.inr (va_up (va_up (va_up (va_up (fun _ => none) 0 (some xq125_60)) 1 (some xq125_72)) 2 (some xq125_84)) 3 (some xq125_96))))))), (xq143_107, .inl (P0.2.2.1 0, 240, .inl (fun _ => 0))), (xq151_111, .inl (P0.2.2.1 1, 13, .inr (.inl (fun _ => 0))))]) [37, 0, 1, 2, 3, 4, 5, 6, 7, 8, 9, 10, 11, 12, 13, 14, 15, 16, 17, 18, 19, 20, 21, 22, 23, 24, 25, 26, 27, 28, 29, 30, 31, 32, 33, 34, 35, 36] (by decide) rfl rfl ?_
  show nc_G P0 X 4 ([(hm, .inr (5, [.null, .null, .int 0, .null, .null, .null, .int 0, .null, .null, .null, .int 0, .int 0, .null, .null, .int 0, .null, .int 0, .null, .null, .null, .null, .null, .int 0, .int 0, .int 0, .int 0, .int 0, .null, .int 0, .null, .null, .null, .null, .null, .null, .null, .null, .int 0]))] ++ [(xq125_96, .inr (1, [.ref xq7_5_98, .int 0, .int 0, .int 1])), (xq7_5_98, .inl (P0.2.2.1 0, 48, .inl (fun _ => 0))), (xq125_84, .inr (1, [.ref xq7_5_86, .int 0, .int 0, .int 1])), (xq7_5_86, .inl (P0.2.2.1 0, 48, .inl (fun _ => 0))), (xq125_72, .inr (1, [.ref xq7_5_74, .int 0, .int 0, .int 1])), (xq7_5_74, .inl (P0.2.2.1 0, 48, .inl (fun _ => 0))), (xq125_60, .inr (1, [.ref xq7_5_62, .int 0, .int 0, .int 1])), (xq7_5_62, .inl (P0.2.2.1 0, 48, .inl (fun _ => 0))), (xq95_44, .inr (3, [.ref xq8_5_46, .ref xq17_9_46, .ref xq26_13_46, .ref xq35_17_46, .ref xq44_21_46, .ref xq53_25_46, .int 0])), (xq8_5_46, .inl (P0.2.2.1 0, 240, .inl (fun _ => 0))), (xq17_9_46, .inl (P0.2.2.1 0, 240, .inl (fun _ => 0))), (xq26_13_46, .inl (P0.2.2.1 2, 240, .inl (fun _ => 0))), (xq35_17_46, .inl (P0.2.2.1 0, 240, .inl (fun _ => 0))), (xq44_21_46, .inl (P0.2.2.1 0, 241, .inl (fun _ => 0))), (xq53_25_46, .inl (P0.2.2.1 0, 401, .inl (fun _ => 0))), (xq82_38, .inr (0, [.ref xq6_5_41, .ref xq13_9_41, .int 0])), (xq6_5_41, .inl (P0.2.2.1 0, 8, .inl (fun _ => 0))), (xq13_9_41, .inl (P0.2.2.1 0, 8, .inl (fun _ => 0))), (xq69_32, .inr (0, [.ref xq6_5_35, .ref xq13_9_35, .int 0])), (xq6_5_35, .inl (P0.2.2.1 0, 12, .inl (fun _ => 0))), (xq13_9_35, .inl (P0.2.2.1 0, 12, .inl (fun _ => 0))), (xq56_26, .inr (0, [.ref xq6_5_29, .ref xq13_9_29, .int 0])), (xq6_5_29, .inl (P0.2.2.1 0, 8, .inl (fun _ => 0))), (xq13_9_29, .inl (P0.2.2.1 0, 8, .inl (fun _ => 0))), (xq43_20, .inr (0, [.ref xq6_5_23, .ref xq13_9_23, .int 0])), (xq6_5_23, .inl (P0.2.2.1 0, 12, .inl (fun _ => 0))), (xq13_9_23, .inl (P0.2.2.1 0, 12, .inl (fun _ => 0))), (xq24_12, .inr (2, [.ref xq6_5_17, .ref (P0.2.1 65), .ref (P0.2.1 66), .ref xq30_21_17, .int 0, .int (-1), .int 0])), (xq6_5_17, .inl (P0.2.2.1 0, 47, .inl (fun _ => 0))), (xq30_21_17, .inl (P0.2.2.1 0, 24, .inl (fun _ => 0))), (xq5_4, .inr (2, [.ref xq6_5_9, .ref (P0.2.1 63), .ref (P0.2.1 64), .ref xq30_21_9, .int 0, .int (-1), .int 0])), (xq6_5_9, .inl (P0.2.2.1 0, 35, .inl (fun _ => 0))), (xq30_21_9, .inl (P0.2.2.1 0, 18, .inl (fun _ => 0))), (hx, .inr (4, [.ref xq5_4, .ref xq24_12, .ref xq43_20, .ref xq56_26, .ref xq69_32, .ref xq82_38, .ref xq95_44, .ref xq107_50, .ref xq143_107, .ref xq151_111, .int 0, .int 0, .int 0])), (xq107_50, .inl (P0.2.2.1 3, 4, .inr (.inr (.inr (.inr (va_up (va_up (va_up (va_up (fun _ => none) 0 (some xq125_60)) 1 (some xq125_72)) 2 (some xq125_84)) 3 (some xq125_96))))))), (xq143_107, .inl (P0.2.2.1 0, 240, .inl (fun _ => 0))), (xq151_111, .inl (P0.2.2.1 1, 13, .inr (.inl (fun _ => 0))))]) 38 2355 [(1, .ref hx), (0, .ref b)] 11 [.ref hm]
  refine nc_dup (pc := 11) hn dL_law_11 rfl ?_
  refine nc_callI (pc := 12) (As := []) (rest := [.ref hm]) hn (ci5_init X.2.1 P0 hm [(xq125_96, .inr (1, [.ref xq7_5_98, .int 0, .int 0, .int 1])), (xq7_5_98, .inl (P0.2.2.1 0, 48, .inl (fun _ => 0))), (xq125_84, .inr (1, [.ref xq7_5_86, .int 0, .int 0, .int 1])), (xq7_5_86, .inl (P0.2.2.1 0, 48, .inl (fun _ => 0))), (xq125_72, .inr (1, [.ref xq7_5_74, .int 0, .int 0, .int 1])), (xq7_5_74, .inl (P0.2.2.1 0, 48, .inl (fun _ => 0))), (xq125_60, .inr (1, [.ref xq7_5_62, .int 0, .int 0, .int 1])), (xq7_5_62, .inl (P0.2.2.1 0, 48, .inl (fun _ => 0))), (xq95_44, .inr (3, [.ref xq8_5_46, .ref xq17_9_46, .ref xq26_13_46, .ref xq35_17_46, .ref xq44_21_46, .ref xq53_25_46, .int 0])), (xq8_5_46, .inl (P0.2.2.1 0, 240, .inl (fun _ => 0))), (xq17_9_46, .inl (P0.2.2.1 0, 240, .inl (fun _ => 0))), (xq26_13_46, .inl (P0.2.2.1 2, 240, .inl (fun _ => 0))), (xq35_17_46, .inl (P0.2.2.1 0, 240, .inl (fun _ => 0))), (xq44_21_46, .inl (P0.2.2.1 0, 241, .inl (fun _ => 0))), (xq53_25_46, .inl (P0.2.2.1 0, 401, .inl (fun _ => 0))), (xq82_38, .inr (0, [.ref xq6_5_41, .ref xq13_9_41, .int 0])), (xq6_5_41, .inl (P0.2.2.1 0, 8, .inl (fun _ => 0))), (xq13_9_41, .inl (P0.2.2.1 0, 8, .inl (fun _ => 0))), (xq69_32, .inr (0, [.ref xq6_5_35, .ref xq13_9_35, .int 0])), (xq6_5_35, .inl (P0.2.2.1 0, 12, .inl (fun _ => 0))), (xq13_9_35, .inl (P0.2.2.1 0, 12, .inl (fun _ => 0))), (xq56_26, .inr (0, [.ref xq6_5_29, .ref xq13_9_29, .int 0])), (xq6_5_29, .inl (P0.2.2.1 0, 8, .inl (fun _ => 0))), (xq13_9_29, .inl (P0.2.2.1 0, 8, .inl (fun _ => 0))), (xq43_20, .inr (0, [.ref xq6_5_23, .ref xq13_9_23, .int 0])), (xq6_5_23, .inl (P0.2.2.1 0, 12, .inl (fun _ => 0))), (xq13_9_23, .inl (P0.2.2.1 0, 12, .inl (fun _ => 0))), (xq24_12, .inr (2, [.ref xq6_5_17, .ref (P0.2.1 65), .ref (P0.2.1 66), .ref xq30_21_17, .int 0, .int (-1), .int 0])), (xq6_5_17, .inl (P0.2.2.1 0, 47, .inl (fun _ => 0))), (xq30_21_17, .inl (P0.2.2.1 0, 24, .inl (fun _ => 0))), (xq5_4, .inr (2, [.ref xq6_5_9, .ref (P0.2.1 63), .ref (P0.2.1 64), .ref xq30_21_9, .int 0, .int (-1), .int 0])), (xq6_5_9, .inl (P0.2.2.1 0, 35, .inl (fun _ => 0))), (xq30_21_9, .inl (P0.2.2.1 0, 18, .inl (fun _ => 0))), (hx, .inr (4, [.ref xq5_4, .ref xq24_12, .ref xq43_20, .ref xq56_26, .ref xq69_32, .ref xq82_38, .ref xq95_44, .ref xq107_50, .ref xq143_107, .ref xq151_111, .int 0, .int 0, .int 0])), (xq107_50, .inl (P0.2.2.1 3, 4, .inr (.inr (.inr (.inr (va_up (va_up (va_up (va_up (fun _ => none) 0 (some xq125_60)) 1 (some xq125_72)) 2 (some xq125_84)) 3 (some xq125_96))))))), (xq143_107, .inl (P0.2.2.1 0, 240, .inl (fun _ => 0))), (xq151_111, .inl (P0.2.2.1 1, 13, .inr (.inl (fun _ => 0))))]) (nw_goodN nw_w876) nw_w342 nw_w877 nw_w878 rfl yd5_init.2 rfl (by rw [hR]; decide) rfl rfl (Nat.le_of_ble_eq_true rfl) rfl (by rw [hR]; decide) dL_law_12 (fun ws2 hw2 => ?_)
  obtain ⟨mq6_5, mq14_9, mq22_13, mq30_17, mq38_21, mq46_25, mq54_29, mq62_33, mq70_37, mq78_41, mq86_45, mq94_49, mq102_53, mq111_57, mq120_61, mq129_65, mq138_69, mq146_73, mq154_77, mq162_81, mq169_85, mq176_89, mq183_93, mq192_97, mq200_101, rfl⟩ := hw2
  show nc_G P0 X 4 [(hm, .inr (5, [.ref mq6_5, .ref mq14_9, .int 0, .ref mq22_13, .ref mq30_17, .ref mq38_21, .int 0, .ref mq46_25, .ref mq54_29, .ref mq62_33, .int 0, .int 0, .ref mq70_37, .ref mq78_41, .int 0, .ref mq86_45, .int 0, .ref mq94_49, .ref mq102_53, .ref mq111_57, .ref mq120_61, .ref mq129_65, .int 0, .int 0, .int 0, .int 0, .int 0, .ref mq138_69, .int 0, .ref mq146_73, .ref mq154_77, .ref mq162_81, .ref mq169_85, .ref mq176_89, .ref mq183_93, .ref mq192_97, .ref mq200_101, .int 0])), (mq6_5, .inl (P0.2.2.1 0, 2, .inl (fun _ => 0))), (mq14_9, .inl (P0.2.2.1 0, 94, .inl (fun _ => 0))), (mq22_13, .inl (P0.2.2.1 0, 7, .inl (fun _ => 0))), (mq30_17, .inl (P0.2.2.1 0, 7, .inl (fun _ => 0))), (mq38_21, .inl (P0.2.2.1 0, 7, .inl (fun _ => 0))), (mq46_25, .inl (P0.2.2.1 0, 9, .inl (fun _ => 0))), (mq54_29, .inl (P0.2.2.1 0, 9, .inl (fun _ => 0))), (mq62_33, .inl (P0.2.2.1 0, 9, .inl (fun _ => 0))), (mq70_37, .inl (P0.2.2.1 0, 13, .inl (fun _ => 0))), (mq78_41, .inl (P0.2.2.1 0, 13, .inl (fun _ => 0))), (mq86_45, .inl (P0.2.2.1 0, 9, .inl (fun _ => 0))), (mq94_49, .inl (P0.2.2.1 0, 13, .inl (fun _ => 0))), (mq102_53, .inl (P0.2.2.1 0, 13, .inl (fun _ => 0))), (mq111_57, .inl (P0.2.2.1 0, 240, .inl (fun _ => 0))), (mq120_61, .inl (P0.2.2.1 0, 240, .inl (fun _ => 0))), (mq129_65, .inl (P0.2.2.1 0, 240, .inl (fun _ => 0))), (mq138_69, .inl (P0.2.2.1 2, 401, .inl (fun _ => 0))), (mq146_73, .inl (P0.2.2.1 0, 8, .inl (fun _ => 0))), (mq154_77, .inl (P0.2.2.1 0, 8, .inl (fun _ => 0))), (mq162_81, .inl (P0.2.2.1 1, 15, .inr (.inl (fun _ => 0)))), (mq169_85, .inl (P0.2.2.1 2, 4, .inl (fun _ => 0))), (mq176_89, .inl (P0.2.2.1 0, 4, .inl (fun _ => 0))), (mq183_93, .inl (P0.2.2.1 0, 4, .inl (fun _ => 0))), (mq192_97, .inl (P0.2.2.1 0, 192, .inl (fun _ => 0))), (mq200_101, .inl (P0.2.2.1 0, 48, .inl (fun _ => 0))), (xq125_96, .inr (1, [.ref xq7_5_98, .int 0, .int 0, .int 1])), (xq7_5_98, .inl (P0.2.2.1 0, 48, .inl (fun _ => 0))), (xq125_84, .inr (1, [.ref xq7_5_86, .int 0, .int 0, .int 1])), (xq7_5_86, .inl (P0.2.2.1 0, 48, .inl (fun _ => 0))), (xq125_72, .inr (1, [.ref xq7_5_74, .int 0, .int 0, .int 1])), (xq7_5_74, .inl (P0.2.2.1 0, 48, .inl (fun _ => 0))), (xq125_60, .inr (1, [.ref xq7_5_62, .int 0, .int 0, .int 1])), (xq7_5_62, .inl (P0.2.2.1 0, 48, .inl (fun _ => 0))), (xq95_44, .inr (3, [.ref xq8_5_46, .ref xq17_9_46, .ref xq26_13_46, .ref xq35_17_46, .ref xq44_21_46, .ref xq53_25_46, .int 0])), (xq8_5_46, .inl (P0.2.2.1 0, 240, .inl (fun _ => 0))), (xq17_9_46, .inl (P0.2.2.1 0, 240, .inl (fun _ => 0))), (xq26_13_46, .inl (P0.2.2.1 2, 240, .inl (fun _ => 0))), (xq35_17_46, .inl (P0.2.2.1 0, 240, .inl (fun _ => 0))), (xq44_21_46, .inl (P0.2.2.1 0, 241, .inl (fun _ => 0))), (xq53_25_46, .inl (P0.2.2.1 0, 401, .inl (fun _ => 0))), (xq82_38, .inr (0, [.ref xq6_5_41, .ref xq13_9_41, .int 0])), (xq6_5_41, .inl (P0.2.2.1 0, 8, .inl (fun _ => 0))), (xq13_9_41, .inl (P0.2.2.1 0, 8, .inl (fun _ => 0))), (xq69_32, .inr (0, [.ref xq6_5_35, .ref xq13_9_35, .int 0])), (xq6_5_35, .inl (P0.2.2.1 0, 12, .inl (fun _ => 0))), (xq13_9_35, .inl (P0.2.2.1 0, 12, .inl (fun _ => 0))), (xq56_26, .inr (0, [.ref xq6_5_29, .ref xq13_9_29, .int 0])), (xq6_5_29, .inl (P0.2.2.1 0, 8, .inl (fun _ => 0))), (xq13_9_29, .inl (P0.2.2.1 0, 8, .inl (fun _ => 0))), (xq43_20, .inr (0, [.ref xq6_5_23, .ref xq13_9_23, .int 0])), (xq6_5_23, .inl (P0.2.2.1 0, 12, .inl (fun _ => 0))), (xq13_9_23, .inl (P0.2.2.1 0, 12, .inl (fun _ => 0))), (xq24_12, .inr (2, [.ref xq6_5_17, .ref (P0.2.1 65), .ref (P0.2.1 66), .ref xq30_21_17, .int 0, .int (-1), .int 0])), (xq6_5_17, .inl (P0.2.2.1 0, 47, .inl (fun _ => 0))), (xq30_21_17, .inl (P0.2.2.1 0, 24, .inl (fun _ => 0))), (xq5_4, .inr (2, [.ref xq6_5_9, .ref (P0.2.1 63), .ref (P0.2.1 64), .ref xq30_21_9, .int 0, .int (-1), .int 0])), (xq6_5_9, .inl (P0.2.2.1 0, 35, .inl (fun _ => 0))), (xq30_21_9, .inl (P0.2.2.1 0, 18, .inl (fun _ => 0))), (hx, .inr (4, [.ref xq5_4, .ref xq24_12, .ref xq43_20, .ref xq56_26, .ref xq69_32, .ref xq82_38, .ref xq95_44, .ref xq107_50, .ref xq143_107, .ref xq151_111, .int 0, .int 0, .int 0])), (xq107_50, .inl (P0.2.2.1 3, 4, .inr (.inr (.inr (.inr (va_up (va_up (va_up (va_up (fun _ => none) 0 (some xq125_60)) 1 (some xq125_72)) 2 (some xq125_84)) 3 (some xq125_96))))))), (xq143_107, .inl (P0.2.2.1 0, 240, .inl (fun _ => 0))), (xq151_111, .inl (P0.2.2.1 1, 13, .inr (.inl (fun _ => 0))))] 63 3964 [(1, .ref hx), (0, .ref b)] 15 [.ref hm]
  refine nc_astore_n (pc := 15) (lv' := [(2, .ref hm), (1, .ref hx), (0, .ref b)]) hn dL_law_15 rfl (by decide) rfl ?_
  refine nc_iconst (pc := 16) (v := 0) hn dL_law_16 (by decide) ?_
  refine nc_istore_n (pc := 17) (lv' := [(3, .int 0), (2, .ref hm), (1, .ref hx), (0, .ref b)]) hn dL_law_17 rfl (by decide) rfl ?_
  intro H locs ls h1 h2 h3 h4
  obtain ⟨ad, had⟩ : ∃ ad : Nat → Nat, ad = nw_adL [hx, xq5_4, xq6_5_9, xq30_21_9, xq24_12, xq6_5_17, xq30_21_17, xq43_20, xq6_5_23, xq13_9_23, xq56_26, xq6_5_29, xq13_9_29, xq69_32, xq6_5_35, xq13_9_35, xq82_38, xq6_5_41, xq13_9_41, xq95_44, xq8_5_46, xq17_9_46, xq26_13_46, xq35_17_46, xq44_21_46, xq53_25_46, xq107_50, xq125_60, xq7_5_62, xq125_72, xq7_5_74, xq125_84, xq7_5_86, xq125_96, xq7_5_98, xq143_107, xq151_111, hm, mq6_5, mq14_9, mq22_13, mq30_17, mq38_21, mq46_25, mq54_29, mq62_33, mq70_37, mq78_41, mq86_45, mq94_49, mq102_53, mq111_57, mq120_61, mq129_65, mq138_69, mq146_73, mq154_77, mq162_81, mq169_85, mq176_89, mq183_93, mq192_97, mq200_101, t0, t1, t2, t3, t4, t5] := ⟨_, rfl⟩
  have hP1 : va_P P0.1 vwCl ((nw_W (nw_adL [hx, xq5_4, xq6_5_9, xq30_21_9, xq24_12, xq6_5_17, xq30_21_17, xq43_20, xq6_5_23, xq13_9_23, xq56_26, xq6_5_29, xq13_9_29, xq69_32, xq6_5_35, xq13_9_35, xq82_38, xq6_5_41, xq13_9_41, xq95_44, xq8_5_46, xq17_9_46, xq26_13_46, xq35_17_46, xq44_21_46, xq53_25_46, xq107_50, xq125_60, xq7_5_62, xq125_72, xq7_5_74, xq125_84, xq7_5_86, xq125_96, xq7_5_98, xq143_107, xq151_111, hm, mq6_5, mq14_9, mq22_13, mq30_17, mq38_21, mq46_25, mq54_29, mq62_33, mq70_37, mq78_41, mq86_45, mq94_49, mq102_53, mq111_57, mq120_61, mq129_65, mq138_69, mq146_73, mq154_77, mq162_81, mq169_85, mq176_89, mq183_93, mq192_97, mq200_101, t0, t1, t2, t3, t4, t5]) P0.2.2.1 nw_s0).set 26 (xq107_50, .inl (P0.2.2.1 3, 4, .inr (.inr (.inr (.inr (va_up (va_up (va_up (va_up (fun _ => none) 0 (some xq125_60)) 1 (some xq125_72)) 2 (some xq125_84)) 3 (some xq125_96)))))))) H := by
    rw [hP0] at h1 ⊢
    exact h1.sub [59, 56, 57, 58, 53, 54, 55, 50, 51, 52, 47, 48, 49, 44, 45, 46, 41, 42, 43, 34, 35, 36, 37, 38, 39, 40, 60, 32, 33, 30, 31, 28, 29, 26, 27, 61, 62, 0, 1, 2, 3, 4, 5, 6, 7, 8, 9, 10, 11, 12, 13, 14, 15, 16, 17, 18, 19, 20, 21, 22, 23, 24, 25] rfl
  have hP2 : va_P P0.1 vwCl (nw_W (nw_adL [hx, xq5_4, xq6_5_9, xq30_21_9, xq24_12, xq6_5_17, xq30_21_17, xq43_20, xq6_5_23, xq13_9_23, xq56_26, xq6_5_29, xq13_9_29, xq69_32, xq6_5_35, xq13_9_35, xq82_38, xq6_5_41, xq13_9_41, xq95_44, xq8_5_46, xq17_9_46, xq26_13_46, xq35_17_46, xq44_21_46, xq53_25_46, xq107_50, xq125_60, xq7_5_62, xq125_72, xq7_5_74, xq125_84, xq7_5_86, xq125_96, xq7_5_98, xq143_107, xq151_111, hm, mq6_5, mq14_9, mq22_13, mq30_17, mq38_21, mq46_25, mq54_29, mq62_33, mq70_37, mq78_41, mq86_45, mq94_49, mq102_53, mq111_57, mq120_61, mq129_65, mq138_69, mq146_73, mq154_77, mq162_81, mq169_85, mq176_89, mq183_93, mq192_97, mq200_101, t0, t1, t2, t3, t4, t5]) P0.2.2.1 nw_s0) H := nw_shf (g := fun i => some (nw_adL [hx, xq5_4, xq6_5_9, xq30_21_9, xq24_12, xq6_5_17, xq30_21_17, xq43_20, xq6_5_23, xq13_9_23, xq56_26, xq6_5_29, xq13_9_29, xq69_32, xq6_5_35, xq13_9_35, xq82_38, xq6_5_41, xq13_9_41, xq95_44, xq8_5_46, xq17_9_46, xq26_13_46, xq35_17_46, xq44_21_46, xq53_25_46, xq107_50, xq125_60, xq7_5_62, xq125_72, xq7_5_74, xq125_84, xq7_5_86, xq125_96, xq7_5_98, xq143_107, xq151_111, hm, mq6_5, mq14_9, mq22_13, mq30_17, mq38_21, mq46_25, mq54_29, mq62_33, mq70_37, mq78_41, mq86_45, mq94_49, mq102_53, mq111_57, mq120_61, mq129_65, mq138_69, mq146_73, mq154_77, mq162_81, mq169_85, mq176_89, mq183_93, mq192_97, mq200_101, t0, t1, t2, t3, t4, t5] (27 + 2 * i))) hP1 (j := 26) rfl (fun i hi => by
    rcases (show i = 0 ∨ i = 1 ∨ i = 2 ∨ i = 3 by omega) with rfl | rfl | rfl | rfl <;> rfl)
  have hD2 : ∀ σ, va_D (nw_A P0) (nw_W (nw_adL [hx, xq5_4, xq6_5_9, xq30_21_9, xq24_12, xq6_5_17, xq30_21_17, xq43_20, xq6_5_23, xq13_9_23, xq56_26, xq6_5_29, xq13_9_29, xq69_32, xq6_5_35, xq13_9_35, xq82_38, xq6_5_41, xq13_9_41, xq95_44, xq8_5_46, xq17_9_46, xq26_13_46, xq35_17_46, xq44_21_46, xq53_25_46, xq107_50, xq125_60, xq7_5_62, xq125_72, xq7_5_74, xq125_84, xq7_5_86, xq125_96, xq7_5_98, xq143_107, xq151_111, hm, mq6_5, mq14_9, mq22_13, mq30_17, mq38_21, mq46_25, mq54_29, mq62_33, mq70_37, mq78_41, mq86_45, mq94_49, mq102_53, mq111_57, mq120_61, mq129_65, mq138_69, mq146_73, mq154_77, mq162_81, mq169_85, mq176_89, mq183_93, mq192_97, mq200_101, t0, t1, t2, t3, t4, t5]) P0.2.2.1 σ) := fun σ => nw_Dmap (h2.sub [59, 56, 57, 58, 53, 54, 55, 50, 51, 52, 47, 48, 49, 44, 45, 46, 41, 42, 43, 34, 35, 36, 37, 38, 39, 40, 60, 32, 33, 30, 31, 28, 29, 26, 27, 61, 62, 0, 1, 2, 3, 4, 5, 6, 7, 8, 9, 10, 11, 12, 13, 14, 15, 16, 17, 18, 19, 20, 21, 22, 23, 24, 25] (by decide) rfl : va_D (nw_A P0) [(hx, .inr (4, [.ref xq5_4, .ref xq24_12, .ref xq43_20, .ref xq56_26, .ref xq69_32, .ref xq82_38, .ref xq95_44, .ref xq107_50, .ref xq143_107, .ref xq151_111, .int 0, .int 0, .int 0])), (xq5_4, .inr (2, [.ref xq6_5_9, .ref (P0.2.1 63), .ref (P0.2.1 64), .ref xq30_21_9, .int 0, .int (-1), .int 0])), (xq6_5_9, .inl (P0.2.2.1 0, 35, .inl (fun _ => 0))), (xq30_21_9, .inl (P0.2.2.1 0, 18, .inl (fun _ => 0))), (xq24_12, .inr (2, [.ref xq6_5_17, .ref (P0.2.1 65), .ref (P0.2.1 66), .ref xq30_21_17, .int 0, .int (-1), .int 0])), (xq6_5_17, .inl (P0.2.2.1 0, 47, .inl (fun _ => 0))), (xq30_21_17, .inl (P0.2.2.1 0, 24, .inl (fun _ => 0))), (xq43_20, .inr (0, [.ref xq6_5_23, .ref xq13_9_23, .int 0])), (xq6_5_23, .inl (P0.2.2.1 0, 12, .inl (fun _ => 0))), (xq13_9_23, .inl (P0.2.2.1 0, 12, .inl (fun _ => 0))), (xq56_26, .inr (0, [.ref xq6_5_29, .ref xq13_9_29, .int 0])), (xq6_5_29, .inl (P0.2.2.1 0, 8, .inl (fun _ => 0))), (xq13_9_29, .inl (P0.2.2.1 0, 8, .inl (fun _ => 0))), (xq69_32, .inr (0, [.ref xq6_5_35, .ref xq13_9_35, .int 0])), (xq6_5_35, .inl (P0.2.2.1 0, 12, .inl (fun _ => 0))), (xq13_9_35, .inl (P0.2.2.1 0, 12, .inl (fun _ => 0))), (xq82_38, .inr (0, [.ref xq6_5_41, .ref xq13_9_41, .int 0])), (xq6_5_41, .inl (P0.2.2.1 0, 8, .inl (fun _ => 0))), (xq13_9_41, .inl (P0.2.2.1 0, 8, .inl (fun _ => 0))), (xq95_44, .inr (3, [.ref xq8_5_46, .ref xq17_9_46, .ref xq26_13_46, .ref xq35_17_46, .ref xq44_21_46, .ref xq53_25_46, .int 0])), (xq8_5_46, .inl (P0.2.2.1 0, 240, .inl (fun _ => 0))), (xq17_9_46, .inl (P0.2.2.1 0, 240, .inl (fun _ => 0))), (xq26_13_46, .inl (P0.2.2.1 2, 240, .inl (fun _ => 0))), (xq35_17_46, .inl (P0.2.2.1 0, 240, .inl (fun _ => 0))), (xq44_21_46, .inl (P0.2.2.1 0, 241, .inl (fun _ => 0))), (xq53_25_46, .inl (P0.2.2.1 0, 401, .inl (fun _ => 0))), (xq107_50, .inl (P0.2.2.1 3, 4, .inr (.inr (.inr (.inr (va_up (va_up (va_up (va_up (fun _ => none) 0 (some xq125_60)) 1 (some xq125_72)) 2 (some xq125_84)) 3 (some xq125_96))))))), (xq125_60, .inr (1, [.ref xq7_5_62, .int 0, .int 0, .int 1])), (xq7_5_62, .inl (P0.2.2.1 0, 48, .inl (fun _ => 0))), (xq125_72, .inr (1, [.ref xq7_5_74, .int 0, .int 0, .int 1])), (xq7_5_74, .inl (P0.2.2.1 0, 48, .inl (fun _ => 0))), (xq125_84, .inr (1, [.ref xq7_5_86, .int 0, .int 0, .int 1])), (xq7_5_86, .inl (P0.2.2.1 0, 48, .inl (fun _ => 0))), (xq125_96, .inr (1, [.ref xq7_5_98, .int 0, .int 0, .int 1])), (xq7_5_98, .inl (P0.2.2.1 0, 48, .inl (fun _ => 0))), (xq143_107, .inl (P0.2.2.1 0, 240, .inl (fun _ => 0))), (xq151_111, .inl (P0.2.2.1 1, 13, .inr (.inl (fun _ => 0)))), (hm, .inr (5, [.ref mq6_5, .ref mq14_9, .int 0, .ref mq22_13, .ref mq30_17, .ref mq38_21, .int 0, .ref mq46_25, .ref mq54_29, .ref mq62_33, .int 0, .int 0, .ref mq70_37, .ref mq78_41, .int 0, .ref mq86_45, .int 0, .ref mq94_49, .ref mq102_53, .ref mq111_57, .ref mq120_61, .ref mq129_65, .int 0, .int 0, .int 0, .int 0, .int 0, .ref mq138_69, .int 0, .ref mq146_73, .ref mq154_77, .ref mq162_81, .ref mq169_85, .ref mq176_89, .ref mq183_93, .ref mq192_97, .ref mq200_101, .int 0])), (mq6_5, .inl (P0.2.2.1 0, 2, .inl (fun _ => 0))), (mq14_9, .inl (P0.2.2.1 0, 94, .inl (fun _ => 0))), (mq22_13, .inl (P0.2.2.1 0, 7, .inl (fun _ => 0))), (mq30_17, .inl (P0.2.2.1 0, 7, .inl (fun _ => 0))), (mq38_21, .inl (P0.2.2.1 0, 7, .inl (fun _ => 0))), (mq46_25, .inl (P0.2.2.1 0, 9, .inl (fun _ => 0))), (mq54_29, .inl (P0.2.2.1 0, 9, .inl (fun _ => 0))), (mq62_33, .inl (P0.2.2.1 0, 9, .inl (fun _ => 0))), (mq70_37, .inl (P0.2.2.1 0, 13, .inl (fun _ => 0))), (mq78_41, .inl (P0.2.2.1 0, 13, .inl (fun _ => 0))), (mq86_45, .inl (P0.2.2.1 0, 9, .inl (fun _ => 0))), (mq94_49, .inl (P0.2.2.1 0, 13, .inl (fun _ => 0))), (mq102_53, .inl (P0.2.2.1 0, 13, .inl (fun _ => 0))), (mq111_57, .inl (P0.2.2.1 0, 240, .inl (fun _ => 0))), (mq120_61, .inl (P0.2.2.1 0, 240, .inl (fun _ => 0))), (mq129_65, .inl (P0.2.2.1 0, 240, .inl (fun _ => 0))), (mq138_69, .inl (P0.2.2.1 2, 401, .inl (fun _ => 0))), (mq146_73, .inl (P0.2.2.1 0, 8, .inl (fun _ => 0))), (mq154_77, .inl (P0.2.2.1 0, 8, .inl (fun _ => 0))), (mq162_81, .inl (P0.2.2.1 1, 15, .inr (.inl (fun _ => 0)))), (mq169_85, .inl (P0.2.2.1 2, 4, .inl (fun _ => 0))), (mq176_89, .inl (P0.2.2.1 0, 4, .inl (fun _ => 0))), (mq183_93, .inl (P0.2.2.1 0, 4, .inl (fun _ => 0))), (mq192_97, .inl (P0.2.2.1 0, 192, .inl (fun _ => 0))), (mq200_101, .inl (P0.2.2.1 0, 48, .inl (fun _ => 0)))]) rfl
  rw [← had] at hP2 hD2
  have hadS : ∀ k, k < 6 → ad (63 + k) = [t0, t1, t2, t3, t4, t5].getD k 0 := by
    intro k hk
    rw [had]
    match k, hk with
    | 0, _ => rfl
    | 1, _ => rfl
    | 2, _ => rfl
    | 3, _ => rfl
    | 4, _ => rfl
    | 5, _ => rfl
    | k + 6, h => exact absurd h (by omega)
  have hx0 : ad 0 = hx := by rw [had]; rfl
  have hm0 : ad 37 = hm := by rw [had]; rfl
  have hB1 := hB0 ad hadS
  clear had hP1
  obtain ⟨P, hPe⟩ : ∃ P : nw_PT, P = ((dC, dI), ad, ca, s.heap.size) := ⟨_, rfl⟩
  have hok : nw_ok P X code RL 4 := by
    refine ⟨hCF, ?_, ?_⟩
    · rw [hXe, hPe]; exact hB1
    · rw [hPe]; rw [hP0] at hD2; exact hD2
  have key := nl_loop (P := P) (X := X) (b := b) (L := L) (xs := xs) (Inv := Inv) hok hR (by rw [hXe]; exact hX) (by rw [hXe]; exact hbl) (by rw [hPe]; exact Nat.not_le.mpr hbl) hL hSt (fun H ls => by rw [hXe]; exact lw_ret hxx hb hr hlocks dL_law_1363) (fun q hq => by rw [hXe]; rw [hPe] at hq; exact hq) (L + 1) 0 nw_s0 (Nat.zero_le _) (by omega) hI0
  refine W.widen (k := 600000) (n := 7302250) (by decide) (by decide) ?_
  refine key H locs ls ?_ ?_ ?_
  · rw [hPe]; rw [hP0] at hP2; exact hP2
  · rw [hPe]; rw [hP0] at h3; exact h3
  · rw [hPe]
    show lv_has ls 4 [(0, .ref b), (1, .ref (ad 0)), (2, .ref (ad 37)), (3, .int (nI 0))]
    rw [hx0, hm0]
    exact lv_sub h4 [3, 2, 1, 0] rfl

