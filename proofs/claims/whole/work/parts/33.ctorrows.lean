/-- the world of a constructor: the cells so far -/
def nc_Wd (P : nw_PT) (ws : va_W) (t : State) : Prop := va_P P.1 vwCl ws t.heap ∧ va_D (nw_A P) ws ∧ nw_B P t t.heap ∧ P.2.2.2 ≤ t.heap.size ∧ va_AO "NumberedWaves$Sheet" t
theorem nc_Bcall {P : nw_PT} {U : State} (g : JFrame) (mk : MethodId) (a : Array Value) (h : nw_B P U U.heap) : nw_B P (U.calling g mk a) U.heap :=
  ⟨va_K.moved (u := U) (U := U.calling g mk a) (Vm.Alike.refl U.vm) h.1, fun q hq => va_Nw.same rfl (rfl : U.vm = (U.calling g mk a).vm) (h.2.1 q hq), fun q hq => va_Nw.same rfl (rfl : U.vm = (U.calling g mk a).vm) (h.2.2.1 q hq), fun k hk => ⟨(h.2.2.2 k hk).1.moved (u := U) (U := U.calling g mk a) (Vm.Alike.refl U.vm), (h.2.2.2 k hk).2.moved (u := U) (U := U.calling g mk a) (Vm.Alike.refl U.vm)⟩⟩
theorem nc_Wd.call {P : nw_PT} {ws : va_W} {U : State} (g : JFrame) (mk : MethodId) (a : Array Value) (h : nc_Wd P ws U) : nc_Wd P ws (U.calling g mk a) := ⟨h.1, h.2.1, nc_Bcall g mk a h.2.2.1, h.2.2.2.1, va_AO.moved (u := U) (U := U.calling g mk a) (Vm.Alike.refl U.vm) h.2.2.2.2⟩
def nc_Qc (P : nw_PT) (Ws : va_W → Prop) : Array Value → State → Outcome → State → Prop := fun _ st oc t => (oc = .returned none ∧ ∃ ws : va_W, Ws ws ∧ nc_Wd P ws t) ∧ va_F (nw_A P) st t
def nc_MT (l : Launch) (y : MethodName) (cc : ByteArray) (maxL : Nat) (rm : Room) (P : nw_PT) (As : List Value) (ws : va_W) (Ws : va_W → Prop) (mc ms : Nat) : Prop :=
  Met l y (Cond.code y cc maxL none :: nw_T) rm (va_Pc As (fun U => nc_Wd P ws U)) (nc_Qc P Ws) mc ms (nw_A P)
def nc_G (P : nw_PT) (X : nw_EX) (nL : Nat) (ws : va_W) (kc ks : Nat) (lv : List (Nat × Value)) (pc : Nat) (st : List Value) : Prop :=
  ∀ (H : Heap) (locs : List Loc) (ls : Array Slot), va_P P.1 vwCl ws H → va_D (nw_A P) ws → va_S (nw_A P) X.2.2.2.2.1.heap H locs → lv_has ls nL lv → W X.1 X.2.1 X.2.2.1 X.2.2.2.1 X.2.2.2.2.1 X.2.2.2.2.2.1 X.2.2.2.2.2.2.1 X.2.2.2.2.2.2.2.1 X.2.2.2.2.2.2.2.2.1 X.2.2.2.2.2.2.2.2.2.1 H locs kc ks X.2.2.2.2.2.2.2.2.2.2 (F0 X.2.2.2.2.2.1 pc ls st)
def nc_ok (P : nw_PT) (X : nw_EX) (cc : ByteArray) (own : String) (nL : Nat) : Prop :=
  CallFix X.1 X.2.2.2.2.2.1 X.2.2.2.2.2.2.2.2.2.1 cc nL X.2.2.2.2.1 X.2.2.2.2.2.2.1 nw_T own ∧ nw_B P X.2.2.2.2.1 X.2.2.2.2.1.heap ∧ P.2.2.2 ≤ X.2.2.2.2.1.heap.size ∧ va_AO "NumberedWaves$Sheet" X.2.2.2.2.1
def nc_end (P : nw_PT) (X : nw_EX) (Ws : va_W → Prop) (mc ms : Nat) : Prop :=
  X.2.2.2.2.2.2.2.2.2.2 = MQ X.2.2.2.2.2.2.2.1 (nc_Qc P Ws) X.2.2.2.2.2.2.1 X.2.2.2.2.1 mc ms (nw_A P) ∧ X.2.2.2.2.2.2.2.2.1.sig.returnType = none ∧ X.2.2.2.2.2.2.2.2.1.locks = false ∧ X.2.2.2.2.2.2.2.2.1.name = "<init>"
theorem nc_enter {l : Launch} {y : MethodName} {cc : ByteArray} {nL mc ms : Nat} {rm : Room} {P : nw_PT} {As : List Value} {ws : va_W} {Ws : va_W → Prop} (hy : plainName y.cls = true) (hy1 : y.name = "<init>") (hlen : (lg_sl As).length ≤ nL)
    (body : ∀ X : nw_EX, X.2.1 = l → nc_ok P X cc y.cls nL → nc_end P X Ws mc ms → X.2.2.2.1 = rm → nc_G P X nL ws 0 0 (lv_args 0 As) 0 []) : nc_MT l y cc nL rm P As ws Ws mc ms := by
  refine Met.ofW (cc := cc) (maxL := nL) (ret := none) hy rfl ?_
  intro p e s m args below meth c s₁ B hml hv
  obtain ⟨rfl, hP, hD, hB, hz, hao⟩ := hv
  have hts := atoms_spec (ws := Cond.code y cc nL none :: nw_T) B.pre
  have hl := lv_entry As (n := nL) hlen
  have hin : meth.name = "<init>" := ((name_of_methodNamed B.named B.method).1).trans hy1
  rw [lg_entry_eq]
  exact body (p, l, e, rm, s, m, As.toArray, below, meth, c, MQ below (nc_Qc P Ws) As.toArray s mc ms (nw_A P)) rfl ⟨⟨B.exec, B.bytes, hml, findClass_of_methodNamed B.named, fun w hw => hts w (List.mem_cons_of_mem _ hw)⟩, hB, hz, hao⟩ ⟨rfl, B.returns, B.notSynchronized, hin⟩ rfl s.heap [] _ hP hD va_S.rf hl
section NCA
variable {p : Program} {l : Launch} {e : Env} {R : Room} {s : State} {m : MethodId} {args : Array Value} {below : List Frame} {meth : Method} {c : Code} {H : Heap} {locs : List Loc} {Q : State → Prop} {kc ks mc ms : Nat}
theorem nc_after {P : nw_PT} {pc : Nat} {ls : Array Slot} {rest st0 : List Value} {a : Array Value} {Ws : va_W → Prop} (hr : va_Run p l e R s m args below meth c H locs kc ks mc ms (F0 m pc ls st0) rest (nc_Qc P Ws a) (nw_A P)) (hS : va_S (nw_A P) s.heap H locs)
    (k : ∀ (ws : va_W) (H1 : Heap) (locs1 : List Loc), Ws ws → va_P P.1 vwCl ws H1 → va_D (nw_A P) ws → va_S (nw_A P) s.heap H1 locs1 → W p l e R s m args below meth c H1 locs1 (kc + mc) (ks + ms) Q (F0 m (pc + 3) ls rest)) : W p l e R s m args below meth c H locs kc ks Q (F0 m pc ls st0) := by
  intro T hT XX
  obtain ⟨v, st₀, t, T', L, h0, X', hL, e1, e2, ⟨⟨hv, ws, hK, hWd⟩, hz, hk⟩, st⟩ := hr T hT XX
  cases hv
  rw [h0] at hz hk
  obtain ⟨t2, a1, b1⟩ := k ws T'.heap (locs ++ L) hK (by rw [e1]; exact hWd.1) hWd.2.1
    ⟨Nat.le_trans hS.1 (by rw [e1]; exact hz), fun q h1 h2 => by rw [e1, hk q (Nat.lt_of_lt_of_le h1 hS.1) h2]; exact hS.2.1 q h1 h2, fun q hq => by
      rcases List.mem_append.mp hq with h | h
      · exact hS.2.2 q h
      · exact hL q h⟩ T' rfl X'
  exact ⟨t2, st t2 a1, b1⟩
end NCA
section NCR
variable {P : nw_PT} {X : nw_EX} {cc : ByteArray} {own : String} {nL : Nat} {ws ws' pre a : va_W} {kc ks : Nat} {lv lv' : List (Nat × Value)} {pc : Nat} {st : List Value} {x y v : Int32}
theorem nc_iconst (h : nc_ok P X cc own nL) {n : Int} (hd : decode cc pc = .ok (.iconst n, 1)) (hv : Int32.ofInt n = v) (k : nc_G P X nL ws kc ks lv (pc + 1) (.int v :: st)) : nc_G P X nL ws kc ks lv pc st :=
  fun H locs ls h1 h2 h3 h4 => lv_iconst h.1.1 h.1.2.1 hd hv (k H locs ls h1 h2 h3 h4)
theorem nc_bipush (h : nc_ok P X cc own nL) {n : Int} (hd : decode cc pc = .ok (.bipush n, 2)) (hv : (Int8.ofInt n).toInt32 = v) (k : nc_G P X nL ws kc ks lv (pc + 2) (.int v :: st)) : nc_G P X nL ws kc ks lv pc st :=
  fun H locs ls h1 h2 h3 h4 => lv_bipush h.1.1 h.1.2.1 hd hv (k H locs ls h1 h2 h3 h4)
theorem nc_sipush (h : nc_ok P X cc own nL) {n : Int} (hd : decode cc pc = .ok (.sipush n, 3)) (hv : (Int16.ofInt n).toInt32 = v) (k : nc_G P X nL ws kc ks lv (pc + 3) (.int v :: st)) : nc_G P X nL ws kc ks lv pc st :=
  fun H locs ls h1 h2 h3 h4 => lv_sipush h.1.1 h.1.2.1 hd hv (k H locs ls h1 h2 h3 h4)
theorem nc_iload_n (h : nc_ok P X cc own nL) {n : Fin 4} {i : Nat} (hd : decode cc pc = .ok (.iload_n n, 1)) (hi : (n : Nat) = i) (j : Nat) (hl : lv[j]? = some (i, .int x)) (k : nc_G P X nL ws kc ks lv (pc + 1) (.int x :: st)) : nc_G P X nL ws kc ks lv pc st :=
  fun H locs ls h1 h2 h3 h4 => lv_iload_n h.1.1 h.1.2.1 hd hi (lv_at h4 j hl) (k H locs ls h1 h2 h3 h4)
theorem nc_aload_n (h : nc_ok P X cc own nL) {xr : Nat} {n : Fin 4} {i : Nat} (hd : decode cc pc = .ok (.aload_n n, 1)) (hi : (n : Nat) = i) (j : Nat) (hl : lv[j]? = some (i, .ref xr)) (k : nc_G P X nL ws kc ks lv (pc + 1) (.ref xr :: st)) : nc_G P X nL ws kc ks lv pc st :=
  fun H locs ls h1 h2 h3 h4 => lv_aload_n h.1.1 h.1.2.1 hd hi (lv_at h4 j hl) (k H locs ls h1 h2 h3 h4)
theorem nc_istore_n (h : nc_ok P X cc own nL) {n : Fin 4} {i : Nat} (hd : decode cc pc = .ok (.istore_n n, 1)) (hi : (n : Nat) = i) (hn : i < nL) (hl : (i, Value.int x) :: lv.filter (fun q => !(q.1 == i) && !(q.1 + 1 == i && q.2.category == 2)) = lv') (k : nc_G P X nL ws kc ks lv' (pc + 1) st) : nc_G P X nL ws kc ks lv pc (.int x :: st) :=
  fun H locs ls h1 h2 h3 h4 => lv_istore_n h.1.1 h.1.2.1 hd hi h4 hn hl (fun ls h4 => k H locs ls h1 h2 h3 h4)
theorem nc_iinc (h : nc_ok P X cc own nL) {i : Nat} {n : Int} {j : Nat} (hd : decode cc pc = .ok (.iinc i n, 3)) (hj : lv[j]? = some (i, .int x)) (hv : x + Int32.ofInt n = v) (hn : i < nL) (hl : (i, Value.int v) :: lv.filter (fun q => !(q.1 == i) && !(q.1 + 1 == i && q.2.category == 2)) = lv') (k : nc_G P X nL ws kc ks lv' (pc + 3) st) : nc_G P X nL ws kc ks lv pc st :=
  fun H locs ls h1 h2 h3 h4 => lv_iinc h.1.1 h.1.2.1 hd h4 hj hv hn hl (fun ls h4 => k H locs ls h1 h2 h3 h4)
theorem nc_iadd (h : nc_ok P X cc own nL) (hd : decode cc pc = .ok (.iadd, 1)) (hv : x + y = v) (k : nc_G P X nL ws kc ks lv (pc + 1) (.int v :: st)) : nc_G P X nL ws kc ks lv pc (.int y :: .int x :: st) :=
  fun H locs ls h1 h2 h3 h4 => by subst hv; exact lv_iadd h.1.1 h.1.2.1 hd (k H locs ls h1 h2 h3 h4)
theorem nc_imul (h : nc_ok P X cc own nL) (hd : decode cc pc = .ok (.imul, 1)) (hv : x * y = v) (k : nc_G P X nL ws kc ks lv (pc + 1) (.int v :: st)) : nc_G P X nL ws kc ks lv pc (.int y :: .int x :: st) :=
  fun H locs ls h1 h2 h3 h4 => by subst hv; exact lv_imul h.1.1 h.1.2.1 hd (k H locs ls h1 h2 h3 h4)
theorem nc_idiv (h : nc_ok P X cc own nL) (hd : decode cc pc = .ok (.idiv, 1)) (hne : ¬ y = 0) (hv : x / y = v) (k : nc_G P X nL ws kc ks lv (pc + 1) (.int v :: st)) : nc_G P X nL ws kc ks lv pc (.int y :: .int x :: st) :=
  fun H locs ls h1 h2 h3 h4 => by subst hv; exact lv_idiv h.1.1 h.1.2.1 hd hne (k H locs ls h1 h2 h3 h4)
theorem nc_dup (h : nc_ok P X cc own nL) {w : Value} (hd : decode cc pc = .ok (.dup, 1)) (hw : w.category = 1) (k : nc_G P X nL ws kc ks lv (pc + 1) (w :: w :: st)) : nc_G P X nL ws kc ks lv pc (w :: st) :=
  fun H locs ls h1 h2 h3 h4 => lv_dup h.1.1 h.1.2.1 hd hw (k H locs ls h1 h2 h3 h4)
theorem nc_icmp_ge (h : nc_ok P X cc own nL) {off : Int} {tgt : Nat} (hd : decode cc pc = .ok (.if_icmp .ge off, 3)) (ht : (pc : Int) + off = (tgt : Int)) (kt : y ≤ x → nc_G P X nL ws kc ks lv tgt st) (kf : ¬ y ≤ x → nc_G P X nL ws kc ks lv (pc + 3) st) : nc_G P X nL ws kc ks lv pc (.int y :: .int x :: st) :=
  fun H locs ls h1 h2 h3 h4 => lv_icmp_ge h.1.1 h.1.2.1 hd ht (fun z => kt z H locs ls h1 h2 h3 h4) (fun z => kf z H locs ls h1 h2 h3 h4)
theorem nc_goto (h : nc_ok P X cc own nL) {off : Int} {tgt : Nat} (hd : decode cc pc = .ok (.goto off, 3)) (ht : (pc : Int) + off = (tgt : Int)) (k : nc_G P X nL ws kc ks lv tgt st) : nc_G P X nL ws kc ks lv pc st :=
  fun H locs ls h1 h2 h3 h4 => lv_goto h.1.1 h.1.2.1 hd ht (k H locs ls h1 h2 h3 h4)
theorem nc_gets (h : nc_ok P X cc own nL) {index j : Nat} (hj : j < 6) (hw : Cond.fieldLink own index RX4 (nw_sn j) "[I" ∈ nw_T) (hd : decode cc pc = .ok (.getstatic index, 3)) (k : nc_G P X nL ws kc ks lv (pc + 3) (.ref (P.2.1 (63 + j)) :: st)) : nc_G P X nL ws kc ks lv pc st :=
  fun H locs ls h1 h2 h3 h4 => va_gets h.1.1 h.1.2.1 (h.2.1.2.2.2 j hj).1 h3 h.1.2.2.2.1 (h.1.2.2.2.2 _ hw) (fun _ z => z) hd (k H locs ls h1 h2 h3 h4)
theorem nc_objI (h : nc_ok P X cc own nL) {idx : Nat} {r : Nat} (hl : Cond.methodLink own idx objectInit ∈ nw_T) (hi : Cond.instanceMethod objectInit ∈ nw_T) (hc : Cond.code objectInit ⟨#[0xb1]⟩ 1 none ∈ nw_T) (hd : decode cc pc = .ok (.invokespecial idx, 3)) (hf : 1 ≤ X.2.2.2.1.frames) (hlo : 12 ≤ X.2.2.2.1.locals) (k : nc_G P X nL ws kc ks lv (pc + 3) []) : nc_G P X nL ws kc ks lv pc [.ref r] :=
  fun H locs ls h1 h2 h3 h4 => W.objInit (g := F0 X.2.2.2.2.2.1 pc ls [.ref r]) h.1.1 h.1.2.1 h.1.2.2.2.1 (h.1.2.2.2.2 _ hl) (h.1.2.2.2.2 _ hi) (h.1.2.2.2.2 _ hc) rfl (by rw [h.1.2.2.1]; exact h4.1) rfl hd hf (by show 2 * 0 + 0 + 12 ≤ _; omega) (k H locs ls h1 h2 h3 h4)
theorem nc_new (h : nc_ok P X cc own nL) {C : String} {T : u_T} {N ci index : Nat} {fs : List Value} (hin : ∀ w ∈ u_ws C T N, w ∈ nw_T) (ty : Nat → FieldType) (hty : ∀ k, k < N → parseFieldDescriptor (T k).2.2.1 = some (ty k)) (hcl : Cond.classLink own index C ∈ nw_T) (hins : Cond.instantiable C N ∈ nw_T) (hini : Cond.initialized C ∈ nw_T) (hc : vwCl[ci]? = some (C, T, N)) (hfs : ∀ j, j < N → defaultValue (ty j) = vp_V fs j) (hcs : kc + 1 ≤ X.2.2.2.1.cells ∧ ks + N ≤ X.2.2.2.1.slots) (hd : decode cc pc = .ok (.new index, 3)) (k : ∀ q : Nat, nc_G P X nL (ws ++ [(q, .inr (ci, fs))]) (kc + 1) (ks + N) lv (pc + 3) (.ref q :: st)) : nc_G P X nL ws kc ks lv pc st :=
  fun H locs ls h1 h2 h3 h4 => va_new h.1.1 h.1.2.1 h.1.2.2.2.2 hin ty hty h.1.2.2.2.1 (h.1.2.2.2.2 _ hcl) (h.1.2.2.2.2 _ hins) (h.1.2.2.2.2 _ hini) h.2.1.1 h1 h2 h3 (fun q hq => Nat.le_trans h.2.2.1 hq) hc hfs hcs.1 hcs.2 hd (fun q H1 g1 g2 g3 => k q H1 locs ls g1 g2 g3 h4)
theorem nc_newa (h : nc_ok P X cc own nL) {atype : ArrayType} {ty : FieldType} {N' : Nat} {a0 : vp_A} (j : Nat) (hw : Cond.arrayClass (newarray.typeOf atype) ∈ nw_T) (hty : newarray.typeOf atype = ty) (hj : (nw_tys P)[j]? = some (P.2.2.1 j, ty)) (hp : ∀ C, ty ≠ .object C) (ha : ∀ cA : ClassId, vp_cell cA a0 = arrV cA N' (fun _ => defaultValue ty)) (hn : ¬ x < 0) (hN : x.toNatClampNeg = N') (hby : N' * componentBytes ty ≤ 536870912) (hcs : kc + 1 ≤ X.2.2.2.1.cells ∧ ks + N' ≤ X.2.2.2.1.slots) (hd : decode cc pc = .ok (.newarray atype, 2)) (k : ∀ q : Nat, nc_G P X nL ((a ++ [(q, .inl (P.2.2.1 j, a0))]) ++ pre) (kc + 1) (ks + N') lv (pc + 2) (.ref q :: st)) : nc_G P X nL (a ++ pre) kc ks lv pc (.int x :: st) :=
  fun H locs ls h1 h2 h3 h4 => va_newa h.1.1 h.1.2.1 (h.1.2.2.2.2 _ hw) hty h.2.1.1 h1 h2 h3 (fun q hq => Nat.le_trans h.2.2.1 hq) ha hn hN hby hcs.1 hcs.2 hd (fun q cA H1 gK g1 g2 g3 => by
    have e : cA = P.2.2.1 j := by
      have r1 := (h.2.1.1.2 j _ hj).2
      have r2 := (gK.2 (nw_tys P).length (cA, ty) (by rw [List.getElem?_append_right (Nat.le_refl _), Nat.sub_self]; rfl)).2
      cases ty <;> first | exact absurd rfl (hp _) | exact Option.some.inj (r2.symm.trans r1)
    subst e
    exact k q H1 locs ls g1.swap g2.swap g3 h4)
theorem nc_newq (h : nc_ok P X cc own nL) {index : Nat} (hcl : Cond.classLink own index RX1 ∈ nw_T) {N' : Nat} (hn : ¬ x < 0) (hN : x.toNatClampNeg = N') (hby : N' * 4 ≤ 536870912) (hcs : kc + 1 ≤ X.2.2.2.1.cells ∧ ks + N' ≤ X.2.2.2.1.slots) (hd : decode cc pc = .ok (.anewarray index, 3)) (k : ∀ q : Nat, nc_G P X nL (ws ++ [(q, .inl (P.2.2.1 3, N', .inr (.inr (.inr (.inr (fun _ => none))))))]) (kc + 1) (ks + N') lv (pc + 3) (.ref q :: st)) : nc_G P X nL ws kc ks lv pc (.int x :: st) :=
  fun H locs ls h1 h2 h3 h4 => va_newq (C := RX1) h.1.1 h.1.2.1 h.1.2.2.2.1 (h.1.2.2.2.2 _ hcl) h.2.2.2 h.2.1.1 h1 h2 h3 (fun q hq => Nat.le_trans h.2.2.1 hq) hn hN hby hcs.1 hcs.2 hd (fun q cA H1 gK g1 g2 g3 => by
    have e : cA = P.2.2.1 3 := by
      obtain ⟨kA, comp, -, -, -, r1⟩ := (h.2.1.1.2 3 _ rfl).2
      obtain ⟨kB, comp2, -, -, -, r2⟩ := (gK.2 4 (cA, .object RX1) rfl).2
      exact Option.some.inj (r2.symm.trans r1)
    subst e
    exact k q H1 locs ls g1 g2 g3 h4)
theorem nc_putF (h : nc_ok P X cc own nL) (hnm0 : X.2.2.2.2.2.2.2.2.1.name = "<init>") {C : String} {T : u_T} {N ci index r : Nat} {fs : List Value} (hin : ∀ w ∈ u_ws C T N, w ∈ nw_T) (ty0 : Nat → FieldType) (hty : ∀ k, k < N → parseFieldDescriptor (T k).2.2.1 = some (ty0 k)) (hnm : ∀ a, a < N → ∀ b, b < N → a ≠ b → (T a).2.1 ≠ (T b).2.1) (q0 : Nat) (he : ws[q0]? = some (r, .inr (ci, fs))) (hc : vwCl[ci]? = some (C, T, N)) (j : Nat) (hj : j < N) (hw : Cond.fieldLink own index C (T j).2.1 (T j).2.2.1 ∈ nw_T) (hcr : (T j).1 = C) (hfin : (T j).2.2.2 = true) (hdecl : (T j).1 = own) {ty : FieldType} {w : Value} (hdp : parseFieldDescriptor (T j).2.2.1 = some ty) (hn : narrow ty w = w) (hfit : fits ty w = true) (hl : j < fs.length) (hws : ws.set q0 (r, .inr (ci, fs.set j w)) = ws') (hd : decode cc pc = .ok (.putfield index, 3)) (k : nc_G P X nL ws' kc ks lv (pc + 3) st) : nc_G P X nL ws kc ks lv pc (w :: .ref r :: st) :=
  fun H locs ls h1 h2 h3 h4 => va_putF (D := P.1) h.1.1 h.1.2.1 h.1.2.2.2.2 hin ty0 hty hnm h.1.2.2.2.1 h.2.1.1 h1 h2 h3 q0 he hc j hj (h.1.2.2.2.2 _ hw) (fun _ z => by rw [hcr] at z; exact z) hfin hnm0 hdecl hdp hn hfit hl hd (fun H1 locs1 g1 g2 g3 => by rw [hws] at g1 g2; exact k H1 locs1 ls g1 g2 g3 h4)
theorem nc_put (h : nc_ok P X cc own nL) {C : String} {T : u_T} {N ci index r : Nat} {fs : List Value} (hin : ∀ w ∈ u_ws C T N, w ∈ nw_T) (ty0 : Nat → FieldType) (hty : ∀ k, k < N → parseFieldDescriptor (T k).2.2.1 = some (ty0 k)) (hnm : ∀ a, a < N → ∀ b, b < N → a ≠ b → (T a).2.1 ≠ (T b).2.1) (q0 : Nat) (he : ws[q0]? = some (r, .inr (ci, fs))) (hc : vwCl[ci]? = some (C, T, N)) (j : Nat) (hj : j < N) (hw : Cond.fieldLink own index C (T j).2.1 (T j).2.2.1 ∈ nw_T) (hcr : (T j).1 = C) (hfin : (T j).2.2.2 = false) {ty : FieldType} {w : Value} (hdp : parseFieldDescriptor (T j).2.2.1 = some ty) (hn : narrow ty w = w) (hfit : fits ty w = true) (hl : j < fs.length) (hws : ws.set q0 (r, .inr (ci, fs.set j w)) = ws') (hd : decode cc pc = .ok (.putfield index, 3)) (k : nc_G P X nL ws' kc ks lv (pc + 3) st) : nc_G P X nL ws kc ks lv pc (w :: .ref r :: st) :=
  fun H locs ls h1 h2 h3 h4 => va_put (D := P.1) h.1.1 h.1.2.1 h.1.2.2.2.2 hin ty0 hty hnm h.1.2.2.2.1 h.2.1.1 h1 h2 h3 q0 he hc j hj (h.1.2.2.2.2 _ hw) (fun _ z => by rw [hcr] at z; exact z) hfin hdp hn hfit hl hd (fun H1 locs1 g1 g2 g3 => by rw [hws] at g1 g2; exact k H1 locs1 ls g1 g2 g3 h4)
theorem nc_get (h : nc_ok P X cc own nL) {C : String} {T : u_T} {N ci index r : Nat} {fs : List Value} (hin : ∀ w ∈ u_ws C T N, w ∈ nw_T) (q0 : Nat) (he : ws[q0]? = some (r, .inr (ci, fs))) (hc : vwCl[ci]? = some (C, T, N)) (j : Nat) (hj : j < N) (hw : Cond.fieldLink own index C (T j).2.1 (T j).2.2.1 ∈ nw_T) (hcr : (T j).1 = C) {w : Value} (hv : fs[j]? = some w) (hd : decode cc pc = .ok (.getfield index, 3)) (k : nc_G P X nL ws kc ks lv (pc + 3) (w :: st)) : nc_G P X nL ws kc ks lv pc (.ref r :: st) :=
  fun H locs ls h1 h2 h3 h4 => va_get (D := P.1) h.1.1 h.1.2.1 h.1.2.2.2.2 hin h.1.2.2.2.1 h.2.1.1 h1 q0 he hc j hj (h.1.2.2.2.2 _ hw) (fun _ z => by rw [hcr] at z; exact z) hv hd (k H locs ls h1 h2 h3 h4)
theorem nc_ast (h : nc_ok P X cc own nL) (q0 qk : Nat) {r v9 : Nat} {n : Nat} {vs : List Value} {f : Nat → Option Nat} (ha : ws[q0]? = some (r, .inl (P.2.2.1 3, n, .inr (.inr (.inr (.inr f)))))) (hv : ws[qk]? = some (v9, .inr (1, vs))) (hin : vp_in x n) (hws : ws.set q0 (r, .inl (P.2.2.1 3, n, .inr (.inr (.inr (.inr (va_up f x.toNatClampNeg (some v9))))))) = ws') (hd : decode cc pc = .ok (.aastore, 1)) (k : nc_G P X nL ws' kc ks lv (pc + 1) st) : nc_G P X nL ws kc ks lv pc (.ref v9 :: .int x :: .ref r :: st) :=
  fun H locs ls h1 h2 h3 h4 => va_astq (r := (RX1, TX1, 4)) h.1.1 h.1.2.1 h.2.1.1 h1 h2 h3 q0 3 qk 1 ha rfl hv rfl hin hd (fun H1 locs1 g1 g2 g3 => by rw [hws] at g1 g2; exact k H1 locs1 ls g1 g2 g3 h4)
theorem nc_perm (is : List Nat) (hn : va_nd is = true) (hs : is.map (fun i => ws[i]?) = ws'.map some) (hs2 : is.filterMap (fun i => ws[i]?) = ws') (k : nc_G P X nL ws' kc ks lv pc st) : nc_G P X nL ws kc ks lv pc st :=
  fun H locs ls h1 h2 h3 h4 => k H locs ls (h1.sub is hs2) (h2.sub is hn hs) h3 h4
theorem nc_vret (h : nc_ok P X cc own nL) {Ws : va_W → Prop} (he : nc_end P X Ws kc ks) (hd : decode cc pc = .ok (.return_, 1)) (hw : Ws ws) : nc_G P X nL ws kc ks lv pc [] := fun H locs ls h1 h2 h3 h4 => by
  rw [he.1]
  exact W.vret h.1.1 h.1.2.1 he.2.1 (fun t ht hW => ⟨⟨rfl, ws, hw, by rw [ht]; exact h1, h2, by rw [ht]; exact h.2.1.go hW h3, by rw [ht]; exact Nat.le_trans h.2.2.1 h3.1, va_AO.moved hW.alike h.2.2.2⟩, h3.F ht⟩) h3.2.2 hd he.2.2.1
variable {ym : MethodName} {bytes : ByteArray} {maxL n index mc ms r : Nat} {rm : Room} {Ws : va_W → Prop} {As rest : List Value}
theorem nc_callI (h : nc_ok P X cc own nL) (hM : nc_MT X.2.1 ym bytes maxL rm P (.ref r :: As) ws Ws mc ms) (hg : GoodIn nw_T (Cond.code ym bytes maxL none :: nw_T)) (hini : Cond.initialized ym.cls ∈ nw_T) (hl : Cond.methodLink own index ym ∈ nw_T) (hin : Cond.instanceMethod ym ∈ nw_T) (hy1 : ym.name = "<init>") (hy : ym.cls ≠ "java/lang/invoke/MethodHandle" ∧ ym.cls ≠ "java/lang/invoke/VarHandle" ∧ (parseMethodDescriptor ym.desc).map (fun d => d.parameters.length) = some n) (hn : As.length = n) (hR : rm.frames + 1 ≤ X.2.2.2.1.frames ∧ 8 + (maxL + 11) + rm.locals ≤ X.2.2.2.1.locals) (hrc : rm.cells = mc) (hrs : rm.slots = ms) (hst : (rest.map fun v => v.category).sum ≤ 8) (hs : As.reverse ++ .ref r :: rest = st) (hf : kc + mc ≤ X.2.2.2.1.cells ∧ ks + ms ≤ X.2.2.2.1.slots) (hd : decode cc pc = .ok (.invokespecial index, 3))
    (k : ∀ ws2 : va_W, Ws ws2 → nc_G P X nL ws2 (kc + mc) (ks + ms) lv (pc + 3) rest) : nc_G P X nL ws kc ks lv pc st := by
  intro H locs ls h1 h2 h3 h4
  subst hs
  exact nc_after (va_runI (As := As) (rest := rest) h.1 hM (cwI n h.1.2.2.2.2 hg rfl hrc hrs (h.1.2.2.2.2 _ hini) (h.1.2.2.2.2 _ hl) (h.1.2.2.2.2 _ hin) hy1 hy hR) ⟨fun a U g mk z => ⟨z.1, z.2.call g mk a⟩, fun U hU hW => ⟨rfl, by rw [hU]; exact h1, h2, by rw [hU]; exact h.2.1.go hW h3, by rw [hU]; exact Nat.le_trans h.2.2.1 h3.1, va_AO.moved hW.alike h.2.2.2⟩⟩ rfl hn h4.1 rfl (lv_room hst) hd hf) h3 (fun ws2 H1 locs1 z1 z2 z3 z4 => k ws2 z1 H1 locs1 ls z2 z3 z4 h4)
theorem nc_callIN (h : nc_ok P X cc own nL) {host : String} (hM : nc_MT X.2.1 ym bytes maxL rm P (.ref r :: As) ws Ws mc ms) (hg : GoodIn nw_T (Cond.code ym bytes maxL none :: nw_T)) (hini : Cond.initialized ym.cls ∈ nw_T) (hw : (own, index, ym, host) ∈ nw_nM) (hin : Cond.instanceMethod ym ∈ nw_T) (hy1 : ym.name = "<init>") (hy : ym.cls ≠ "java/lang/invoke/MethodHandle" ∧ ym.cls ≠ "java/lang/invoke/VarHandle" ∧ (parseMethodDescriptor ym.desc).map (fun d => d.parameters.length) = some n) (hn : As.length = n) (hR : rm.frames + 1 ≤ X.2.2.2.1.frames ∧ 8 + (maxL + 11) + rm.locals ≤ X.2.2.2.1.locals) (hrc : rm.cells = mc) (hrs : rm.slots = ms) (hst : (rest.map fun v => v.category).sum ≤ 8) (hs : As.reverse ++ .ref r :: rest = st) (hf : kc + mc ≤ X.2.2.2.1.cells ∧ ks + ms ≤ X.2.2.2.1.slots) (hd : decode cc pc = .ok (.invokespecial index, 3))
    (k : ∀ ws2 : va_W, Ws ws2 → nc_G P X nL ws2 (kc + mc) (ks + ms) lv (pc + 3) rest) : nc_G P X nL ws kc ks lv pc st := by
  intro H locs ls h1 h2 h3 h4
  subst hs
  exact nc_after (va_runIN (As := As) (rest := rest) (host := host) h.1 hM ⟨va_cnB n h.1.2.2.2.2 hg rfl hrc hrs (h.2.1.2.2.1 _ hw) (h.1.2.2.2.2 _ hini) hy hR, hy1, h.1.2.2.2.2 _ hin⟩ ⟨fun a U g mk z => ⟨z.1, z.2.call g mk a⟩, fun U hU hW => ⟨rfl, by rw [hU]; exact h1, h2, by rw [hU]; exact h.2.1.go hW h3, by rw [hU]; exact Nat.le_trans h.2.2.1 h3.1, va_AO.moved hW.alike h.2.2.2⟩⟩ rfl hn h4.1 rfl (lv_room hst) hd hf) h3 (fun ws2 H1 locs1 z1 z2 z3 z4 => k ws2 z1 H1 locs1 ls z2 z3 z4 h4)
end NCR
