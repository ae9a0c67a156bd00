def nw_T : List Cond := lw_tbl.filter goodWord
theorem nw_T_in {w : Cond} (h : w ∈ nw_T) : w ∈ lw_tbl := (List.mem_filter.mp h).1
theorem nw_T_good {w : Cond} (h : w ∈ nw_T) : (w.onTables && w.keeps) = true ∨ ∃ ty, w = .arrayClass ty := good_of_word (List.mem_filter.mp h).2
theorem nw_T_of {w : Cond} (h : w ∈ lw_tbl) (hg : goodWord w = true) : w ∈ nw_T := List.mem_filter.mpr ⟨h, hg⟩
def nw_nF : List (String × Nat × String × String × String × String) := [("NumberedWaves", 96, "NumberedWaves$Text", "length", "I", "NumberedWaves"), ("NumberedWaves", 102, "NumberedWaves$Text", "flaw", "I", "NumberedWaves"), ("NumberedWaves$Waves", 61, "NumberedWaves$Text", "entries", "I", "NumberedWaves"), ("NumberedWaves", 178, "NumberedWaves$Text", "entries", "I", "NumberedWaves"), ("NumberedWaves$Waves", 58, "NumberedWaves$Pairs", "first", "[I", "NumberedWaves"), ("NumberedWaves", 377, "NumberedWaves$Pairs", "first", "[I", "NumberedWaves"), ("NumberedWaves$Waves", 74, "NumberedWaves$Pairs", "second", "[I", "NumberedWaves"), ("NumberedWaves", 172, "NumberedWaves$Pairs", "second", "[I", "NumberedWaves"), ("NumberedWaves$Waves", 53, "NumberedWaves$Pairs", "size", "I", "NumberedWaves"), ("NumberedWaves", 127, "NumberedWaves$Pairs", "size", "I", "NumberedWaves"), ("NumberedWaves", 144, "NumberedWaves$Waves", "heights", "[I", "NumberedWaves"), ("NumberedWaves", 386, "NumberedWaves$Waves", "voided", "[Z", "NumberedWaves"), ("NumberedWaves", 162, "NumberedWaves$Waves", "turns", "[I", "NumberedWaves"), ("NumberedWaves", 380, "NumberedWaves$Waves", "numbers", "[I", "NumberedWaves"), ("NumberedWaves", 159, "NumberedWaves$Waves", "times", "[I", "NumberedWaves"), ("NumberedWaves", 236, "NumberedWaves$Waves", "calls", "I", "NumberedWaves"), ("NumberedWaves", 135, "NumberedWaves$Sheet", "items", "[I", "NumberedWaves"), ("NumberedWaves", 270, "NumberedWaves$Sheet", "form", "I", "NumberedWaves"), ("NumberedWaves", 134, "NumberedWaves$Sheet", "size", "I", "NumberedWaves"), ("NumberedWaves", 259, "NumberedWaves$Sheet", "lost", "Z", "NumberedWaves")]
def nw_nM : List (String × Nat × MethodName × String) := [("NumberedWaves", 54, ⟨"NumberedWaves$Waves", "<init>", "()V"⟩, "NumberedWaves"), ("NumberedWaves", 65, ⟨"NumberedWaves$Sheet", "<init>", "()V"⟩, "NumberedWaves"), ("NumberedWaves$Waves", 70, ⟨"NumberedWaves", "isCrest", "(III)Z"⟩, "NumberedWaves"), ("NumberedWaves$Waves", 35, ⟨"NumberedWaves", "breaksAt", "(II)Z"⟩, "NumberedWaves")]
def nw_sn (k : Nat) : String := (["SWELL_PARTS", "SWELL_LEAST", "FIND_PARTS", "FIND_LEAST", "DIGEST_TIMES", "DIGEST_NUMBERS"] : List String).getD k ""
abbrev nw_PT : Type := va_G × (Nat → Nat) × (Nat → ClassId) × Nat
def nw_A (P : nw_PT) : Nat → Prop := fun q => P.2.2.2 ≤ q
abbrev nw_tys (P : nw_PT) : List (ClassId × FieldType) := [(P.2.2.1 0, .int), (P.2.2.1 1, .long), (P.2.2.1 2, .boolean), (P.2.2.1 3, .object "NumberedWaves$Sheet")]
def nw_B (P : nw_PT) (U : State) (H : Heap) : Prop := va_K P.1 vwCl (nw_tys P) U ∧ (∀ q ∈ nw_nF, va_Nw (.fieldLinkNest q.1 q.2.1 q.2.2.1 q.2.2.2.1 q.2.2.2.2.1 q.2.2.2.2.2) U) ∧ (∀ q ∈ nw_nM, va_Nw (.methodLinkNest q.1 q.2.1 q.2.2.1 q.2.2.2) U) ∧
  ∀ k, k < 6 → va_Z RX4 (nw_sn k) "[I" (.ref (P.2.1 (63 + k))) (nw_A P) U H ∧ va_T .int (P.2.1 (63 + k)) (nw_len (63 + k)) (fun j => .int (nw_cst (63 + k) j)) (nw_A P) U H
theorem nw_B.go {P : nw_PT} {s U : State} {H : Heap} {locs : List Loc} (h : nw_B P s s.heap) (hW : s.WarmedH U.vm) (hS : va_S (nw_A P) s.heap H locs) : nw_B P U H :=
  ⟨va_K.moved hW.alike h.1, fun q hq => va_Nw.warmF hW (h.2.1 q hq), fun q hq => va_Nw.warmM hW (h.2.2.1 q hq), fun k hk => ⟨((h.2.2.2 k hk).1.kept (fun a h1 h2 => hS.2.1 a h1 h2)).moved hW.alike, ((h.2.2.2 k hk).2.kept (fun a h1 h2 => hS.2.1 a h1 h2)).moved hW.alike⟩⟩
def nw_Wd (P : nw_PT) (σ : nw_ST) (t : State) : Prop := va_P P.1 vwCl (nw_W P.2.1 P.2.2.1 σ) t.heap ∧ nw_B P t t.heap
theorem nw_Wd.call {P : nw_PT} {σ : nw_ST} {U : State} (g : JFrame) (mk : MethodId) (a : Array Value) (h : nw_Wd P σ U) : nw_Wd P σ (U.calling g mk a) :=
  ⟨h.1, va_K.moved (u := U) (U := U.calling g mk a) (Vm.Alike.refl U.vm) h.2.1, fun q hq => va_Nw.same rfl (rfl : U.vm = (U.calling g mk a).vm) (h.2.2.1 q hq), fun q hq => va_Nw.same rfl (rfl : U.vm = (U.calling g mk a).vm) (h.2.2.2.1 q hq), fun k hk => ⟨(h.2.2.2.2 k hk).1.moved (u := U) (U := U.calling g mk a) (Vm.Alike.refl U.vm), (h.2.2.2.2 k hk).2.moved (u := U) (U := U.calling g mk a) (Vm.Alike.refl U.vm)⟩⟩
def nw_D (P : nw_PT) : Prop := ∀ σ, va_D (nw_A P) (nw_W P.2.1 P.2.2.1 σ)
/-- a method's end: its answer and the state behind it -/
def nw_Qc (P : nw_PT) (Kv : Option Value → nw_ST → Prop) : Array Value → State → Outcome → State → Prop := fun _ st oc t => (∃ (v : Option Value) (σ : nw_ST), oc = .returned v ∧ Kv v σ ∧ nw_Wd P σ t) ∧ va_F (nw_A P) st t
def nw_MT (l : Launch) (y : MethodName) (cc : ByteArray) (maxL : Nat) (ret : Option FieldType) (rm : Room) (P : nw_PT) (As : List Value) (σ : nw_ST) (Kv : Option Value → nw_ST → Prop) : Prop :=
  Met l y (Cond.code y cc maxL ret :: nw_T) rm (va_Pc As (fun U => nw_Wd P σ U)) (nw_Qc P Kv) 0 0 (nw_A P)
def nw_Ki (K : Int32 → nw_ST → Prop) : Option Value → nw_ST → Prop := fun v σ => ∃ r : Int32, v = some (.int r) ∧ K r σ
def nw_Kl (K : Int64 → nw_ST → Prop) : Option Value → nw_ST → Prop := fun v σ => ∃ r : Int64, v = some (.long r) ∧ K r σ
def nw_Kv (K : nw_ST → Prop) : Option Value → nw_ST → Prop := fun v σ => v = none ∧ K σ
def nw_Kr (P : nw_PT) (c : Nat) (K : Nat → nw_ST → Prop) : Option Value → nw_ST → Prop := fun v σ => ∃ q : Nat, v = some (.ref (P.2.1 q)) ∧ nw_cl q = c ∧ K q σ
/-- a walk's surroundings: program, launch, env, room, start, method, arguments, frames below, method, code, end -/
abbrev nw_EX : Type := Program × Launch × Env × Room × State × MethodId × Array Value × List Frame × Method × Code × (State → Prop)
def nw_Wx (X : nw_EX) (H : Heap) (locs : List Loc) (g : JFrame) : Prop := W X.1 X.2.1 X.2.2.1 X.2.2.2.1 X.2.2.2.2.1 X.2.2.2.2.2.1 X.2.2.2.2.2.2.1 X.2.2.2.2.2.2.2.1 X.2.2.2.2.2.2.2.2.1 X.2.2.2.2.2.2.2.2.2.1 H locs 0 0 X.2.2.2.2.2.2.2.2.2.2 g
def nw_G (P : nw_PT) (X : nw_EX) (nL : Nat) (σ : nw_ST) (lv : List (Nat × Value)) (pc : Nat) (st : List Value) : Prop :=
  ∀ (H : Heap) (locs : List Loc) (ls : Array Slot), va_P P.1 vwCl (nw_W P.2.1 P.2.2.1 σ) H → va_S (nw_A P) X.2.2.2.2.1.heap H locs → lv_has ls nL lv → nw_Wx X H locs (F0 X.2.2.2.2.2.1 pc ls st)
def nw_ok (P : nw_PT) (X : nw_EX) (cc : ByteArray) (own : String) (nL : Nat) : Prop :=
  CallFix X.1 X.2.2.2.2.2.1 X.2.2.2.2.2.2.2.2.2.1 cc nL X.2.2.2.2.1 X.2.2.2.2.2.2.1 nw_T own ∧ nw_B P X.2.2.2.2.1 X.2.2.2.2.1.heap ∧ nw_D P
def nw_end (P : nw_PT) (X : nw_EX) (rt : Option FieldType) (Kv : Option Value → nw_ST → Prop) : Prop :=
  X.2.2.2.2.2.2.2.2.2.2 = MQ X.2.2.2.2.2.2.2.1 (nw_Qc P Kv) X.2.2.2.2.2.2.1 X.2.2.2.2.1 0 0 (nw_A P) ∧ X.2.2.2.2.2.2.2.2.1.sig.returnType = rt ∧ X.2.2.2.2.2.2.2.2.1.locks = false
theorem nw_enter {l : Launch} {y : MethodName} {cc : ByteArray} {nL : Nat} {ret : Option FieldType} {rm : Room} {P : nw_PT} {As : List Value} {σ : nw_ST} {Kv : Option Value → nw_ST → Prop} (hy : plainName y.cls = true) (hlen : (lg_sl As).length ≤ nL) (hD : nw_D P)
    (body : ∀ X : nw_EX, X.2.1 = l → nw_ok P X cc y.cls nL → nw_end P X ret Kv → X.2.2.2.1 = rm → nw_G P X nL σ (lv_args 0 As) 0 []) : nw_MT l y cc nL ret rm P As σ Kv := by
  refine Met.ofW (cc := cc) (maxL := nL) (ret := ret) hy rfl ?_
  intro p e s m args below meth c s₁ B hml hv
  obtain ⟨rfl, hP, hB⟩ := hv
  have hts := atoms_spec (ws := Cond.code y cc nL ret :: nw_T) B.pre
  have hl := lv_entry As (n := nL) hlen
  rw [lg_entry_eq]
  exact body (p, l, e, rm, s, m, As.toArray, below, meth, c, MQ below (nw_Qc P Kv) As.toArray s 0 0 (nw_A P)) rfl ⟨⟨B.exec, B.bytes, hml, findClass_of_methodNamed B.named, fun w hw => hts w (List.mem_cons_of_mem _ hw)⟩, hB, hD⟩ ⟨rfl, B.returns, B.notSynchronized⟩ rfl s.heap [] _ hP va_S.rf hl
section NWA
variable {p : Program} {l : Launch} {e : Env} {R : Room} {s : State} {m : MethodId} {args : Array Value} {below : List Frame} {meth : Method} {c : Code} {H : Heap} {locs : List Loc} {Q : State → Prop}
theorem nw_after {P : nw_PT} {pc : Nat} {ls : Array Slot} {rest st0 : List Value} {a : Array Value} {Kv : Option Value → nw_ST → Prop} (hr : va_Run p l e R s m args below meth c H locs 0 0 0 0 (F0 m pc ls st0) rest (nw_Qc P Kv a) (nw_A P)) (hS : va_S (nw_A P) s.heap H locs)
    (k : ∀ (v : Option Value) (σ : nw_ST) (H1 : Heap) (locs1 : List Loc), Kv v σ → va_P P.1 vwCl (nw_W P.2.1 P.2.2.1 σ) H1 → va_S (nw_A P) s.heap H1 locs1 → W p l e R s m args below meth c H1 locs1 0 0 Q (F0 m (pc + 3) ls (v.toList ++ rest))) : W p l e R s m args below meth c H locs 0 0 Q (F0 m pc ls st0) := by
  intro T hT XX
  obtain ⟨v, st₀, t, T', L, h0, X', hL, e1, e2, ⟨⟨v', σ', hv, hK, hWd⟩, hz, hk⟩, st⟩ := hr T hT XX
  cases hv
  rw [h0] at hz hk
  obtain ⟨t2, a1, b1⟩ := k v σ' T'.heap (locs ++ L) hK (by rw [e1]; exact hWd.1)
    ⟨Nat.le_trans hS.1 (by rw [e1]; exact hz), fun q h1 h2 => by rw [e1, hk q (Nat.lt_of_lt_of_le h1 hS.1) h2]; exact hS.2.1 q h1 h2, fun q hq => by
      rcases List.mem_append.mp hq with h | h
      · exact hS.2.2 q h
      · exact hL q h⟩ T' rfl X'
  exact ⟨t2, st t2 a1, b1⟩
end NWA
theorem nw_goodV {own C : String} {index : Nat} {y : MethodName} {cw : Cond} (h1 : Cond.methodLink own index y ∈ nw_T) (h2 : Cond.instanceMethod y ∈ nw_T) (h3 : Cond.selects C y y ∈ nw_T) (h4 : Cond.initialized C ∈ nw_T) (h5 : cw ∈ nw_T) : GoodIn nw_T (wsV own index C y (cw :: nw_T)) := by
  intro w hw
  have hm : w ∈ nw_T := by
    simp only [wsV, List.mem_append, List.mem_cons, List.not_mem_nil, or_false] at hw
    rcases hw with (rfl | rfl | rfl | rfl) | rfl | h <;> assumption
  exact ⟨hm, nw_T_good hm⟩
theorem nw_goodS {own : String} {index : Nat} {y : MethodName} {cw : Cond} (h1 : Cond.methodLink own index y ∈ nw_T) (h2 : Cond.static y ∈ nw_T) (h4 : Cond.initialized y.cls ∈ nw_T) (h5 : cw ∈ nw_T) : GoodIn nw_T (va_wsS own index y (cw :: nw_T)) := by
  intro w hw
  have hm : w ∈ nw_T := by
    simp only [va_wsS, List.mem_append, List.mem_cons, List.not_mem_nil, or_false] at hw
    rcases hw with (rfl | rfl | rfl) | rfl | h <;> assumption
  exact ⟨hm, nw_T_good hm⟩
theorem nw_goodN {cw : Cond} (h5 : cw ∈ nw_T) : GoodIn nw_T (cw :: nw_T) := by
  intro w hw
  have hm : w ∈ nw_T := by
    rcases List.mem_cons.mp hw with rfl | h <;> assumption
  exact ⟨hm, nw_T_good hm⟩
theorem nw_atO {P : nw_PT} {σ : nw_ST} {q ci : Nat} (h : nw_cl q = ci) (hc : ci < 6) : ∃ fs, (nw_W P.2.1 P.2.2.1 σ)[q]? = some (P.2.1 q, .inr (ci, fs)) := by
  match ci, h, hc with
  | 0, h, _ => exact ⟨_, nw_at0 h⟩
  | 1, h, _ => exact ⟨_, nw_at1 h⟩
  | 2, h, _ => exact ⟨_, nw_at2 h⟩
  | 3, h, _ => exact ⟨_, nw_at3 h⟩
  | 4, h, _ => exact ⟨_, nw_at4 h⟩
  | 5, h, _ => exact ⟨_, nw_at5 h⟩
  | n + 6, _, hc => exact absurd hc (by omega)
section NWR
variable {P : nw_PT} {X : nw_EX} {cc : ByteArray} {own : String} {nL : Nat} {σ : nw_ST} {lv lv' : List (Nat × Value)} {pc : Nat} {st : List Value} {x y v : Int32} {xl yl vl : Int64}

theorem nw_iconst (h : nw_ok P X cc own nL) {n : Int} (hd : decode cc pc = .ok (.iconst n, 1)) (hv : Int32.ofInt n = v) (k : nw_G P X nL σ lv (pc + 1) (.int v :: st)) : nw_G P X nL σ lv pc st :=
  fun H locs ls h1 h2 h3 => lv_iconst h.1.1 h.1.2.1 hd hv (k H locs ls h1 h2 h3)
theorem nw_bipush (h : nw_ok P X cc own nL) {n : Int} (hd : decode cc pc = .ok (.bipush n, 2)) (hv : (Int8.ofInt n).toInt32 = v) (k : nw_G P X nL σ lv (pc + 2) (.int v :: st)) : nw_G P X nL σ lv pc st :=
  fun H locs ls h1 h2 h3 => lv_bipush h.1.1 h.1.2.1 hd hv (k H locs ls h1 h2 h3)
theorem nw_sipush (h : nw_ok P X cc own nL) {n : Int} (hd : decode cc pc = .ok (.sipush n, 3)) (hv : (Int16.ofInt n).toInt32 = v) (k : nw_G P X nL σ lv (pc + 3) (.int v :: st)) : nw_G P X nL σ lv pc st :=
  fun H locs ls h1 h2 h3 => lv_sipush h.1.1 h.1.2.1 hd hv (k H locs ls h1 h2 h3)
theorem nw_lconst (h : nw_ok P X cc own nL) {n : Fin 2} (hd : decode cc pc = .ok (.lconst n, 1)) (hv : Int64.ofNat (n : Nat) = vl) (k : nw_G P X nL σ lv (pc + 1) (.long vl :: st)) : nw_G P X nL σ lv pc st :=
  fun H locs ls h1 h2 h3 => lv_lconst h.1.1 h.1.2.1 hd hv (k H locs ls h1 h2 h3)
theorem nw_ldc (h : nw_ok P X cc own nL) {index : Nat} (hw : Cond.constant own index v ∈ nw_T) (hd : decode cc pc = .ok (.ldc index, 2)) (k : nw_G P X nL σ lv (pc + 2) (.int v :: st)) : nw_G P X nL σ lv pc st :=
  fun H locs ls h1 h2 h3 => lv_ldc h.1.1 h.1.2.1 h.1.2.2.2.1 (h.1.2.2.2.2 _ hw) hd (k H locs ls h1 h2 h3)
theorem nw_ldcw (h : nw_ok P X cc own nL) {index : Nat} (hw : Cond.constant own index v ∈ nw_T) (hd : decode cc pc = .ok (.ldc_w index, 3)) (k : nw_G P X nL σ lv (pc + 3) (.int v :: st)) : nw_G P X nL σ lv pc st :=
  fun H locs ls h1 h2 h3 => lv_ldcw h.1.1 h.1.2.1 h.1.2.2.2.1 (h.1.2.2.2.2 _ hw) hd (k H locs ls h1 h2 h3)
theorem nw_ldc2 (h : nw_ok P X cc own nL) {index : Nat} (hw : Cond.constantLong own index vl ∈ nw_T) (hd : decode cc pc = .ok (.ldc2_w index, 3)) (k : nw_G P X nL σ lv (pc + 3) (.long vl :: st)) : nw_G P X nL σ lv pc st :=
  fun H locs ls h1 h2 h3 => lv_ldc2 h.1.1 h.1.2.1 h.1.2.2.2.1 (h.1.2.2.2.2 _ hw) hd (k H locs ls h1 h2 h3)
theorem nw_iload_n (h : nw_ok P X cc own nL) {n : Fin 4} {i : Nat} (hd : decode cc pc = .ok (.iload_n n, 1)) (hi : (n : Nat) = i) (j : Nat) (hl : lv[j]? = some (i, .int x)) (k : nw_G P X nL σ lv (pc + 1) (.int x :: st)) : nw_G P X nL σ lv pc st :=
  fun H locs ls h1 h2 h3 => lv_iload_n h.1.1 h.1.2.1 hd hi (lv_at h3 j hl) (k H locs ls h1 h2 h3)
theorem nw_iload (h : nw_ok P X cc own nL) {i : Nat} (hd : decode cc pc = .ok (.iload i, 2)) (j : Nat) (hl : lv[j]? = some (i, .int x)) (k : nw_G P X nL σ lv (pc + 2) (.int x :: st)) : nw_G P X nL σ lv pc st :=
  fun H locs ls h1 h2 h3 => lv_iload h.1.1 h.1.2.1 hd (lv_at h3 j hl) (k H locs ls h1 h2 h3)
theorem nw_istore_n (h : nw_ok P X cc own nL) {n : Fin 4} {i : Nat} (hd : decode cc pc = .ok (.istore_n n, 1)) (hi : (n : Nat) = i) (hn : i < nL) (hl : (i, Value.int x) :: lv.filter (fun q => !(q.1 == i) && !(q.1 + 1 == i && q.2.category == 2)) = lv') (k : nw_G P X nL σ lv' (pc + 1) st) : nw_G P X nL σ lv pc (.int x :: st) :=
  fun H locs ls h1 h2 h3 => lv_istore_n h.1.1 h.1.2.1 hd hi h3 hn hl (fun ls h3 => k H locs ls h1 h2 h3)
theorem nw_istore (h : nw_ok P X cc own nL) {i : Nat} (hd : decode cc pc = .ok (.istore i, 2)) (hn : i < nL) (hl : (i, Value.int x) :: lv.filter (fun q => !(q.1 == i) && !(q.1 + 1 == i && q.2.category == 2)) = lv') (k : nw_G P X nL σ lv' (pc + 2) st) : nw_G P X nL σ lv pc (.int x :: st) :=
  fun H locs ls h1 h2 h3 => lv_istore h.1.1 h.1.2.1 hd h3 hn hl (fun ls h3 => k H locs ls h1 h2 h3)
theorem nw_lload_n (h : nw_ok P X cc own nL) {n : Fin 4} {i : Nat} (hd : decode cc pc = .ok (.lload_n n, 1)) (hi : (n : Nat) = i) (j : Nat) (hl : lv[j]? = some (i, .long xl)) (k : nw_G P X nL σ lv (pc + 1) (.long xl :: st)) : nw_G P X nL σ lv pc st :=
  fun H locs ls h1 h2 h3 => lv_lload_n h.1.1 h.1.2.1 hd hi (lv_at h3 j hl) (k H locs ls h1 h2 h3)
theorem nw_lload (h : nw_ok P X cc own nL) {i : Nat} (hd : decode cc pc = .ok (.lload i, 2)) (j : Nat) (hl : lv[j]? = some (i, .long xl)) (k : nw_G P X nL σ lv (pc + 2) (.long xl :: st)) : nw_G P X nL σ lv pc st :=
  fun H locs ls h1 h2 h3 => lv_lload h.1.1 h.1.2.1 hd (lv_at h3 j hl) (k H locs ls h1 h2 h3)
theorem nw_lstore_n (h : nw_ok P X cc own nL) {n : Fin 4} {i : Nat} (hd : decode cc pc = .ok (.lstore_n n, 1)) (hi : (n : Nat) = i) (hn : i + 1 < nL) (hl : (i, Value.long xl) :: lv.filter (fun q => !(q.1 == i) && (!(q.1 == i + 1) && !(q.1 + 1 == i && q.2.category == 2))) = lv') (k : nw_G P X nL σ lv' (pc + 1) st) : nw_G P X nL σ lv pc (.long xl :: st) :=
  fun H locs ls h1 h2 h3 => lv_lstore_n h.1.1 h.1.2.1 hd hi h3 hn hl (fun ls h3 => k H locs ls h1 h2 h3)
theorem nw_lstore (h : nw_ok P X cc own nL) {i : Nat} (hd : decode cc pc = .ok (.lstore i, 2)) (hn : i + 1 < nL) (hl : (i, Value.long xl) :: lv.filter (fun q => !(q.1 == i) && (!(q.1 == i + 1) && !(q.1 + 1 == i && q.2.category == 2))) = lv') (k : nw_G P X nL σ lv' (pc + 2) st) : nw_G P X nL σ lv pc (.long xl :: st) :=
  fun H locs ls h1 h2 h3 => lv_lstore h.1.1 h.1.2.1 hd h3 hn hl (fun ls h3 => k H locs ls h1 h2 h3)
theorem nw_aload_n (h : nw_ok P X cc own nL) {xr : Nat} {n : Fin 4} {i : Nat} (hd : decode cc pc = .ok (.aload_n n, 1)) (hi : (n : Nat) = i) (j : Nat) (hl : lv[j]? = some (i, .ref xr)) (k : nw_G P X nL σ lv (pc + 1) (.ref xr :: st)) : nw_G P X nL σ lv pc st :=
  fun H locs ls h1 h2 h3 => lv_aload_n h.1.1 h.1.2.1 hd hi (lv_at h3 j hl) (k H locs ls h1 h2 h3)
theorem nw_aload (h : nw_ok P X cc own nL) {xr : Nat} {i : Nat} (hd : decode cc pc = .ok (.aload i, 2)) (j : Nat) (hl : lv[j]? = some (i, .ref xr)) (k : nw_G P X nL σ lv (pc + 2) (.ref xr :: st)) : nw_G P X nL σ lv pc st :=
  fun H locs ls h1 h2 h3 => lv_aload h.1.1 h.1.2.1 hd (lv_at h3 j hl) (k H locs ls h1 h2 h3)
theorem nw_astore_n (h : nw_ok P X cc own nL) {xr : Nat} {n : Fin 4} {i : Nat} (hd : decode cc pc = .ok (.astore_n n, 1)) (hi : (n : Nat) = i) (hn : i < nL) (hl : (i, Value.ref xr) :: lv.filter (fun q => !(q.1 == i) && !(q.1 + 1 == i && q.2.category == 2)) = lv') (k : nw_G P X nL σ lv' (pc + 1) st) : nw_G P X nL σ lv pc (.ref xr :: st) :=
  fun H locs ls h1 h2 h3 => lv_astore_n h.1.1 h.1.2.1 hd hi h3 hn hl (fun ls h3 => k H locs ls h1 h2 h3)
theorem nw_astore (h : nw_ok P X cc own nL) {xr : Nat} {i : Nat} (hd : decode cc pc = .ok (.astore i, 2)) (hn : i < nL) (hl : (i, Value.ref xr) :: lv.filter (fun q => !(q.1 == i) && !(q.1 + 1 == i && q.2.category == 2)) = lv') (k : nw_G P X nL σ lv' (pc + 2) st) : nw_G P X nL σ lv pc (.ref xr :: st) :=
  fun H locs ls h1 h2 h3 => lv_astore h.1.1 h.1.2.1 hd h3 hn hl (fun ls h3 => k H locs ls h1 h2 h3)
theorem nw_iinc (h : nw_ok P X cc own nL) {i : Nat} {n : Int} {j : Nat} (hd : decode cc pc = .ok (.iinc i n, 3)) (hj : lv[j]? = some (i, .int x)) (hv : x + Int32.ofInt n = v) (hn : i < nL) (hl : (i, Value.int v) :: lv.filter (fun q => !(q.1 == i) && !(q.1 + 1 == i && q.2.category == 2)) = lv') (k : nw_G P X nL σ lv' (pc + 3) st) : nw_G P X nL σ lv pc st :=
  fun H locs ls h1 h2 h3 => lv_iinc h.1.1 h.1.2.1 hd h3 hj hv hn hl (fun ls h3 => k H locs ls h1 h2 h3)
theorem nw_iadd (h : nw_ok P X cc own nL) (hd : decode cc pc = .ok (.iadd, 1)) (k : nw_G P X nL σ lv (pc + 1) (.int (x + y) :: st)) : nw_G P X nL σ lv pc (.int y :: .int x :: st) :=
  fun H locs ls h1 h2 h3 => lv_iadd h.1.1 h.1.2.1 hd (k H locs ls h1 h2 h3)
theorem nw_isub (h : nw_ok P X cc own nL) (hd : decode cc pc = .ok (.isub, 1)) (k : nw_G P X nL σ lv (pc + 1) (.int (x - y) :: st)) : nw_G P X nL σ lv pc (.int y :: .int x :: st) :=
  fun H locs ls h1 h2 h3 => lv_isub h.1.1 h.1.2.1 hd (k H locs ls h1 h2 h3)
theorem nw_imul (h : nw_ok P X cc own nL) (hd : decode cc pc = .ok (.imul, 1)) (k : nw_G P X nL σ lv (pc + 1) (.int (x * y) :: st)) : nw_G P X nL σ lv pc (.int y :: .int x :: st) :=
  fun H locs ls h1 h2 h3 => lv_imul h.1.1 h.1.2.1 hd (k H locs ls h1 h2 h3)
theorem nw_iand (h : nw_ok P X cc own nL) (hd : decode cc pc = .ok (.iand, 1)) (k : nw_G P X nL σ lv (pc + 1) (.int (x &&& y) :: st)) : nw_G P X nL σ lv pc (.int y :: .int x :: st) :=
  fun H locs ls h1 h2 h3 => lv_iand h.1.1 h.1.2.1 hd (k H locs ls h1 h2 h3)
theorem nw_ior (h : nw_ok P X cc own nL) (hd : decode cc pc = .ok (.ior, 1)) (k : nw_G P X nL σ lv (pc + 1) (.int (x ||| y) :: st)) : nw_G P X nL σ lv pc (.int y :: .int x :: st) :=
  fun H locs ls h1 h2 h3 => lv_ior h.1.1 h.1.2.1 hd (k H locs ls h1 h2 h3)
theorem nw_ishl (h : nw_ok P X cc own nL) (hd : decode cc pc = .ok (.ishl, 1)) (k : nw_G P X nL σ lv (pc + 1) (.int (nw_shl x y) :: st)) : nw_G P X nL σ lv pc (.int y :: .int x :: st) :=
  fun H locs ls h1 h2 h3 => lv_ishl h.1.1 h.1.2.1 hd (k H locs ls h1 h2 h3)
theorem nw_iushr (h : nw_ok P X cc own nL) (hd : decode cc pc = .ok (.iushr, 1)) (k : nw_G P X nL σ lv (pc + 1) (.int (nw_ushr x y) :: st)) : nw_G P X nL σ lv pc (.int y :: .int x :: st) :=
  fun H locs ls h1 h2 h3 => lv_iushr h.1.1 h.1.2.1 hd rfl (k H locs ls h1 h2 h3)
theorem nw_idiv (h : nw_ok P X cc own nL) (hd : decode cc pc = .ok (.idiv, 1)) (hne : ¬ y = 0) (k : nw_G P X nL σ lv (pc + 1) (.int (x / y) :: st)) : nw_G P X nL σ lv pc (.int y :: .int x :: st) :=
  fun H locs ls h1 h2 h3 => lv_idiv h.1.1 h.1.2.1 hd hne (k H locs ls h1 h2 h3)
theorem nw_irem (h : nw_ok P X cc own nL) (hd : decode cc pc = .ok (.irem, 1)) (hne : ¬ y = 0) (k : nw_G P X nL σ lv (pc + 1) (.int (nw_rem x y) :: st)) : nw_G P X nL σ lv pc (.int y :: .int x :: st) :=
  fun H locs ls h1 h2 h3 => lv_irem h.1.1 h.1.2.1 hd hne (k H locs ls h1 h2 h3)
theorem nw_ladd (h : nw_ok P X cc own nL) (hd : decode cc pc = .ok (.ladd, 1)) (k : nw_G P X nL σ lv (pc + 1) (.long (xl + yl) :: st)) : nw_G P X nL σ lv pc (.long yl :: .long xl :: st) :=
  fun H locs ls h1 h2 h3 => lv_ladd h.1.1 h.1.2.1 hd (k H locs ls h1 h2 h3)
theorem nw_lsub (h : nw_ok P X cc own nL) (hd : decode cc pc = .ok (.lsub, 1)) (k : nw_G P X nL σ lv (pc + 1) (.long (xl - yl) :: st)) : nw_G P X nL σ lv pc (.long yl :: .long xl :: st) :=
  fun H locs ls h1 h2 h3 => lv_lsub h.1.1 h.1.2.1 hd (k H locs ls h1 h2 h3)
theorem nw_lmul (h : nw_ok P X cc own nL) (hd : decode cc pc = .ok (.lmul, 1)) (k : nw_G P X nL σ lv (pc + 1) (.long (xl * yl) :: st)) : nw_G P X nL σ lv pc (.long yl :: .long xl :: st) :=
  fun H locs ls h1 h2 h3 => lv_lmul h.1.1 h.1.2.1 hd (k H locs ls h1 h2 h3)
theorem nw_land (h : nw_ok P X cc own nL) (hd : decode cc pc = .ok (.land, 1)) (k : nw_G P X nL σ lv (pc + 1) (.long (xl &&& yl) :: st)) : nw_G P X nL σ lv pc (.long yl :: .long xl :: st) :=
  fun H locs ls h1 h2 h3 => lv_land h.1.1 h.1.2.1 hd (k H locs ls h1 h2 h3)
theorem nw_lor (h : nw_ok P X cc own nL) (hd : decode cc pc = .ok (.lor, 1)) (k : nw_G P X nL σ lv (pc + 1) (.long (xl ||| yl) :: st)) : nw_G P X nL σ lv pc (.long yl :: .long xl :: st) :=
  fun H locs ls h1 h2 h3 => lv_lor h.1.1 h.1.2.1 hd (k H locs ls h1 h2 h3)
theorem nw_ldiv_ (h : nw_ok P X cc own nL) (hd : decode cc pc = .ok (.ldiv, 1)) (hne : ¬ yl = 0) (k : nw_G P X nL σ lv (pc + 1) (.long (xl / yl) :: st)) : nw_G P X nL σ lv pc (.long yl :: .long xl :: st) :=
  fun H locs ls h1 h2 h3 => lv_ldiv h.1.1 h.1.2.1 hd hne (k H locs ls h1 h2 h3)
theorem nw_lrem_ (h : nw_ok P X cc own nL) (hd : decode cc pc = .ok (.lrem, 1)) (hne : ¬ yl = 0) (k : nw_G P X nL σ lv (pc + 1) (.long (nw_lrem xl yl) :: st)) : nw_G P X nL σ lv pc (.long yl :: .long xl :: st) :=
  fun H locs ls h1 h2 h3 => lv_lrem h.1.1 h.1.2.1 hd hne (k H locs ls h1 h2 h3)
theorem nw_lshr_ (h : nw_ok P X cc own nL) (hd : decode cc pc = .ok (.lshr, 1)) (k : nw_G P X nL σ lv (pc + 1) (.long (nw_lshr xl y) :: st)) : nw_G P X nL σ lv pc (.int y :: .long xl :: st) :=
  fun H locs ls h1 h2 h3 => lv_lshr h.1.1 h.1.2.1 hd rfl (k H locs ls h1 h2 h3)
theorem nw_lcmp (h : nw_ok P X cc own nL) (hd : decode cc pc = .ok (.lcmp, 1)) (k : nw_G P X nL σ lv (pc + 1) (.int (lg_cmp xl yl) :: st)) : nw_G P X nL σ lv pc (.long yl :: .long xl :: st) :=
  fun H locs ls h1 h2 h3 => W.lcmp h.1.1 h.1.2.1 hd (k H locs ls h1 h2 h3)
theorem nw_i2l (h : nw_ok P X cc own nL) (hd : decode cc pc = .ok (.i2l, 1)) (k : nw_G P X nL σ lv (pc + 1) (.long x.toInt64 :: st)) : nw_G P X nL σ lv pc (.int x :: st) :=
  fun H locs ls h1 h2 h3 => lv_i2l h.1.1 h.1.2.1 hd rfl (k H locs ls h1 h2 h3)
theorem nw_l2i (h : nw_ok P X cc own nL) (hd : decode cc pc = .ok (.l2i, 1)) (k : nw_G P X nL σ lv (pc + 1) (.int xl.toInt32 :: st)) : nw_G P X nL σ lv pc (.long xl :: st) :=
  fun H locs ls h1 h2 h3 => lv_l2i h.1.1 h.1.2.1 hd rfl (k H locs ls h1 h2 h3)
theorem nw_i2b (h : nw_ok P X cc own nL) (hd : decode cc pc = .ok (.i2b, 1)) (k : nw_G P X nL σ lv (pc + 1) (.int (nw_b x) :: st)) : nw_G P X nL σ lv pc (.int x :: st) :=
  fun H locs ls h1 h2 h3 => lv_i2b h.1.1 h.1.2.1 hd rfl (k H locs ls h1 h2 h3)
theorem nw_i2s (h : nw_ok P X cc own nL) (hd : decode cc pc = .ok (.i2s, 1)) (k : nw_G P X nL σ lv (pc + 1) (.int (nw_s16 x) :: st)) : nw_G P X nL σ lv pc (.int x :: st) :=
  fun H locs ls h1 h2 h3 => lv_i2s h.1.1 h.1.2.1 hd rfl (k H locs ls h1 h2 h3)
theorem nw_dup (h : nw_ok P X cc own nL) {w : Value} (hd : decode cc pc = .ok (.dup, 1)) (hw : w.category = 1) (k : nw_G P X nL σ lv (pc + 1) (w :: w :: st)) : nw_G P X nL σ lv pc (w :: st) :=
  fun H locs ls h1 h2 h3 => lv_dup h.1.1 h.1.2.1 hd hw (k H locs ls h1 h2 h3)
theorem nw_pop (h : nw_ok P X cc own nL) {w : Value} (hd : decode cc pc = .ok (.pop, 1)) (hw : w.category = 1) (k : nw_G P X nL σ lv (pc + 1) st) : nw_G P X nL σ lv pc (w :: st) :=
  fun H locs ls h1 h2 h3 => lv_pop h.1.1 h.1.2.1 hd hw (k H locs ls h1 h2 h3)
theorem nw_dup2 (h : nw_ok P X cc own nL) {w u : Value} (hd : decode cc pc = .ok (.dup2, 1)) (hw : w.category = 1) (hu : u.category = 1) (k : nw_G P X nL σ lv (pc + 1) (w :: u :: w :: u :: st)) : nw_G P X nL σ lv pc (w :: u :: st) :=
  fun H locs ls h1 h2 h3 => lv_dup2_11 h.1.1 h.1.2.1 hd hw hu (k H locs ls h1 h2 h3)
theorem nw_icmp_eq (h : nw_ok P X cc own nL) {off : Int} {tgt : Nat} (hd : decode cc pc = .ok (.if_icmp .eq off, 3)) (ht : (pc : Int) + off = (tgt : Int)) (kt : x = y → nw_G P X nL σ lv tgt st) (kf : ¬ (x = y) → nw_G P X nL σ lv (pc + 3) st) : nw_G P X nL σ lv pc (.int y :: .int x :: st) :=
  fun H locs ls h1 h2 h3 => lv_icmp_eq h.1.1 h.1.2.1 hd ht (fun z => kt z H locs ls h1 h2 h3) (fun z => kf z H locs ls h1 h2 h3)
theorem nw_if_eq (h : nw_ok P X cc own nL) {off : Int} {tgt : Nat} (hd : decode cc pc = .ok (.ifCond .eq off, 3)) (ht : (pc : Int) + off = (tgt : Int)) (kt : x = 0 → nw_G P X nL σ lv tgt st) (kf : ¬ (x = 0) → nw_G P X nL σ lv (pc + 3) st) : nw_G P X nL σ lv pc (.int x :: st) :=
  fun H locs ls h1 h2 h3 => lv_if_eq h.1.1 h.1.2.1 hd ht (fun z => kt z H locs ls h1 h2 h3) (fun z => kf z H locs ls h1 h2 h3)
theorem nw_icmp_ne (h : nw_ok P X cc own nL) {off : Int} {tgt : Nat} (hd : decode cc pc = .ok (.if_icmp .ne off, 3)) (ht : (pc : Int) + off = (tgt : Int)) (kt : ¬ x = y → nw_G P X nL σ lv tgt st) (kf : x = y → nw_G P X nL σ lv (pc + 3) st) : nw_G P X nL σ lv pc (.int y :: .int x :: st) :=
  fun H locs ls h1 h2 h3 => lv_icmp_ne h.1.1 h.1.2.1 hd ht (fun z => kt z H locs ls h1 h2 h3) (fun z => kf z H locs ls h1 h2 h3)
theorem nw_if_ne (h : nw_ok P X cc own nL) {off : Int} {tgt : Nat} (hd : decode cc pc = .ok (.ifCond .ne off, 3)) (ht : (pc : Int) + off = (tgt : Int)) (kt : ¬ x = 0 → nw_G P X nL σ lv tgt st) (kf : x = 0 → nw_G P X nL σ lv (pc + 3) st) : nw_G P X nL σ lv pc (.int x :: st) :=
  fun H locs ls h1 h2 h3 => lv_if_ne h.1.1 h.1.2.1 hd ht (fun z => kt z H locs ls h1 h2 h3) (fun z => kf z H locs ls h1 h2 h3)
theorem nw_icmp_lt (h : nw_ok P X cc own nL) {off : Int} {tgt : Nat} (hd : decode cc pc = .ok (.if_icmp .lt off, 3)) (ht : (pc : Int) + off = (tgt : Int)) (kt : x < y → nw_G P X nL σ lv tgt st) (kf : ¬ (x < y) → nw_G P X nL σ lv (pc + 3) st) : nw_G P X nL σ lv pc (.int y :: .int x :: st) :=
  fun H locs ls h1 h2 h3 => lv_icmp_lt h.1.1 h.1.2.1 hd ht (fun z => kt z H locs ls h1 h2 h3) (fun z => kf z H locs ls h1 h2 h3)
theorem nw_if_lt (h : nw_ok P X cc own nL) {off : Int} {tgt : Nat} (hd : decode cc pc = .ok (.ifCond .lt off, 3)) (ht : (pc : Int) + off = (tgt : Int)) (kt : x < 0 → nw_G P X nL σ lv tgt st) (kf : ¬ (x < 0) → nw_G P X nL σ lv (pc + 3) st) : nw_G P X nL σ lv pc (.int x :: st) :=
  fun H locs ls h1 h2 h3 => lv_if_lt h.1.1 h.1.2.1 hd ht (fun z => kt z H locs ls h1 h2 h3) (fun z => kf z H locs ls h1 h2 h3)
theorem nw_icmp_ge (h : nw_ok P X cc own nL) {off : Int} {tgt : Nat} (hd : decode cc pc = .ok (.if_icmp .ge off, 3)) (ht : (pc : Int) + off = (tgt : Int)) (kt : y ≤ x → nw_G P X nL σ lv tgt st) (kf : ¬ (y ≤ x) → nw_G P X nL σ lv (pc + 3) st) : nw_G P X nL σ lv pc (.int y :: .int x :: st) :=
  fun H locs ls h1 h2 h3 => lv_icmp_ge h.1.1 h.1.2.1 hd ht (fun z => kt z H locs ls h1 h2 h3) (fun z => kf z H locs ls h1 h2 h3)
theorem nw_if_ge (h : nw_ok P X cc own nL) {off : Int} {tgt : Nat} (hd : decode cc pc = .ok (.ifCond .ge off, 3)) (ht : (pc : Int) + off = (tgt : Int)) (kt : 0 ≤ x → nw_G P X nL σ lv tgt st) (kf : ¬ (0 ≤ x) → nw_G P X nL σ lv (pc + 3) st) : nw_G P X nL σ lv pc (.int x :: st) :=
  fun H locs ls h1 h2 h3 => lv_if_ge h.1.1 h.1.2.1 hd ht (fun z => kt z H locs ls h1 h2 h3) (fun z => kf z H locs ls h1 h2 h3)
theorem nw_icmp_gt (h : nw_ok P X cc own nL) {off : Int} {tgt : Nat} (hd : decode cc pc = .ok (.if_icmp .gt off, 3)) (ht : (pc : Int) + off = (tgt : Int)) (kt : y < x → nw_G P X nL σ lv tgt st) (kf : ¬ (y < x) → nw_G P X nL σ lv (pc + 3) st) : nw_G P X nL σ lv pc (.int y :: .int x :: st) :=
  fun H locs ls h1 h2 h3 => lv_icmp_gt h.1.1 h.1.2.1 hd ht (fun z => kt z H locs ls h1 h2 h3) (fun z => kf z H locs ls h1 h2 h3)
theorem nw_if_gt (h : nw_ok P X cc own nL) {off : Int} {tgt : Nat} (hd : decode cc pc = .ok (.ifCond .gt off, 3)) (ht : (pc : Int) + off = (tgt : Int)) (kt : 0 < x → nw_G P X nL σ lv tgt st) (kf : ¬ (0 < x) → nw_G P X nL σ lv (pc + 3) st) : nw_G P X nL σ lv pc (.int x :: st) :=
  fun H locs ls h1 h2 h3 => lv_if_gt h.1.1 h.1.2.1 hd ht (fun z => kt z H locs ls h1 h2 h3) (fun z => kf z H locs ls h1 h2 h3)
theorem nw_icmp_le (h : nw_ok P X cc own nL) {off : Int} {tgt : Nat} (hd : decode cc pc = .ok (.if_icmp .le off, 3)) (ht : (pc : Int) + off = (tgt : Int)) (kt : x ≤ y → nw_G P X nL σ lv tgt st) (kf : ¬ (x ≤ y) → nw_G P X nL σ lv (pc + 3) st) : nw_G P X nL σ lv pc (.int y :: .int x :: st) :=
  fun H locs ls h1 h2 h3 => lv_icmp_le h.1.1 h.1.2.1 hd ht (fun z => kt z H locs ls h1 h2 h3) (fun z => kf z H locs ls h1 h2 h3)
theorem nw_if_le (h : nw_ok P X cc own nL) {off : Int} {tgt : Nat} (hd : decode cc pc = .ok (.ifCond .le off, 3)) (ht : (pc : Int) + off = (tgt : Int)) (kt : x ≤ 0 → nw_G P X nL σ lv tgt st) (kf : ¬ (x ≤ 0) → nw_G P X nL σ lv (pc + 3) st) : nw_G P X nL σ lv pc (.int x :: st) :=
  fun H locs ls h1 h2 h3 => lv_if_le h.1.1 h.1.2.1 hd ht (fun z => kt z H locs ls h1 h2 h3) (fun z => kf z H locs ls h1 h2 h3)
theorem nw_goto (h : nw_ok P X cc own nL) {off : Int} {tgt : Nat} (hd : decode cc pc = .ok (.goto off, 3)) (ht : (pc : Int) + off = (tgt : Int)) (k : nw_G P X nL σ lv tgt st) : nw_G P X nL σ lv pc st :=
  fun H locs ls h1 h2 h3 => lv_goto h.1.1 h.1.2.1 hd ht (k H locs ls h1 h2 h3)
theorem nw_tabOut (h : nw_ok P X cc own nL) {dflt lo hi : Int} {offs : Array Int} {len : Nat} {tgt : Nat} (hd : decode cc pc = .ok (.tableswitch dflt lo hi offs, len)) (hx : x.toInt < lo ∨ hi < x.toInt) (ht : (pc : Int) + dflt = (tgt : Int)) (k : nw_G P X nL σ lv tgt st) : nw_G P X nL σ lv pc (.int x :: st) :=
  fun H locs ls h1 h2 h3 => lv_tableOut h.1.1 h.1.2.1 hd hx ht (k H locs ls h1 h2 h3)
theorem nw_tabIn (h : nw_ok P X cc own nL) {dflt lo hi : Int} {offs : Array Int} {len : Nat} {off : Int} {tgt : Nat} (hd : decode cc pc = .ok (.tableswitch dflt lo hi offs, len)) (hx1 : ¬ x.toInt < lo) (hx2 : ¬ hi < x.toInt) (ho : offs[(x.toInt - lo).toNat]? = some off) (ht : (pc : Int) + off = (tgt : Int)) (k : nw_G P X nL σ lv tgt st) : nw_G P X nL σ lv pc (.int x :: st) :=
  fun H locs ls h1 h2 h3 => lv_tableIn h.1.1 h.1.2.1 hd hx1 hx2 ho ht (k H locs ls h1 h2 h3)
theorem nw_sub (ks : List Nat) (hl : lv_pick lv ks = lv') (k : nw_G P X nL σ lv' pc st) : nw_G P X nL σ lv pc st :=
  fun H locs ls h1 h2 h3 => k H locs ls h1 h2 (lv_sub h3 ks hl)
theorem nw_iald (h : nw_ok P X cc own nL) {q n : Nat} (hq : nw_cl q = 10) (hn : nw_len q = n) (hin : vp_in x n) (hd : decode cc pc = .ok (.iaload, 1)) (k : nw_G P X nL σ lv (pc + 1) (.int (nw_gA σ q x.toNatClampNeg) :: st)) : nw_G P X nL σ lv pc (.int x :: .ref (P.2.1 q) :: st) :=
  fun H locs ls h1 h2 h3 => by subst hn; exact va_iald h.1.1 h.1.2.1 h.2.1.1 h1 q 0 (nw_atI hq) rfl hin hd (k H locs ls h1 h2 h3)
theorem nw_zald (h : nw_ok P X cc own nL) {q n : Nat} (hq : nw_cl q = 12) (hn : nw_len q = n) (hin : vp_in x n) (hd : decode cc pc = .ok (.baload, 1)) (k : nw_G P X nL σ lv (pc + 1) (.int (nw_gA σ q x.toNatClampNeg) :: st)) : nw_G P X nL σ lv pc (.int x :: .ref (P.2.1 q) :: st) :=
  fun H locs ls h1 h2 h3 => by subst hn; exact va_zald h.1.1 h.1.2.1 h.2.1.1 h1 q 2 (nw_atZ hq) rfl hin hd (k H locs ls h1 h2 h3)
theorem nw_lald (h : nw_ok P X cc own nL) {q n : Nat} (hq : nw_cl q = 11) (hn : nw_len q = n) (hin : vp_in x n) (hd : decode cc pc = .ok (.laload, 1)) (k : nw_G P X nL σ lv (pc + 1) (.long (nw_gL σ q x.toNatClampNeg) :: st)) : nw_G P X nL σ lv pc (.int x :: .ref (P.2.1 q) :: st) :=
  fun H locs ls h1 h2 h3 => by subst hn; exact va_lald h.1.1 h.1.2.1 h.2.1.1 h1 q 1 (nw_atL hq) rfl hin hd (k H locs ls h1 h2 h3)
theorem nw_aald (h : nw_ok P X cc own nL) (hin : vp_in x 4) (hd : decode cc pc = .ok (.aaload, 1)) (k : nw_G P X nL σ lv (pc + 1) (.ref (P.2.1 (27 + 2 * x.toNatClampNeg)) :: st)) : nw_G P X nL σ lv pc (.int x :: .ref (P.2.1 26) :: st) :=
  fun H locs ls h1 h2 h3 => va_aldq h.1.1 h.1.2.1 h.2.1.1 h1 26 3 nw_atS rfl hin hd (k H locs ls h1 h2 h3)
theorem nw_tald (h : nw_ok P X cc own nL) {q n : Nat} (hq : nw_cl q = 14) (hn : nw_len q = n) (hin : vp_in x n) (hd : decode cc pc = .ok (.iaload, 1)) (k : nw_G P X nL σ lv (pc + 1) (.int (nw_cst q x.toNatClampNeg) :: st)) : nw_G P X nL σ lv pc (.int x :: .ref (P.2.1 q) :: st) :=
  fun H locs ls h1 h2 h3 => by
    subst hn
    have hk : ∃ k, k < 6 ∧ q = 63 + k := by exact ⟨q - 63, by rcases nw_q14 hq with rfl | rfl | rfl | rfl | rfl | rfl <;> decide, by rcases nw_q14 hq with rfl | rfl | rfl | rfl | rfl | rfl <;> rfl⟩
    obtain ⟨j, hj, rfl⟩ := hk
    exact va_ti h.1.1 h.1.2.1 (h.2.1.2.2.2 j hj).2 h2 hin rfl hd (k H locs ls h1 h2 h3)
theorem nw_iast (h : nw_ok P X cc own nL) {q n : Nat} (hq : nw_cl q = 10) (hn : nw_len q = n) (hin : vp_in x n) (hd : decode cc pc = .ok (.iastore, 1)) (k : nw_G P X nL (nw_sA σ q x.toNatClampNeg y) lv (pc + 1) st) : nw_G P X nL σ lv pc (.int y :: .int x :: .ref (P.2.1 q) :: st) :=
  fun H locs ls h1 h2 h3 => by
    subst hn
    exact va_iast h.1.1 h.1.2.1 h.2.1.1 h1 (h.2.2 σ) h2 q 0 (nw_atI hq) rfl hin hd (fun H1 locs1 g1 _ g2 => k H1 locs1 ls (by rw [nw_setI hq] at g1; exact g1) g2 h3)
theorem nw_zast (h : nw_ok P X cc own nL) {q n : Nat} (hq : nw_cl q = 12) (hn : nw_len q = n) (hin : vp_in x n) (hy : vp_nar .boolean y = y) (hd : decode cc pc = .ok (.bastore, 1)) (k : nw_G P X nL (nw_sA σ q x.toNatClampNeg y) lv (pc + 1) st) : nw_G P X nL σ lv pc (.int y :: .int x :: .ref (P.2.1 q) :: st) :=
  fun H locs ls h1 h2 h3 => by
    subst hn
    exact va_zast h.1.1 h.1.2.1 h.2.1.1 h1 (h.2.2 σ) h2 q 2 (nw_atZ hq) rfl hin hd (fun H1 locs1 g1 _ g2 => k H1 locs1 ls (by rw [hy, nw_setZ hq] at g1; exact g1) g2 h3)
theorem nw_last (h : nw_ok P X cc own nL) {q n : Nat} (hq : nw_cl q = 11) (hn : nw_len q = n) (hin : vp_in x n) (hd : decode cc pc = .ok (.lastore, 1)) (k : nw_G P X nL (nw_sL σ q x.toNatClampNeg yl) lv (pc + 1) st) : nw_G P X nL σ lv pc (.long yl :: .int x :: .ref (P.2.1 q) :: st) :=
  fun H locs ls h1 h2 h3 => by
    subst hn
    exact va_last h.1.1 h.1.2.1 h.2.1.1 h1 (h.2.2 σ) h2 q 1 (nw_atL hq) rfl hin hd (fun H1 locs1 g1 _ g2 => k H1 locs1 ls (by rw [nw_setL hq] at g1; exact g1) g2 h3)
theorem nw_ilen (h : nw_ok P X cc own nL) {q n : Nat} (hq : nw_cl q = 10) (hn : nw_len q = n) (hv : Int32.ofNat n = v) (hd : decode cc pc = .ok (.arraylength, 1)) (k : nw_G P X nL σ lv (pc + 1) (.int v :: st)) : nw_G P X nL σ lv pc (.ref (P.2.1 q) :: st) :=
  fun H locs ls h1 h2 h3 => by subst hn; exact va_alen h.1.1 h.1.2.1 h.2.1.1 h1 q 0 (nw_atI hq) rfl hv hd (k H locs ls h1 h2 h3)
theorem nw_llen (h : nw_ok P X cc own nL) {q n : Nat} (hq : nw_cl q = 11) (hn : nw_len q = n) (hv : Int32.ofNat n = v) (hd : decode cc pc = .ok (.arraylength, 1)) (k : nw_G P X nL σ lv (pc + 1) (.int v :: st)) : nw_G P X nL σ lv pc (.ref (P.2.1 q) :: st) :=
  fun H locs ls h1 h2 h3 => by subst hn; exact va_alen h.1.1 h.1.2.1 h.2.1.1 h1 q 1 (nw_atL hq) rfl hv hd (k H locs ls h1 h2 h3)
theorem nw_tlen (h : nw_ok P X cc own nL) {q n : Nat} (hq : nw_cl q = 14) (hn : nw_len q = n) (hv : Int32.ofNat n = v) (hd : decode cc pc = .ok (.arraylength, 1)) (k : nw_G P X nL σ lv (pc + 1) (.int v :: st)) : nw_G P X nL σ lv pc (.ref (P.2.1 q) :: st) :=
  fun H locs ls h1 h2 h3 => by
    subst hn
    have hk : ∃ k, k < 6 ∧ q = 63 + k := by exact ⟨q - 63, by rcases nw_q14 hq with rfl | rfl | rfl | rfl | rfl | rfl <;> decide, by rcases nw_q14 hq with rfl | rfl | rfl | rfl | rfl | rfl <;> rfl⟩
    obtain ⟨j, hj, rfl⟩ := hk
    exact va_tlen h.1.1 h.1.2.1 (h.2.1.2.2.2 j hj).2 h2 hv hd (k H locs ls h1 h2 h3)
theorem nw_gets (h : nw_ok P X cc own nL) {index j : Nat} (hj : j < 6) (hw : Cond.fieldLink own index RX4 (nw_sn j) "[I" ∈ nw_T) (hd : decode cc pc = .ok (.getstatic index, 3)) (k : nw_G P X nL σ lv (pc + 3) (.ref (P.2.1 (63 + j)) :: st)) : nw_G P X nL σ lv pc st :=
  fun H locs ls h1 h2 h3 => va_gets h.1.1 h.1.2.1 (h.2.1.2.2.2 j hj).1 h2 h.1.2.2.2.1 (h.1.2.2.2.2 _ hw) (fun _ z => z) hd (k H locs ls h1 h2 h3)
theorem nw_iret (h : nw_ok P X cc own nL) {Kv : Option Value → nw_ST → Prop} (he : nw_end P X (some .int) Kv) (hd : decode cc pc = .ok (.ireturn, 1)) (hk : Kv (some (.int x)) σ) : nw_G P X nL σ lv pc [.int x] := fun H locs ls h1 h2 h3 => by
  unfold nw_Wx; rw [he.1]
  exact W.iret h.1.1 h.1.2.1 he.2.1 (fun t ht hW => ⟨⟨_, σ, rfl, hk, by rw [ht]; exact h1, by rw [ht]; exact h.2.1.go hW h2⟩, h2.F ht⟩) h2.2.2 hd he.2.2
theorem nw_zret (h : nw_ok P X cc own nL) {Kv : Option Value → nw_ST → Prop} (he : nw_end P X (some .boolean) Kv) (hd : decode cc pc = .ok (.ireturn, 1)) (hz : nw_isZ x) (hk : Kv (some (.int x)) σ) : nw_G P X nL σ lv pc [.int x] := fun H locs ls h1 h2 h3 => by
  unfold nw_Wx; rw [he.1]
  exact W.zret h.1.1 h.1.2.1 he.2.1 (by rcases hz with rfl | rfl <;> decide) (fun t ht hW => ⟨⟨_, σ, rfl, hk, by rw [ht]; exact h1, by rw [ht]; exact h.2.1.go hW h2⟩, h2.F ht⟩) h2.2.2 hd he.2.2
theorem nw_lret (h : nw_ok P X cc own nL) {Kv : Option Value → nw_ST → Prop} (he : nw_end P X (some .long) Kv) (hd : decode cc pc = .ok (.lreturn, 1)) (hk : Kv (some (.long xl)) σ) : nw_G P X nL σ lv pc [.long xl] := fun H locs ls h1 h2 h3 => by
  unfold nw_Wx; rw [he.1]
  exact W.lret h.1.1 h.1.2.1 he.2.1 (fun t ht hW => ⟨⟨_, σ, rfl, hk, by rw [ht]; exact h1, by rw [ht]; exact h.2.1.go hW h2⟩, h2.F ht⟩) h2.2.2 hd he.2.2
theorem nw_vret (h : nw_ok P X cc own nL) {Kv : Option Value → nw_ST → Prop} (he : nw_end P X none Kv) (hd : decode cc pc = .ok (.return_, 1)) (hk : Kv none σ) : nw_G P X nL σ lv pc [] := fun H locs ls h1 h2 h3 => by
  unfold nw_Wx; rw [he.1]
  exact W.vret h.1.1 h.1.2.1 he.2.1 (fun t ht hW => ⟨⟨_, σ, rfl, hk, by rw [ht]; exact h1, by rw [ht]; exact h.2.1.go hW h2⟩, h2.F ht⟩) h2.2.2 hd he.2.2
theorem nw_aret (h : nw_ok P X cc own nL) {Kv : Option Value → nw_ST → Prop} {n : String} {a : Nat} (he : nw_end P X (some (.object n)) Kv) (hd : decode cc pc = .ok (.areturn, 1)) (hk : Kv (some (.ref a)) σ) : nw_G P X nL σ lv pc [.ref a] := fun H locs ls h1 h2 h3 => by
  unfold nw_Wx; rw [he.1]
  exact W.aret h.1.1 h.1.2.1 he.2.1 (Or.inl ⟨n, rfl⟩) (Or.inr ⟨a, rfl⟩) (fun t ht hW => ⟨⟨_, σ, rfl, hk, by rw [ht]; exact h1, by rw [ht]; exact h.2.1.go hW h2⟩, h2.F ht⟩) h2.2.2 hd he.2.2

section NWC
variable {ym : MethodName} {bytes : ByteArray} {maxL n index : Nat} {ret : Option FieldType} {rm : Room} {Kv : Option Value → nw_ST → Prop} {C : String} {q ci : Nat} {cq : vw_C} {As rest : List Value}
theorem nw_callV (h : nw_ok P X cc own nL) (hM : nw_MT X.2.1 ym bytes maxL ret rm P (.ref (P.2.1 q) :: As) σ Kv) (hg : GoodIn nw_T (wsV own index C ym (Cond.code ym bytes maxL ret :: nw_T))) (hy : ym.cls = C ∧ ym.cls ≠ "java/lang/invoke/MethodHandle" ∧ ym.cls ≠ "java/lang/invoke/VarHandle" ∧ (parseMethodDescriptor ym.desc).map (fun d => d.parameters.length) = some n) (hn : As.length = n) (hR : rm.frames + 1 ≤ X.2.2.2.1.frames ∧ 8 + (maxL + 11) + rm.locals ≤ X.2.2.2.1.locals) (hrc : rm.cells = 0 ∧ rm.slots = 0) (hq : nw_cl q = ci) (hci : ci < 6) (hcl : vwCl[ci]? = some cq) (hC : cq.1 = C) (hst : (rest.map fun v => v.category).sum ≤ 8) (hs : As.reverse ++ .ref (P.2.1 q) :: rest = st) (hd : decode cc pc = .ok (.invokevirtual index, 3))
    (k : ∀ (v : Option Value) (σ' : nw_ST), Kv v σ' → nw_G P X nL σ' lv (pc + 3) (v.toList ++ rest)) : nw_G P X nL σ lv pc st := by
  intro H locs ls h1 h2 h3
  subst hs; subst hC
  obtain ⟨fs, hfs⟩ := nw_atO (P := P) (σ := σ) hq hci
  exact nw_after (va_runV (As := As) (rest := rest) h.1 hM (cwV n h.1.2.2.2.2 hg rfl hrc.1 hrc.2 hy hR) ⟨fun a U g mk z => ⟨z.1, z.2.call g mk a⟩, va_recv h.2.1.1 h1 hcl hfs, fun U hU hW => ⟨rfl, by rw [hU]; exact h1, by rw [hU]; exact h.2.1.go hW h2⟩⟩ rfl hn h3.1 rfl (lv_room hst) hd ⟨Nat.zero_le _, Nat.zero_le _⟩) h2 (fun v σ' H1 locs1 z1 z2 z3 => k v σ' z1 H1 locs1 ls z2 z3 h3)
theorem nw_callS (h : nw_ok P X cc own nL) (hM : nw_MT X.2.1 ym bytes maxL ret rm P As σ Kv) (hg : GoodIn nw_T (va_wsS own index ym (Cond.code ym bytes maxL ret :: nw_T))) (hy : ym.cls ≠ "java/lang/invoke/MethodHandle" ∧ ym.cls ≠ "java/lang/invoke/VarHandle" ∧ (parseMethodDescriptor ym.desc).map (fun d => d.parameters.length) = some n) (hn : As.length = n) (hR : rm.frames + 1 ≤ X.2.2.2.1.frames ∧ 8 + (maxL + 11) + rm.locals ≤ X.2.2.2.1.locals) (hrc : rm.cells = 0 ∧ rm.slots = 0) (hst : (rest.map fun v => v.category).sum ≤ 8) (hs : As.reverse ++ rest = st) (hd : decode cc pc = .ok (.invokestatic index, 3))
    (k : ∀ (v : Option Value) (σ' : nw_ST), Kv v σ' → nw_G P X nL σ' lv (pc + 3) (v.toList ++ rest)) : nw_G P X nL σ lv pc st := by
  intro H locs ls h1 h2 h3
  subst hs
  exact nw_after (va_runS (As := As) (rest := rest) h.1 hM (va_cwS n h.1.2.2.2.2 hg rfl hrc.1 hrc.2 hy hR) ⟨fun a U g mk z => ⟨z.1, z.2.call g mk a⟩, fun U hU hW => ⟨rfl, by rw [hU]; exact h1, by rw [hU]; exact h.2.1.go hW h2⟩⟩ rfl hn h3.1 rfl (lv_room hst) hd ⟨Nat.zero_le _, Nat.zero_le _⟩) h2 (fun v σ' H1 locs1 z1 z2 z3 => k v σ' z1 H1 locs1 ls z2 z3 h3)
theorem nw_callSN (h : nw_ok P X cc own nL) {host : String} (hM : nw_MT X.2.1 ym bytes maxL ret rm P As σ Kv) (hg : GoodIn nw_T (Cond.code ym bytes maxL ret :: nw_T)) (hw : (own, index, ym, host) ∈ nw_nM) (hi : Cond.initialized ym.cls ∈ nw_T) (hsw : Cond.static ym ∈ nw_T) (hy : ym.cls ≠ "java/lang/invoke/MethodHandle" ∧ ym.cls ≠ "java/lang/invoke/VarHandle" ∧ (parseMethodDescriptor ym.desc).map (fun d => d.parameters.length) = some n) (hn : As.length = n) (hR : rm.frames + 1 ≤ X.2.2.2.1.frames ∧ 8 + (maxL + 11) + rm.locals ≤ X.2.2.2.1.locals) (hrc : rm.cells = 0 ∧ rm.slots = 0) (hst : (rest.map fun v => v.category).sum ≤ 8) (hs : As.reverse ++ rest = st) (hd : decode cc pc = .ok (.invokestatic index, 3))
    (k : ∀ (v : Option Value) (σ' : nw_ST), Kv v σ' → nw_G P X nL σ' lv (pc + 3) (v.toList ++ rest)) : nw_G P X nL σ lv pc st := by
  intro H locs ls h1 h2 h3
  subst hs
  exact nw_after (va_runSN (As := As) (rest := rest) (host := host) h.1 hM ⟨va_cnB n h.1.2.2.2.2 hg rfl hrc.1 hrc.2 (h.2.1.2.2.1 _ hw) (h.1.2.2.2.2 _ hi) hy hR, h.1.2.2.2.2 _ hsw, trivial⟩ ⟨fun a U g mk z => ⟨z.1, z.2.call g mk a⟩, fun U hU hW => ⟨rfl, by rw [hU]; exact h1, by rw [hU]; exact h.2.1.go hW h2⟩⟩ rfl hn h3.1 rfl (lv_room hst) hd ⟨Nat.zero_le _, Nat.zero_le _⟩) h2 (fun v σ' H1 locs1 z1 z2 z3 => k v σ' z1 H1 locs1 ls z2 z3 h3)
end NWC
theorem nw_mmin (h : nw_ok P X cc own nL) {index : Nat} (hl : Cond.methodLink own index Lib.Math.min.name ∈ nw_T) (hs : Cond.static Lib.Math.min.name ∈ nw_T) (hi : Cond.initialized "java/lang/Math" ∈ nw_T) (hc : Cond.code Lib.Math.min.name Lib.Math.min.code 2 (some .int) ∈ nw_T) (hf : 1 ≤ X.2.2.2.1.frames) (hlo : (st.map fun v => v.category).sum + 13 ≤ X.2.2.2.1.locals) (hd : decode cc pc = .ok (.invokestatic index, 3)) (k : nw_G P X nL σ lv (pc + 3) (.int (if y < x then y else x) :: st)) : nw_G P X nL σ lv pc (.int y :: .int x :: st) :=
  fun H locs ls h1 h2 h3 => va_mmin h.1.1 h.1.2.1 (by rw [h3.1]; exact h.1.2.2.1) h.1.2.2.2.1 (h.1.2.2.2.2 _ hl) (h.1.2.2.2.2 _ hs) (h.1.2.2.2.2 _ hi) (h.1.2.2.2.2 _ hc) hf hlo (Nat.zero_le _) (Nat.zero_le _) hd (k H locs ls h1 h2 h3)
theorem nw_mmax (h : nw_ok P X cc own nL) {index : Nat} (hl : Cond.methodLink own index Lib.Math.max.name ∈ nw_T) (hs : Cond.static Lib.Math.max.name ∈ nw_T) (hi : Cond.initialized "java/lang/Math" ∈ nw_T) (hc : Cond.code Lib.Math.max.name Lib.Math.max.code 2 (some .int) ∈ nw_T) (hf : 1 ≤ X.2.2.2.1.frames) (hlo : (st.map fun v => v.category).sum + 13 ≤ X.2.2.2.1.locals) (hd : decode cc pc = .ok (.invokestatic index, 3)) (k : nw_G P X nL σ lv (pc + 3) (.int (if x < y then y else x) :: st)) : nw_G P X nL σ lv pc (.int y :: .int x :: st) :=
  fun H locs ls h1 h2 h3 => va_mmax h.1.1 h.1.2.1 (by rw [h3.1]; exact h.1.2.2.1) h.1.2.2.2.1 (h.1.2.2.2.2 _ hl) (h.1.2.2.2.2 _ hs) (h.1.2.2.2.2 _ hi) (h.1.2.2.2.2 _ hc) hf hlo (Nat.zero_le _) (Nat.zero_le _) hd (k H locs ls h1 h2 h3)
theorem nw_copy (h : nw_ok P X cc own nL) {index q0 q1 n0 n1 : Nat} {sp dp n : Int32} (hl : Cond.methodLink own index arraycopyName ∈ nw_T) (hna : Cond.native arraycopyName ∈ nw_T) (hs : Cond.static arraycopyName ∈ nw_T) (hi : Cond.initialized "java/lang/System" ∈ nw_T) (hq0 : nw_cl q0 = 10) (hq1 : nw_cl q1 = 10) (hn0 : nw_len q0 = n0) (hn1 : nw_len q1 = n1) (g1 : ¬ sp < 0) (g2 : ¬ dp < 0) (g3 : ¬ n < 0) (g4 : sp.toNatClampNeg + n.toNatClampNeg ≤ n0) (g5 : dp.toNatClampNeg + n.toNatClampNeg ≤ n1) (hf : 1 ≤ X.2.2.2.1.frames) (hlo : (st.map fun v => v.category).sum + (nativeFrameWords "java/lang/System" "arraycopy" 5 + 11) ≤ X.2.2.2.1.locals) (hd : decode cc pc = .ok (.invokestatic index, 3)) (k : nw_G P X nL (nw_sC σ q0 q1 sp.toNatClampNeg dp.toNatClampNeg n.toNatClampNeg) lv (pc + 3) st) : nw_G P X nL σ lv pc (.int n :: .int dp :: .ref (P.2.1 q1) :: .int sp :: .ref (P.2.1 q0) :: st) :=
  fun H locs ls h1 h2 h3 => by
    subst hn0; subst hn1
    exact va_copyi h.1.1 h.1.2.1 (by rw [h3.1]; exact h.1.2.2.1) h.1.2.2.2.1 (h.1.2.2.2.2 _ hl) (h.1.2.2.2.2 _ hna) (h.1.2.2.2.2 _ hs) (h.1.2.2.2.2 _ hi) h.2.1.1 h1 (h.2.2 σ) h2 q0 q1 0 0 (nw_atI hq0) (nw_atI hq1) rfl rfl rfl g1 g2 g3 g4 g5 (fun i _ => rfl) hf hlo hd (fun H1 locs1 z1 _ z2 => k H1 locs1 ls (by rw [nw_setC hq1] at z1; exact z1) z2 h3)
end NWR

