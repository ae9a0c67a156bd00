def nl_Step (Inv : nw_ST → Prop) : Prop := nl_S0 Inv ∧ nl_S1 Inv ∧ nl_S2 Inv ∧ nl_S3 Inv ∧ nl_S4 Inv ∧ nl_S5 Inv ∧ nl_S6 Inv ∧ nl_S7 Inv ∧ nl_S8 Inv ∧ nl_S9 Inv ∧ nl_S10 Inv ∧ nl_S11 Inv ∧ nl_S12 Inv ∧ nl_S13 Inv ∧ nl_S14 Inv ∧ nl_S15 Inv ∧ nl_S16 Inv ∧ nl_S17 Inv ∧ nl_S18 Inv ∧ nl_S19 Inv ∧ nl_S20 Inv ∧ nl_S21 Inv ∧ nl_S22 Inv ∧ nl_S23 Inv ∧ nl_S24 Inv ∧ nl_S25 Inv ∧ nl_S26 Inv ∧ nl_S27 Inv ∧ nl_S28 Inv ∧ nl_S29 Inv ∧ nl_S30 Inv ∧ nl_S31 Inv ∧ nl_S32 Inv ∧ nl_S33 Inv ∧ nl_S34 Inv ∧ nl_S35 Inv ∧ nl_S36 Inv ∧ nl_S37 Inv
theorem nl_le {L i : Nat} (hL : L ≤ 384) (hi : i ≤ 400) (h : ¬ (nI L - 6 < nI i)) : i + 6 ≤ L := by
  rw [Int32.lt_iff_toInt_lt, show (6 : Int32) = nI 6 from rfl, pk_sub_toInt (by omega) (by omega), nI_toInt (by omega)] at h
  omega
theorem nl_in {L i : Nat} (hL : L ≤ 384) (h : i + 6 ≤ L) (k : Nat) (hk : k < 6) : vp_in (nI i + nI k) L := by
  rw [nI_add]; exact vp_in_nI (by omega) (by omega)
theorem nl_63 (x : Int32) : 0 ≤ (x &&& 63).toInt ∧ (x &&& 63).toInt < 64 := by
  obtain ⟨j, hj, e⟩ := pk_andE x (m := 63) 6 (by decide)
  rw [e, nI_toInt (by omega)]; omega
set_option maxHeartbeats 4000000 in
set_option maxRecDepth 100000 in
theorem nl_loop {P : nw_PT} {X : nw_EX} {b L : Nat} {xs : Nat → Int32} {Inv : nw_ST → Prop} (h : nw_ok P X code RL 4) (hR : X.2.2.2.1 = room_1) (hX : va_X b L xs X.2.2.2.2.1 X.2.2.2.2.1.heap) (hbl : b < X.2.2.2.2.1.heap.size) (hbA : ¬ nw_A P b)  (hL : L ≤ 384) (hS : nl_Step Inv) (hret : ∀ (H : Heap) (ls : Array Slot), W X.1 X.2.1 X.2.2.1 X.2.2.2.1 X.2.2.2.2.1 X.2.2.2.2.2.1 X.2.2.2.2.2.2.1 X.2.2.2.2.2.2.2.1 X.2.2.2.2.2.2.2.2.1 X.2.2.2.2.2.2.2.2.2.1 H [] 600000 7302250 X.2.2.2.2.2.2.2.2.2.2 (F0 X.2.2.2.2.2.1 1363 ls [.int 1])) (hA : ∀ q : Nat, nw_A P q → X.2.2.2.2.1.heap.size ≤ q) :
    ∀ (n i : Nat) (σ : nw_ST), i ≤ L → L + 6 ≤ i + 6 * n → Inv σ → nl_G P X 4 σ [(0, .ref b), (1, .ref (P.2.1 0)), (2, .ref (P.2.1 37)), (3, .int (nI i))] 18 [] := by
  intro n
  induction n with
  | zero => intro i σ h1 h2; omega
  | succ n ih =>
    intro i σ hi hin hI
    refine nl_iload_n (pc := 18) h dL_law_18 rfl 3 rfl ?_
    refine nl_aload_n (pc := 19) h dL_law_19 rfl 0 rfl ?_
    refine nl_slen (pc := 20) h hX hbl hbA dL_law_20 ?_
    refine nl_bipush (pc := 21) (v := 6) h dL_law_21 (by decide) ?_
    refine nl_isub (pc := 23) h dL_law_23 ?_
    refine nl_icmp_gt (pc := 24) (tgt := 1362) h dL_law_24 (by decide) (fun _ => ?_) (fun c_24 => ?_)
    · refine nl_iconst (pc := 1362) (v := 1) h dL_law_1362 (by decide) ?_
      intro H locs ls h1 h2 h3
      refine va_forget (fun q hq => hA _ (h2.2.2 q hq)) ?_
      exact hret H ls
    · have hle := nl_le hL (by omega) c_24
      have k : ∀ (s2 : nw_ST), Inv s2 → nl_G P X 4 s2 [(0, .ref b), (1, .ref (P.2.1 0)), (2, .ref (P.2.1 37)), (3, .int (nI i))] 1356 [] := by
        intro s2 hI2
        refine nl_iinc (pc := 1356) (v := nI (i + 6)) (lv' := [(3, .int (nI (i + 6))), (0, .ref b), (1, .ref (P.2.1 0)), (2, .ref (P.2.1 37))]) h dL_law_1356 (j := 3) rfl (nI_add i 6) (by decide) rfl ?_
        refine nl_goto (pc := 1359) (tgt := 18) h dL_law_1359 (by decide) ?_
        have h9 := ih (i + 6) s2 hle (by omega) hI2
        intro H locs ls g1 g2 g3
        exact h9 H locs ls g1 g2 (lv_sub g3 [1, 2, 3, 0] rfl)
      have i0 : vp_in (nI i) L := vp_in_nI (by omega) (by omega)
      have i1 := nl_in hL hle 1 (by decide)
      have i2 := nl_in hL hle 2 (by decide)
      have i3 := nl_in hL hle 3 (by decide)
      have i4 := nl_in hL hle 4 (by decide)
      have i5 := nl_in hL hle 5 (by decide)
      refine nl_aload_n (pc := 27) h dL_law_27 rfl 0 rfl ?_
      refine nl_iload_n (pc := 28) h dL_law_28 rfl 3 rfl ?_
      refine nl_sld (pc := 29) h hX hbl hbA i0 dL_law_29 ?_
      refine nl_bipush (pc := 30) (v := 63) h dL_law_30 (by decide) ?_
      refine nl_iand (pc := 32) h dL_law_32 ?_
      generalize xs (nI i).toNatClampNeg &&& 63 = w
      by_cases e_0 : w = (0 : Int32)
      · refine nl_tabIn (pc := 33) (off := 167) (tgt := 200) h dL_law_33 (by rw [e_0]; decide) (by rw [e_0]; decide) (by rw [e_0]; decide) (by decide) ?_
        exact nl_c0 h hR hX hbl hbA i1 i2 i3 i4 i5 k (hS.1) hI
      by_cases e_1 : w = (1 : Int32)
      · refine nl_tabIn (pc := 33) (off := 200) (tgt := 233) h dL_law_33 (by rw [e_1]; decide) (by rw [e_1]; decide) (by rw [e_1]; decide) (by decide) ?_
        exact nl_c1 h hR hX hbl hbA i1 i2 i3 i4 i5 k (hS.2.1) hI
      by_cases e_2 : w = (2 : Int32)
      · refine nl_tabIn (pc := 33) (off := 223) (tgt := 256) h dL_law_33 (by rw [e_2]; decide) (by rw [e_2]; decide) (by rw [e_2]; decide) (by decide) ?_
        exact nl_c2 h hR hX hbl hbA i1 i2 i3 i4 i5 k (hS.2.2.1) hI
      by_cases e_3 : w = (3 : Int32)
      · refine nl_tabIn (pc := 33) (off := 246) (tgt := 279) h dL_law_33 (by rw [e_3]; decide) (by rw [e_3]; decide) (by rw [e_3]; decide) (by decide) ?_
        exact nl_c3 h hR hX hbl hbA i1 i2 i3 i4 i5 k (hS.2.2.2.1) hI
      by_cases e_4 : w = (4 : Int32)
      · refine nl_tabIn (pc := 33) (off := 269) (tgt := 302) h dL_law_33 (by rw [e_4]; decide) (by rw [e_4]; decide) (by rw [e_4]; decide) (by decide) ?_
        exact nl_c4 h hR hX hbl hbA i1 i2 i3 i4 i5 k (hS.2.2.2.2.1) hI
      by_cases e_5 : w = (5 : Int32)
      · refine nl_tabIn (pc := 33) (off := 302) (tgt := 335) h dL_law_33 (by rw [e_5]; decide) (by rw [e_5]; decide) (by rw [e_5]; decide) (by decide) ?_
        exact nl_c5 h hR hX hbl hbA i1 i2 i3 i4 i5 k (hS.2.2.2.2.2.1) hI
      by_cases e_6 : w = (6 : Int32)
      · refine nl_tabIn (pc := 33) (off := 335) (tgt := 368) h dL_law_33 (by rw [e_6]; decide) (by rw [e_6]; decide) (by rw [e_6]; decide) (by decide) ?_
        exact nl_c6 h hR hX hbl hbA i1 i2 i3 i4 i5 k (hS.2.2.2.2.2.2.1) hI
      by_cases e_7 : w = (7 : Int32)
      · refine nl_tabIn (pc := 33) (off := 358) (tgt := 391) h dL_law_33 (by rw [e_7]; decide) (by rw [e_7]; decide) (by rw [e_7]; decide) (by decide) ?_
        exact nl_c7 h hR hX hbl hbA i1 i2 i3 i4 i5 k (hS.2.2.2.2.2.2.2.1) hI
      by_cases e_8 : w = (8 : Int32)
      · refine nl_tabIn (pc := 33) (off := 391) (tgt := 424) h dL_law_33 (by rw [e_8]; decide) (by rw [e_8]; decide) (by rw [e_8]; decide) (by decide) ?_
        exact nl_c8 h hR hX hbl hbA i1 i2 i3 i4 i5 k (hS.2.2.2.2.2.2.2.2.1) hI
      by_cases e_9 : w = (9 : Int32)
      · refine nl_tabIn (pc := 33) (off := 414) (tgt := 447) h dL_law_33 (by rw [e_9]; decide) (by rw [e_9]; decide) (by rw [e_9]; decide) (by decide) ?_
        exact nl_c9 h hR hX hbl hbA i1 i2 i3 i4 i5 k (hS.2.2.2.2.2.2.2.2.2.1) hI
      by_cases e_10 : w = (10 : Int32)
      · refine nl_tabIn (pc := 33) (off := 447) (tgt := 480) h dL_law_33 (by rw [e_10]; decide) (by rw [e_10]; decide) (by rw [e_10]; decide) (by decide) ?_
        exact nl_c10 h hR hX hbl hbA i1 i2 i3 i4 i5 k (hS.2.2.2.2.2.2.2.2.2.2.1) hI
      by_cases e_11 : w = (11 : Int32)
      · refine nl_tabIn (pc := 33) (off := 470) (tgt := 503) h dL_law_33 (by rw [e_11]; decide) (by rw [e_11]; decide) (by rw [e_11]; decide) (by decide) ?_
        exact nl_c11 h hR hX hbl hbA i1 i2 i3 i4 i5 k (hS.2.2.2.2.2.2.2.2.2.2.2.1) hI
      by_cases e_12 : w = (12 : Int32)
      · refine nl_tabIn (pc := 33) (off := 493) (tgt := 526) h dL_law_33 (by rw [e_12]; decide) (by rw [e_12]; decide) (by rw [e_12]; decide) (by decide) ?_
        exact nl_c12 h hR hX hbl hbA i1 i2 i3 i4 i5 k (hS.2.2.2.2.2.2.2.2.2.2.2.2.1) hI
      by_cases e_13 : w = (13 : Int32)
      · refine nl_tabIn (pc := 33) (off := 516) (tgt := 549) h dL_law_33 (by rw [e_13]; decide) (by rw [e_13]; decide) (by rw [e_13]; decide) (by decide) ?_
        exact nl_c13 h hR hX hbl hbA i1 i2 i3 i4 i5 k (hS.2.2.2.2.2.2.2.2.2.2.2.2.2.1) hI
      by_cases e_14 : w = (14 : Int32)
      · refine nl_tabIn (pc := 33) (off := 549) (tgt := 582) h dL_law_33 (by rw [e_14]; decide) (by rw [e_14]; decide) (by rw [e_14]; decide) (by decide) ?_
        exact nl_c14 h hR hX hbl hbA i1 i2 i3 i4 i5 k (hS.2.2.2.2.2.2.2.2.2.2.2.2.2.2.1) hI
      by_cases e_15 : w = (15 : Int32)
      · refine nl_tabIn (pc := 33) (off := 572) (tgt := 605) h dL_law_33 (by rw [e_15]; decide) (by rw [e_15]; decide) (by rw [e_15]; decide) (by decide) ?_
        exact nl_c15 h hR hX hbl hbA i1 i2 i3 i4 i5 k (hS.2.2.2.2.2.2.2.2.2.2.2.2.2.2.2.1) hI
      by_cases e_16 : w = (16 : Int32)
      · refine nl_tabIn (pc := 33) (off := 605) (tgt := 638) h dL_law_33 (by rw [e_16]; decide) (by rw [e_16]; decide) (by rw [e_16]; decide) (by decide) ?_
        exact nl_c16 h hR hX hbl hbA i1 i2 i3 i4 i5 k (hS.2.2.2.2.2.2.2.2.2.2.2.2.2.2.2.2.1) hI
      by_cases e_17 : w = (17 : Int32)
      · refine nl_tabIn (pc := 33) (off := 628) (tgt := 661) h dL_law_33 (by rw [e_17]; decide) (by rw [e_17]; decide) (by rw [e_17]; decide) (by decide) ?_
        exact nl_c17 h hR hX hbl hbA i1 i2 i3 i4 i5 k (hS.2.2.2.2.2.2.2.2.2.2.2.2.2.2.2.2.2.1) hI
      by_cases e_18 : w = (18 : Int32)
      · refine nl_tabIn (pc := 33) (off := 651) (tgt := 684) h dL_law_33 (by rw [e_18]; decide) (by rw [e_18]; decide) (by rw [e_18]; decide) (by decide) ?_
        exact nl_c18 h hR hX hbl hbA i1 i2 i3 i4 i5 k (hS.2.2.2.2.2.2.2.2.2.2.2.2.2.2.2.2.2.2.1) hI
      by_cases e_19 : w = (19 : Int32)
      · refine nl_tabIn (pc := 33) (off := 674) (tgt := 707) h dL_law_33 (by rw [e_19]; decide) (by rw [e_19]; decide) (by rw [e_19]; decide) (by decide) ?_
        exact nl_c19 h hR hX hbl hbA i1 i2 i3 i4 i5 k (hS.2.2.2.2.2.2.2.2.2.2.2.2.2.2.2.2.2.2.2.1) hI
      by_cases e_20 : w = (20 : Int32)
      · refine nl_tabIn (pc := 33) (off := 727) (tgt := 760) h dL_law_33 (by rw [e_20]; decide) (by rw [e_20]; decide) (by rw [e_20]; decide) (by decide) ?_
        exact nl_c20 h hR hX hbl hbA i1 i2 i3 i4 i5 k (hS.2.2.2.2.2.2.2.2.2.2.2.2.2.2.2.2.2.2.2.2.1) hI
      by_cases e_21 : w = (21 : Int32)
      · refine nl_tabIn (pc := 33) (off := 760) (tgt := 793) h dL_law_33 (by rw [e_21]; decide) (by rw [e_21]; decide) (by rw [e_21]; decide) (by decide) ?_
        exact nl_c21 h hR hX hbl hbA i1 i2 i3 i4 i5 k (hS.2.2.2.2.2.2.2.2.2.2.2.2.2.2.2.2.2.2.2.2.2.1) hI
      by_cases e_22 : w = (22 : Int32)
      · refine nl_tabIn (pc := 33) (off := 783) (tgt := 816) h dL_law_33 (by rw [e_22]; decide) (by rw [e_22]; decide) (by rw [e_22]; decide) (by decide) ?_
        exact nl_c22 h hR hX hbl hbA i1 i2 i3 i4 i5 k (hS.2.2.2.2.2.2.2.2.2.2.2.2.2.2.2.2.2.2.2.2.2.2.1) hI
      by_cases e_23 : w = (23 : Int32)
      · refine nl_tabIn (pc := 33) (off := 816) (tgt := 849) h dL_law_33 (by rw [e_23]; decide) (by rw [e_23]; decide) (by rw [e_23]; decide) (by decide) ?_
        exact nl_c23 h hR hX hbl hbA i1 i2 i3 i4 i5 k (hS.2.2.2.2.2.2.2.2.2.2.2.2.2.2.2.2.2.2.2.2.2.2.2.1) hI
      by_cases e_24 : w = (24 : Int32)
      · refine nl_tabIn (pc := 33) (off := 849) (tgt := 882) h dL_law_33 (by rw [e_24]; decide) (by rw [e_24]; decide) (by rw [e_24]; decide) (by decide) ?_
        exact nl_c24 h hR hX hbl hbA i1 i2 i3 i4 i5 k (hS.2.2.2.2.2.2.2.2.2.2.2.2.2.2.2.2.2.2.2.2.2.2.2.2.1) hI
      by_cases e_25 : w = (25 : Int32)
      · refine nl_tabIn (pc := 33) (off := 862) (tgt := 895) h dL_law_33 (by rw [e_25]; decide) (by rw [e_25]; decide) (by rw [e_25]; decide) (by decide) ?_
        exact nl_c25 h hR hX hbl hbA i1 i2 i3 i4 i5 k (hS.2.2.2.2.2.2.2.2.2.2.2.2.2.2.2.2.2.2.2.2.2.2.2.2.2.1) hI
      by_cases e_26 : w = (26 : Int32)
      · refine nl_tabIn (pc := 33) (off := 885) (tgt := 918) h dL_law_33 (by rw [e_26]; decide) (by rw [e_26]; decide) (by rw [e_26]; decide) (by decide) ?_
        exact nl_c26 h hR hX hbl hbA i1 i2 i3 i4 i5 k (hS.2.2.2.2.2.2.2.2.2.2.2.2.2.2.2.2.2.2.2.2.2.2.2.2.2.2.1) hI
      by_cases e_27 : w = (27 : Int32)
      · refine nl_tabIn (pc := 33) (off := 908) (tgt := 941) h dL_law_33 (by rw [e_27]; decide) (by rw [e_27]; decide) (by rw [e_27]; decide) (by decide) ?_
        exact nl_c27 h hR hX hbl hbA i1 i2 i3 i4 i5 k (hS.2.2.2.2.2.2.2.2.2.2.2.2.2.2.2.2.2.2.2.2.2.2.2.2.2.2.2.1) hI
      by_cases e_28 : w = (28 : Int32)
      · refine nl_tabIn (pc := 33) (off := 941) (tgt := 974) h dL_law_33 (by rw [e_28]; decide) (by rw [e_28]; decide) (by rw [e_28]; decide) (by decide) ?_
        exact nl_c28 h hR hX hbl hbA i1 i2 i3 i4 i5 k (hS.2.2.2.2.2.2.2.2.2.2.2.2.2.2.2.2.2.2.2.2.2.2.2.2.2.2.2.2.1) hI
      by_cases e_29 : w = (29 : Int32)
      · refine nl_tabIn (pc := 33) (off := 985) (tgt := 1018) h dL_law_33 (by rw [e_29]; decide) (by rw [e_29]; decide) (by rw [e_29]; decide) (by decide) ?_
        exact nl_c29 h hR hX hbl hbA i1 i2 i3 i4 i5 k (hS.2.2.2.2.2.2.2.2.2.2.2.2.2.2.2.2.2.2.2.2.2.2.2.2.2.2.2.2.2.1) hI
      by_cases e_30 : w = (30 : Int32)
      · refine nl_tabIn (pc := 33) (off := 1028) (tgt := 1061) h dL_law_33 (by rw [e_30]; decide) (by rw [e_30]; decide) (by rw [e_30]; decide) (by decide) ?_
        exact nl_c30 h hR hX hbl hbA i1 i2 i3 i4 i5 k (hS.2.2.2.2.2.2.2.2.2.2.2.2.2.2.2.2.2.2.2.2.2.2.2.2.2.2.2.2.2.2.1) hI
      by_cases e_31 : w = (31 : Int32)
      · refine nl_tabIn (pc := 33) (off := 1071) (tgt := 1104) h dL_law_33 (by rw [e_31]; decide) (by rw [e_31]; decide) (by rw [e_31]; decide) (by decide) ?_
        exact nl_c31 h hR hX hbl hbA i1 i2 i3 i4 i5 k (hS.2.2.2.2.2.2.2.2.2.2.2.2.2.2.2.2.2.2.2.2.2.2.2.2.2.2.2.2.2.2.2.1) hI
      by_cases e_32 : w = (32 : Int32)
      · refine nl_tabIn (pc := 33) (off := 1094) (tgt := 1127) h dL_law_33 (by rw [e_32]; decide) (by rw [e_32]; decide) (by rw [e_32]; decide) (by decide) ?_
        exact nl_c32 h hR hX hbl hbA i1 i2 i3 i4 i5 k (hS.2.2.2.2.2.2.2.2.2.2.2.2.2.2.2.2.2.2.2.2.2.2.2.2.2.2.2.2.2.2.2.2.1) hI
      by_cases e_33 : w = (33 : Int32)
      · refine nl_tabIn (pc := 33) (off := 1147) (tgt := 1180) h dL_law_33 (by rw [e_33]; decide) (by rw [e_33]; decide) (by rw [e_33]; decide) (by decide) ?_
        exact nl_c33 h hR hX hbl hbA i1 i2 i3 i4 i5 k (hS.2.2.2.2.2.2.2.2.2.2.2.2.2.2.2.2.2.2.2.2.2.2.2.2.2.2.2.2.2.2.2.2.2.1) hI
      by_cases e_34 : w = (34 : Int32)
      · refine nl_tabIn (pc := 33) (off := 1190) (tgt := 1223) h dL_law_33 (by rw [e_34]; decide) (by rw [e_34]; decide) (by rw [e_34]; decide) (by decide) ?_
        exact nl_c34 h hR hX hbl hbA i1 i2 i3 i4 i5 k (hS.2.2.2.2.2.2.2.2.2.2.2.2.2.2.2.2.2.2.2.2.2.2.2.2.2.2.2.2.2.2.2.2.2.2.1) hI
      by_cases e_35 : w = (35 : Int32)
      · refine nl_tabIn (pc := 33) (off := 1253) (tgt := 1286) h dL_law_33 (by rw [e_35]; decide) (by rw [e_35]; decide) (by rw [e_35]; decide) (by decide) ?_
        exact nl_c35 h hR hX hbl hbA i1 i2 i3 i4 i5 k (hS.2.2.2.2.2.2.2.2.2.2.2.2.2.2.2.2.2.2.2.2.2.2.2.2.2.2.2.2.2.2.2.2.2.2.2.1) hI
      by_cases e_36 : w = (36 : Int32)
      · refine nl_tabIn (pc := 33) (off := 1286) (tgt := 1319) h dL_law_33 (by rw [e_36]; decide) (by rw [e_36]; decide) (by rw [e_36]; decide) (by decide) ?_
        exact nl_c36 h hR hX hbl hbA i1 i2 i3 i4 i5 k (hS.2.2.2.2.2.2.2.2.2.2.2.2.2.2.2.2.2.2.2.2.2.2.2.2.2.2.2.2.2.2.2.2.2.2.2.2.1) hI
      by_cases e_37 : w = (37 : Int32)
      · refine nl_tabIn (pc := 33) (off := 1309) (tgt := 1342) h dL_law_33 (by rw [e_37]; decide) (by rw [e_37]; decide) (by rw [e_37]; decide) (by decide) ?_
        exact nl_c37 h hR hX hbl hbA i1 i2 i3 i4 i5 k (hS.2.2.2.2.2.2.2.2.2.2.2.2.2.2.2.2.2.2.2.2.2.2.2.2.2.2.2.2.2.2.2.2.2.2.2.2.2) hI
      refine nl_tabOut (pc := 33) (tgt := 1356) h dL_law_33 (by have z_0 := lv_neT e_0 (by decide : (0 : Int32).toInt = 0); have z_1 := lv_neT e_1 (by decide : (1 : Int32).toInt = 1); have z_2 := lv_neT e_2 (by decide : (2 : Int32).toInt = 2); have z_3 := lv_neT e_3 (by decide : (3 : Int32).toInt = 3); have z_4 := lv_neT e_4 (by decide : (4 : Int32).toInt = 4); have z_5 := lv_neT e_5 (by decide : (5 : Int32).toInt = 5); have z_6 := lv_neT e_6 (by decide : (6 : Int32).toInt = 6); have z_7 := lv_neT e_7 (by decide : (7 : Int32).toInt = 7); have z_8 := lv_neT e_8 (by decide : (8 : Int32).toInt = 8); have z_9 := lv_neT e_9 (by decide : (9 : Int32).toInt = 9); have z_10 := lv_neT e_10 (by decide : (10 : Int32).toInt = 10); have z_11 := lv_neT e_11 (by decide : (11 : Int32).toInt = 11); have z_12 := lv_neT e_12 (by decide : (12 : Int32).toInt = 12); have z_13 := lv_neT e_13 (by decide : (13 : Int32).toInt = 13); have z_14 := lv_neT e_14 (by decide : (14 : Int32).toInt = 14); have z_15 := lv_neT e_15 (by decide : (15 : Int32).toInt = 15); have z_16 := lv_neT e_16 (by decide : (16 : Int32).toInt = 16); have z_17 := lv_neT e_17 (by decide : (17 : Int32).toInt = 17); have z_18 := lv_neT e_18 (by decide : (18 : Int32).toInt = 18); have z_19 := lv_neT e_19 (by decide : (19 : Int32).toInt = 19); have z_20 := lv_neT e_20 (by decide : (20 : Int32).toInt = 20); have z_21 := lv_neT e_21 (by decide : (21 : Int32).toInt = 21); have z_22 := lv_neT e_22 (by decide : (22 : Int32).toInt = 22); have z_23 := lv_neT e_23 (by decide : (23 : Int32).toInt = 23); have z_24 := lv_neT e_24 (by decide : (24 : Int32).toInt = 24); have z_25 := lv_neT e_25 (by decide : (25 : Int32).toInt = 25); have z_26 := lv_neT e_26 (by decide : (26 : Int32).toInt = 26); have z_27 := lv_neT e_27 (by decide : (27 : Int32).toInt = 27); have z_28 := lv_neT e_28 (by decide : (28 : Int32).toInt = 28); have z_29 := lv_neT e_29 (by decide : (29 : Int32).toInt = 29); have z_30 := lv_neT e_30 (by decide : (30 : Int32).toInt = 30); have z_31 := lv_neT e_31 (by decide : (31 : Int32).toInt = 31); have z_32 := lv_neT e_32 (by decide : (32 : Int32).toInt = 32); have z_33 := lv_neT e_33 (by decide : (33 : Int32).toInt = 33); have z_34 := lv_neT e_34 (by decide : (34 : Int32).toInt = 34); have z_35 := lv_neT e_35 (by decide : (35 : Int32).toInt = 35); have z_36 := lv_neT e_36 (by decide : (36 : Int32).toInt = 36); have z_37 := lv_neT e_37 (by decide : (37 : Int32).toInt = 37); omega) (by decide) ?_
      exact k σ hI
