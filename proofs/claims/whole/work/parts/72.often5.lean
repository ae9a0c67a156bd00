/-! ===== often: the two sides ===== -/
def nb_fP (S : nb_S) (x i : Nat) : Bool := nb_hd (nb_VP (nb_VS S) x (i + 2)) S (S.1 6)
def nb_iP (S : nb_S) (x : Nat) (b : Int32) : Int32 := nb_ith (nb_fP S x) (fun i => nI (i + 2)) b 98
def nb_aOften (S : nb_S) (a b : Int32) : Int32 := if v4_isBelow a (nI (nb_ns (nb_VS S))) = 0 then -2 else if v5_in b (-1) 97 = 0 then -2 else nb_iP S a.toNatClampNeg b
theorem nb_often4 {K : Int32 → nw_ST → Prop} {S : nb_S} {σ : nw_ST} {a b : Int32} (hO : nb_OK S) (hC : nb_C S σ) (hk : ∀ s, nb_C S s → nb_Ch nb_cS nb_cA σ s → K (nb_aOften S a b) s) : f4_often K σ a b := by
  unfold f4_often f4_often_24
  have hen := nb_en0 S hO
  have h16 : nw_gS σ 1 6 = nI (nb_ns (nb_VS S)) := hC.1.2.2.1.2.2.2.1
  have hns : nb_ns (nb_VS S) ≤ 6 := hen
  rw [h16, nb_isFrom]
  unfold nb_aOften at hk
  refine ⟨fun z => ?_, fun z => ⟨fun z2 => ?_, fun z2 => ?_⟩⟩
  · have := hk σ hC nb_Ch.rf; rw [if_pos z] at this; exact this
  · have := hk σ hC nb_Ch.rf; rw [if_neg z, if_pos z2] at this; exact this
  · rw [if_neg z, if_neg z2] at hk
    obtain ⟨x, hx, rfl⟩ := nb_belowE (by omega) z
    rw [nI_clamp (show x < 2 ^ 31 by omega)] at hk
    refine nb_waves hO hC (fun s1 hs1 hw1 hc1 => ?_)
    refine nb_markDue hO hs1.1 (fun s c35 hD => ?_)
    have hs : nb_C S s := hs1.ch c35 (by decide) (by decide)
    have hw : nb_WV (nb_VS S) s := hw1.ch c35 (by decide) (by decide)
    have hk := hk s hs (hc1.tr (c35.up (by decide) (by decide +kernel)))
    unfold nb_iP nb_ith at hk
    have hit : ∀ i, i < 98 → nb_fP S x i = true → nI (nb_cnt (nb_fP S x) i) = b → nb_fnd (nb_fP S x) (fun i => nI (i + 2)) b 98 = nI (i + 2) := fun i hi hF hx => nb_fnd_hit (by decide) hF hx hi
    generalize h1 : nb_fnd (nb_fP S x) (fun i => nI (i + 2)) b 98 = fa at hk hit
    generalize h2 : nb_cnt (nb_fP S x) 98 = ca at hk
    refine pk_loop (fun m i u => f4_often_44 K m u (nI x) b (nI (nb_end S (S.1 6))) (nI (nb_cnt (nb_fP S x) i)) (nI (i + 2))) (fun i u => u = s ∧ nb_fnd (nb_fP S x) (fun i => nI (i + 2)) b i = -1) 98 0 s (by decide) ⟨rfl, rfl⟩ ?_ ?_
    · rintro m u ⟨rfl, hf⟩
      show b4_often_44 K _ u (nI x) b _ (nI (nb_cnt (nb_fP S x) 98)) (nI 100)
      rw [h1] at hf
      rw [h2]
      rw [hf] at hk
      unfold b4_often_44 f4_often_93
      exact ⟨fun _ => hk, fun w => absurd (by decide) w⟩
    · rintro m i u hi ⟨rfl, hf⟩ ih
      show b4_often_44 K _ u (nI x) b _ (nI (nb_cnt (nb_fP S x) i)) (nI (i + 2))
      unfold b4_often_44 f4_often_76
      have hcl := nb_cnt_le (nb_fP S x) i
      refine ⟨fun w => absurd ((nI_ltI (a := 99) (by decide) (by omega)).mp w) (by omega), fun _ => nb_fitsPeriod hO hs.1 hw hD hx (by omega) (by omega) ?_⟩
      have hq : nb_hd (nb_VP (nb_VS S) x (i + 2)) S (S.1 6) = nb_fP S x i := rfl
      rw [hq, nI_1 (i + 2)]
      by_cases q : nb_fP S x i = true
      · rw [if_pos q]
        refine ⟨fun y => absurd y (by decide), fun _ => ⟨fun y => ?_, fun y => ?_⟩⟩
        · have e := hit i hi q y
          have na : ¬ b = -1 := fun w => nb_neg1 (b := nb_cnt (nb_fP S x) i) (by omega) (y.trans w)
          rw [if_neg na, e] at hk
          exact hk
        · have := ih u ⟨rfl, by rw [nb_fndS, if_neg (fun w => y w.2)]; exact hf⟩
          rw [nb_cntS, if_pos q] at this
          rw [nI_1]; exact this
      · rw [if_neg q]
        refine ⟨fun _ => ?_, fun y => absurd rfl y⟩
        have := ih u ⟨rfl, by rw [nb_fndS, if_neg (fun w => q w.1)]; exact hf⟩
        rw [nb_cntS, if_neg q] at this
        exact this
theorem nb_oftenOf {K : Int32 → nw_ST → Prop} {S : nb_S} {σ : nw_ST} {x : Nat} {b : Int32} (hO : nb_OK S) (hM : nb_MP S σ) (hx : x < nb_ns (nb_VS S)) (hk : ∀ s, nb_MP S s → nb_Ch nb_mS nb_mA σ s → nb_RD S s → K (nb_iP S x b) s) : f5_oftenOf K σ (nI x) b := by
  unfold f5_oftenOf
  refine nb_reads hO hM (fun s1 m1 c1 r1 => ?_)
  refine nb_asTold m1 r1 (fun s2 m2 c2 r2 l2 t2 => ?_)
  have hen := nb_en0 S hO
  have hns : nb_ns (nb_VS S) ≤ 6 := hen
  have hB := nb_VSB hO
  have cc : nb_Ch nb_mS nb_mA σ s2 := (nb_rCh c1).tr (c2.up (by decide +kernel) (by decide +kernel))
  have g41 : nw_gA s2 41 x = nI (nb_pe (nb_VS S) x) := (l2.1.2 x hx).2.1
  rw [nI_clamp (show x < 2 ^ 31 by omega), g41]
  refine ⟨vp_in_nI (by omega) (by decide), ?_⟩
  have hI : ∀ u, nb_Ch [(37, 25), (37, 26)] [41, 51, 52, 53] s2 u → nb_MP S u := fun u hu => m2.ch hu (by decide) (by decide)
  unfold nb_iP nb_ith at hk
  generalize h1 : nb_fnd (nb_fP S x) (fun i => nI (i + 2)) b 98 = fa at hk
  generalize h2 : nb_cnt (nb_fP S x) 98 = ca at hk
  refine pk_loop (fun n i u => f5_oftenOf_24 K n u (nI x) b (nI (nb_pe (nb_VS S) x)) (nI (nb_cnt (nb_fP S x) i)) (nb_fnd (nb_fP S x) (fun i => nI (i + 2)) b i) (nI (i + 2))) (fun i u => nb_Ch [(37, 25), (37, 26)] [41, 51, 52, 53] s2 u ∧ (∀ i, i < nb_ns (nb_VS S) → i ≠ x → nw_gA u 41 i = nw_gA s2 41 i)) 98 0 s2 (by decide) ⟨nb_Ch.rf, fun i _ _ => rfl⟩ ?_ ?_
  · rintro n u ⟨cu, h41⟩
    show b5_oftenOf_24 _ _ u (nI x) b _ (nI (nb_cnt (nb_fP S x) 98)) (nb_fnd (nb_fP S x) (fun i => nI (i + 2)) b 98) (nI 100)
    rw [h1, h2]
    unfold b5_oftenOf_24 f5_oftenOf_105
    rw [nI_clamp (show x < 2 ^ 31 by omega)]
    refine ⟨fun _ => ⟨vp_in_nI (by omega) (by decide), ?_⟩, fun w => absurd (by decide) w⟩
    have cv : nb_Ch [(37, 25), (37, 26)] [41, 51, 52, 53] s2 (nw_sA u 41 x (nI (nb_pe (nb_VS S) x))) := cu.sA _ _ (by decide)
    have h41v : ∀ i, i < nb_ns (nb_VS S) → nw_gA (nw_sA u 41 x (nI (nb_pe (nb_VS S) x))) 41 i = nI (nb_pe (nb_VS S) i) := by
      intro i hi
      rw [nb_gAsA, if_pos rfl]
      by_cases e : i = x
      · rw [if_pos e, e]
      · rw [if_neg e, h41 i hi e]; exact (l2.1.2 i hi).2.1
    refine hk _ (hI _ cv) (cc.tr (cv.up (by decide +kernel) (by decide +kernel))) ⟨⟨(cv.1 37 2 (by decide)).trans r2.1.1, fun i hi w hw => ?_⟩, r2.2.ch cv (by decide) (by intro w hw; rcases (show w = 0 ∨ w = 1 ∨ w = 2 by omega) with rfl | rfl | rfl <;> decide)⟩
    rcases (show w = 0 ∨ w = 1 ∨ w = 2 by omega) with rfl | rfl | rfl
    · exact ((cv.2 40 (by decide)).1 i).trans (r2.1.2 i hi 0 (by decide))
    · exact h41v i hi
    · exact ((cv.2 42 (by decide)).1 i).trans (r2.1.2 i hi 2 (by decide))
  · rintro n i u hi ⟨cu, h41⟩ ih
    show b5_oftenOf_24 _ _ u (nI x) b _ (nI (nb_cnt (nb_fP S x) i)) (nb_fnd (nb_fP S x) (fun i => nI (i + 2)) b i) (nI (i + 2))
    unfold b5_oftenOf_24 f5_oftenOf_63 f5_oftenOf_77
    rw [nI_clamp (show x < 2 ^ 31 by omega)]
    refine ⟨fun w => absurd w (nI_ge (b := 100) (by omega) (by decide)), fun _ => ⟨vp_in_nI (by omega) (by decide), ?_⟩⟩
    have cv : nb_Ch [(37, 25), (37, 26)] [41, 51, 52, 53] s2 (nw_sA u 41 x (nI (i + 2))) := cu.sA _ _ (by decide)
    have h41v : ∀ r, r < nb_ns (nb_VS S) → r ≠ x → nw_gA (nw_sA u 41 x (nI (i + 2))) 41 r = nw_gA s2 41 r := by
      intro r hr hn
      rw [nb_gAsA, if_pos rfl, if_neg hn]
      exact h41 r hr hn
    have h41n : nw_gA (nw_sA u 41 x (nI (i + 2))) 41 x = nI (i + 2) := by rw [nb_gAsA, if_pos rfl, if_pos rfl]
    generalize nw_sA u 41 x (nI (i + 2)) = v at cv h41v h41n ⊢
    have lv : nb_LV (nb_VP (nb_VS S) x (i + 2)) v := by
      obtain ⟨⟨a1, a2⟩, b1, ⟨d1, d2⟩, e1, g2⟩ := l2
      refine ⟨⟨(cv.1 37 2 (by decide)).trans a1, fun r hr => ⟨((cv.2 40 (by decide)).1 r).trans (a2 r hr).1, ?_, ((cv.2 42 (by decide)).1 r).trans (a2 r hr).2.2⟩⟩, (cv.1 37 10 (by decide)).trans b1, ⟨(cv.1 37 23 (by decide)).trans d1, fun r hr => ((cv.2 48 (by decide)).1 r).trans (d2 r hr)⟩, (cv.1 37 22 (by decide)).trans e1, fun r hr => ⟨((cv.2 46 (by decide)).1 r).trans (g2 r hr).1, ((cv.2 47 (by decide)).1 r).trans (g2 r hr).2⟩⟩
      show _ = nI (if r = x then i + 2 else nb_pe (nb_VS S) r)
      by_cases e : r = x
      · rw [if_pos e, e]; exact h41n
      · rw [if_neg e]
        exact (h41v r hr e).trans (a2 r hr).2.1
    refine nb_isHeard hO (hI v cv) (nb_VPB hB (by omega) (by omega)) lv (fun w hv => ?_)
    have := ih w ⟨cv.tr (hv.up (by decide) (by decide)), fun r hr hn => ((hv.2 41 (by decide)).1 r).trans (h41v r hr hn)⟩
    rw [← nb_cnt_ref, ← nb_fnd_ref] at this
    rw [nI_1 (i + 2)]
    exact this
theorem nb_often5 {K : Int32 → nw_ST → Prop} {S : nb_S} {σ : nw_ST} {a b : Int32} (hO : nb_OK S) (hM : nb_MP S σ) (hk : ∀ s, nb_MP S s → nb_Ch nb_mS nb_mA σ s → K (nb_aOften S a b) s) : f5_often K σ a b := by
  unfold f5_often f5_often_27 f5_often_29 f5_isSwell
  have hen := nb_en0 S hO
  have hns : nb_ns (nb_VS S) ≤ 6 := hen
  refine nb_reads hO hM (fun s1 m1 c1 r1 => ?_)
  have h2 : nw_gS s1 37 2 = nI (nb_ns (nb_VS S)) := r1.1.1
  rw [h2, nb_belowS (by omega)]
  unfold nb_aOften at hk
  refine ⟨fun z => ?_, fun z => ⟨fun z2 => ?_, fun z2 => ?_⟩⟩
  · have := hk s1 m1 (nb_rCh c1); rw [if_pos z] at this; exact this
  · have := hk s1 m1 (nb_rCh c1); rw [if_neg z, if_pos z2] at this; exact this
  · rw [if_neg z, if_neg z2] at hk
    obtain ⟨x, hx, rfl⟩ := nb_belowE (by omega) z
    rw [nI_clamp (show x < 2 ^ 31 by omega)] at hk
    exact nb_oftenOf hO m1 hx (fun s hs hc _ => hk s hs ((nb_rCh c1).tr hc))
theorem nb_step27 : nl_S27 nb_Inv := by
  intro σ ⟨S, hO, hC, hM⟩ a b
  refine nb_often4 hO hC (fun s1 h1 c1 => ?_)
  show f5_often _ s1 a b
  exact nb_often5 hO (hM.other c1) (fun s2 h2 c2 => ⟨rfl, S, hO, h1.other c2, h2⟩)
