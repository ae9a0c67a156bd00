/-! ===== fault, swell, find ===== -/
def nb_RD (S : nb_S) (s : nw_ST) : Prop := nb_RT0 s (S.2.1 0) (S.1 0) ∧ nb_RT1 s (S.2.1 1) (S.1 1)
def nb_rS : List (Nat × Nat) := [(37, 2), (37, 6)]
def nb_rA : List Nat := [40, 41, 42, 43, 44, 45]
theorem nb_rCh {σ s : nw_ST} (h : nb_Ch nb_rS nb_rA σ s) : nb_Ch nb_mS nb_mA σ s := h.up (by decide +kernel) (by decide +kernel)
theorem nb_RT0.ch {σ s : nw_ST} {f : Nat → Nat} {n : Nat} {LS : List (Nat × Nat)} {L : List Nat} (h : nb_RT0 σ f n) (hc : nb_Ch LS L σ s) (h1 : (37, 2) ∉ LS) (h2 : ∀ w, w < 3 → 40 + w ∉ L) : nb_RT0 s f n :=
  ⟨(hc.1 _ _ h1).trans h.1, fun i hi w hw => ((hc.2 _ (h2 w hw)).1 i).trans (h.2 i hi w hw)⟩
theorem nb_RT1.ch {σ s : nw_ST} {f : Nat → Nat} {n : Nat} {LS : List (Nat × Nat)} {L : List Nat} (h : nb_RT1 σ f n) (hc : nb_Ch LS L σ s) (h1 : (37, 6) ∉ LS) (h2 : ∀ w, w < 3 → 43 + w ∉ L) : nb_RT1 s f n :=
  ⟨(hc.1 _ _ h1).trans h.1, fun i hi w hw => ((hc.2 _ (h2 w hw)).1 i).trans (h.2 i hi w hw)⟩
theorem nb_faultOf {K : Int32 → nw_ST → Prop} {S : nb_S} {σ : nw_ST} {t : Nat} (ht : t < 2) (hO : nb_OK S) (hM : nb_MP S σ) (hk : ∀ s, nb_MP S s → nb_Ch nb_rS nb_rA σ s → nb_RD S s → K (nb_fl t (S.2.1 t) (S.1 t)) s) : f5_faultOf K σ (nI t) := by
  have hm := hM.1
  have t0 : nb_T5 σ 0 (S.2.1 0) (S.1 0) := ⟨by have := hO.1.1; omega, hm.1, fun i hi => by rw [Nat.mul_zero, Nat.zero_add]; exact hm.2.2.1 i hi, hO.1.2.2.1⟩
  have t1 : nb_T5 σ 1 (S.2.1 1) (S.1 1) := ⟨hO.1.2.1, hm.2.1, hm.2.2.2, hO.1.2.2.2⟩
  unfold f5_faultOf
  refine nb_text0 t0 hO.1.1 (fun s1 h1 r1 => ?_)
  show f5_readsText _ s1 (nI 1)
  refine nb_text1 (t1.ch h1 (by decide) (by decide)) hO.1.2.1 (fun s2 h2 r2 => ?_)
  unfold f5_faultOf_21
  have hc : nb_Ch nb_rS nb_rA σ s2 := (h1.up (by decide) (by decide)).tr (h2.up (by decide) (by decide))
  have hr : nb_RD S s2 := ⟨r1.ch h2 (by decide) (by intro w hw; rcases (show w = 0 ∨ w = 1 ∨ w = 2 by omega) with rfl | rfl | rfl <;> decide), r2⟩
  have := hk s2 (hM.ch hc (by decide +kernel) (by decide +kernel)) hc hr
  rcases (show t = 0 ∨ t = 1 by omega) with rfl | rfl
  · exact this
  · exact this
theorem nb_reads {K : nw_ST → Prop} {S : nb_S} {σ : nw_ST} (hO : nb_OK S) (hM : nb_MP S σ) (hk : ∀ s, nb_MP S s → nb_Ch nb_rS nb_rA σ s → nb_RD S s → K s) : f5_reads K σ :=
  nb_faultOf (K := fun _ s => K s) (t := 0) (by decide) hO hM hk
theorem nb_flT {S : nb_S} {σ : nw_ST} (h : nb_CP S σ) : nw_gS σ 1 5 = nb_fl 0 (S.2.1 0) (S.1 0) ∧ nw_gS σ 4 5 = nb_fl 1 (S.2.1 1) (S.1 1) := ⟨h.2.2.1.2.2.1, h.2.2.2.1.2.2.1⟩
theorem nb_fault5 {K : Int32 → nw_ST → Prop} {S : nb_S} {σ : nw_ST} (hO : nb_OK S) (hC : nb_CP S σ) {τ : nw_ST} (hM : nb_MP S τ) {a : Int32} (hk : ∀ s, nb_MP S s → nb_Ch nb_mS nb_mA τ s → K (v4_fault σ a) s) : f5_fault K τ a := by
  unfold f5_fault f5_fault_17
  unfold v4_fault at hk
  have hb : v4_isBelow a 2 = 0 ↔ v5_in a 0 1 = 0 := nb_below (a := a) 1 (by decide)
  rw [nb_isText]
  refine ⟨fun z => ?_, fun z => ?_⟩
  · have := hk τ hM nb_Ch.rf
    rw [if_pos (hb.mpr z)] at this
    exact this
  · rw [if_neg (fun y => z (hb.mp y))] at hk
    have hf := nb_flT hC
    rcases nb_01 z with rfl | rfl
    · exact nb_faultOf (t := 0) (by decide) hO hM (fun s hs hc _ => by
        have := hk s hs (nb_rCh hc)
        rw [show v4_textOf (nI 0) = 1 from rfl, hf.1] at this
        exact this)
    · exact nb_faultOf (t := 1) (by decide) hO hM (fun s hs hc _ => by
        have := hk s hs (nb_rCh hc)
        rw [show v4_textOf (nI 1) = 4 from rfl, hf.2] at this
        exact this)
theorem nb_step3 : nl_S3 nb_Inv := by
  intro σ ⟨S, hO, hC, hM⟩ a
  show f5_fault _ σ a
  exact nb_fault5 hO hC.1 hM (fun s hs hc => ⟨rfl, S, hO, hC.other hc, hs⟩)
theorem nb_en0 (S : nb_S) (hO : nb_OK S) : nb_en 0 (S.2.1 0) (S.1 0) ≤ 6 := by
  have := hO.1.1
  unfold nb_en; split <;> omega
theorem nb_en1 (S : nb_S) (hO : nb_OK S) : nb_en 1 (S.2.1 1) (S.1 1) ≤ 8 := by
  have := hO.1.2.1
  unfold nb_en; split <;> omega
theorem nb_belowS {a : Int32} {n : Nat} (hn : n < 2 ^ 31) : v5_in a 0 (nI n - 1) = v4_isBelow a (nI n) := by
  unfold v5_in v4_isBelow
  by_cases h0 : a < 0
  · rw [if_pos h0, if_pos h0]
  · rw [if_neg h0, if_neg h0]
    have e : nI n - 1 < a ↔ nI n ≤ a := by
      rcases Nat.eq_zero_or_pos n with rfl | hp
      · have h0 := Int32.not_lt.mp h0
        rw [nb_le_iff] at h0
        rw [nb_lt_iff, nb_le_iff, show (nI 0 - 1).toInt = -1 from rfl, show (nI 0).toInt = 0 from rfl]
        rw [show (0 : Int32).toInt = 0 from rfl] at h0
        omega
      · obtain ⟨m, rfl⟩ : ∃ m, n = m + 1 := ⟨n - 1, by omega⟩
        rw [nI_pred, nb_lt_iff, nb_le_iff, nI_toInt (by omega), nI_toInt hn]
        omega
    by_cases h1 : nI n ≤ a
    · rw [if_pos (e.mpr h1), if_pos h1]
    · rw [if_neg (fun z => h1 (e.mp z)), if_neg h1]
theorem nb_belowE {a : Int32} {n : Nat} (hn : n < 2 ^ 31) (h : ¬ v4_isBelow a (nI n) = 0) : ∃ j : Nat, j < n ∧ a = nI j := by
  rcases Nat.eq_zero_or_pos n with rfl | hp
  · exfalso; apply h; rw [nb_below_iff]; rintro ⟨x, y⟩; exact absurd y (Int32.not_lt.mpr x)
  · obtain ⟨m, rfl⟩ : ∃ m, n = m + 1 := ⟨n - 1, by omega⟩
    rw [nb_below m hn] at h
    obtain ⟨j, -, h2, h3⟩ := nb_in 0 m (by omega) (by decide) h
    exact ⟨j, by omega, h3⟩
theorem nb_partOf {S : nb_S} {σ : nw_ST} {q t : Nat} {f : Nat → Nat} {n : Nat} (hq : (q = 1 ∧ t = 0) ∨ (q = 4 ∧ t = 1)) (h : nb_Tx σ q t f n) (he : nb_en t f n ≤ 8) (he0 : q = 1 → nb_en t f n ≤ 6) (a b : Int32) : o4_partOf σ q a b ∧ (∀ i w, i < nb_en t f n → w < 3 → a = nI i → b = nI w → v4_partOf σ q a b = nI (nb_pt t f i w)) := by
  have h1 := h.2.2.2.1
  unfold o4_partOf v4_partOf o2_part v2_part
  rw [h1]
  have e3 : (3 : Int32) = nI 3 := rfl
  have hl : nw_rf q 3 = q + 2 := by rcases hq with ⟨rfl, -⟩ | ⟨rfl, -⟩ <;> rfl
  have hl2 : nw_len (q + 2) = if q = 1 then 18 else 24 := by rcases hq with ⟨rfl, -⟩ | ⟨rfl, -⟩ <;> rfl
  refine ⟨⟨fun _ => trivial, fun z => ⟨fun _ => trivial, fun z2 => ?_⟩⟩, ?_⟩
  · obtain ⟨i, hi, rfl⟩ := nb_belowE (by omega) z
    obtain ⟨w, hw, rfl⟩ := nb_belowE (n := 3) (by omega) z2
    rw [nb_three, hl, hl2]
    rcases hq with ⟨rfl, -⟩ | ⟨rfl, -⟩
    · have := he0 rfl; exact vp_in_nI (by rw [if_pos rfl]; omega) (by decide)
    · exact vp_in_nI (by rw [if_neg (by decide)]; omega) (by decide)
  · rintro i w hi hw rfl rfl
    rw [if_neg (by rw [nb_below_iff, Classical.not_not]; exact ⟨nI_pos' (by omega), nI_lt hi (by omega)⟩), if_neg (by rw [nb_below_iff, Classical.not_not]; exact ⟨nI_pos' (by omega), nI_lt (b := 3) hw (by decide)⟩), nb_three, hl, nI_clamp (by omega)]
    exact h.2.2.2.2 i hi w hw
theorem nb_swell5 {K : Int32 → nw_ST → Prop} {S : nb_S} {σ : nw_ST} (hO : nb_OK S) (hC : nb_CP S σ) {τ : nw_ST} (hM : nb_MP S τ) {a b : Int32} (hk : ∀ s, nb_MP S s → nb_Ch nb_mS nb_mA τ s → K (v4_swell σ a b) s) : f5_swell K τ a b := by
  unfold f5_swell f5_isSwell
  refine nb_reads hO hM (fun s hs hc hr => ?_)
  have hx := nb_partOf (S := S) (Or.inl ⟨rfl, rfl⟩) hC.2.2.1 (by have := nb_en0 S hO; omega) (fun _ => nb_en0 S hO) a b
  have h0 := nb_en0 S hO
  have hk := hk s hs (nb_rCh hc)
  unfold f5_swell_28
  rw [hr.1.1, nb_belowS (by omega)]
  dsimp only
  unfold v4_swell at hk
  have hb3 : v4_isBelow b 3 = 0 ↔ v5_in b 0 2 = 0 := nb_below (a := b) 2 (by decide)
  by_cases z : v4_isBelow a (nI (nb_en 0 (S.2.1 0) (S.1 0))) = 0
  · refine ⟨⟨fun _ => trivial, fun y => absurd z y⟩, ?_⟩
    rw [if_pos z]
    unfold v4_partOf at hk
    rw [hC.2.2.1.2.2.2.1, if_pos z] at hk
    exact hk
  · rw [if_neg z]
    by_cases z2 : v5_in b 0 2 = 0
    · refine ⟨⟨fun y => absurd y z, fun _ => ⟨fun _ => trivial, fun y => absurd z2 y⟩⟩, ?_⟩
      rw [if_pos z2]
      unfold v4_partOf at hk
      rw [hC.2.2.1.2.2.2.1, if_neg z, if_pos (hb3.mpr z2)] at hk
      exact hk
    · obtain ⟨i, hi, rfl⟩ := nb_belowE (by omega) z
      obtain ⟨w, -, hw, rfl⟩ := nb_in 0 2 (by decide) (by decide) z2
      have hv := hx.2 i w hi (by omega) rfl rfl
      rw [hv] at hk
      have hg := hr.1.2 i hi w (by omega)
      rw [if_neg z2]
      unfold o5_swellOf v5_swellOf
      rw [nI_clamp (show i < 2 ^ 31 by omega)]
      refine ⟨⟨fun y => absurd y z, fun _ => ⟨fun y => absurd y z2, fun _ => ⟨fun _ => vp_in_nI (by omega) (by decide), fun _ => ⟨fun _ => vp_in_nI (by omega) (by decide), fun _ => vp_in_nI (by omega) (by decide)⟩⟩⟩⟩, ?_⟩
      rw [← hg] at hk
      rcases (show w = 0 ∨ w = 1 ∨ w = 2 by omega) with rfl | rfl | rfl <;> exact hk
theorem nb_find5 {K : Int32 → nw_ST → Prop} {S : nb_S} {σ : nw_ST} (hO : nb_OK S) (hC : nb_CP S σ) {τ : nw_ST} (hM : nb_MP S τ) {a b : Int32} (hk : ∀ s, nb_MP S s → nb_Ch nb_mS nb_mA τ s → K (v4_find σ a b) s) : f5_find K τ a b := by
  unfold f5_find f5_isFind
  refine nb_reads hO hM (fun s hs hc hr => ?_)
  have hx := nb_partOf (S := S) (Or.inr ⟨rfl, rfl⟩) hC.2.2.2.1 (nb_en1 S hO) (fun h => absurd h (by decide)) a b
  have h0 := nb_en1 S hO
  have hk := hk s hs (nb_rCh hc)
  unfold f5_find_28
  rw [hr.2.1, nb_belowS (by omega)]
  dsimp only
  unfold v4_find at hk
  have hb3 : v4_isBelow b 3 = 0 ↔ v5_in b 0 2 = 0 := nb_below (a := b) 2 (by decide)
  by_cases z : v4_isBelow a (nI (nb_en 1 (S.2.1 1) (S.1 1))) = 0
  · refine ⟨⟨fun _ => trivial, fun y => absurd z y⟩, ?_⟩
    rw [if_pos z]
    unfold v4_partOf at hk
    rw [hC.2.2.2.1.2.2.2.1, if_pos z] at hk
    exact hk
  · rw [if_neg z]
    by_cases z2 : v5_in b 0 2 = 0
    · refine ⟨⟨fun y => absurd y z, fun _ => ⟨fun _ => trivial, fun y => absurd z2 y⟩⟩, ?_⟩
      rw [if_pos z2]
      unfold v4_partOf at hk
      rw [hC.2.2.2.1.2.2.2.1, if_neg z, if_pos (hb3.mpr z2)] at hk
      exact hk
    · obtain ⟨i, hi, rfl⟩ := nb_belowE (by omega) z
      obtain ⟨w, -, hw, rfl⟩ := nb_in 0 2 (by decide) (by decide) z2
      have hv := hx.2 i w hi (by omega) rfl rfl
      rw [hv] at hk
      have hg := hr.2.2 i hi w (by omega)
      rw [if_neg z2]
      unfold o5_findOf v5_findOf
      rw [nI_clamp (show i < 2 ^ 31 by omega)]
      refine ⟨⟨fun y => absurd y z, fun _ => ⟨fun y => absurd y z2, fun _ => ⟨fun _ => vp_in_nI (by omega) (by decide), fun _ => ⟨fun _ => vp_in_nI (by omega) (by decide), fun _ => vp_in_nI (by omega) (by decide)⟩⟩⟩⟩, ?_⟩
      rw [← hg] at hk
      rcases (show w = 0 ∨ w = 1 ∨ w = 2 by omega) with rfl | rfl | rfl <;> exact hk
theorem nb_swO {S : nb_S} {σ : nw_ST} (hO : nb_OK S) (hC : nb_CP S σ) (a b : Int32) : o4_swell σ a b := (nb_partOf (S := S) (Or.inl ⟨rfl, rfl⟩) hC.2.2.1 (by have := nb_en0 S hO; omega) (fun _ => nb_en0 S hO) a b).1
theorem nb_fiO {S : nb_S} {σ : nw_ST} (hO : nb_OK S) (hC : nb_CP S σ) (a b : Int32) : o4_find σ a b := (nb_partOf (S := S) (Or.inr ⟨rfl, rfl⟩) hC.2.2.2.1 (nb_en1 S hO) (fun h => absurd h (by decide)) a b).1
theorem nb_step4 : nl_S4 nb_Inv := by
  intro σ ⟨S, hO, hC, hM⟩ a b
  refine ⟨nb_swO hO hC.1 a b, ?_⟩
  show f5_swell _ σ a b
  exact nb_swell5 hO hC.1 hM (fun s hs hc => ⟨rfl, S, hO, hC.other hc, hs⟩)
theorem nb_step5 : nl_S5 nb_Inv := by
  intro σ ⟨S, hO, hC, hM⟩ a b
  refine ⟨nb_fiO hO hC.1 a b, ?_⟩
  show f5_find _ σ a b
  exact nb_find5 hO hC.1 hM (fun s hs hc => ⟨rfl, S, hO, hC.other hc, hs⟩)
