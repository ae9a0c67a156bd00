/-! ===== the class's texts: one byte ===== -/
theorem nb_rem6 (e p : Nat) (hp : p < 6) (h : 6 * e + p < 2 ^ 31) : nw_rem (nI (6 * e + p)) 6 = nI p := by
  have h1 := pk_rem (a := 6 * e + p) (d := 6) h (by decide) (by decide)
  show nI (6 * e + p) - nI (6 * e + p) / nI 6 * nI 6 = nI p
  rw [h1]; congr 1; omega
theorem nb_div6 (e p : Nat) (hp : p < 6) (h : 6 * e + p < 2 ^ 31) : nI (6 * e + p) / 6 = nI e := by
  have h1 := pk_div (a := 6 * e + p) (d := 6) h (by decide) (by decide)
  rw [show (6 : Int32) = nI 6 from rfl, h1]; congr 1; omega
/-- a byte as a figure -/
theorem nb_fig {b : Nat} (hb : b < 256) : (nI b - 48 < 0 ↔ b < 48) ∧ (nI b - 48 ≤ 9 ↔ b ≤ 57) := by
  have e : (nI b - 48).toInt = (b : Int) - 48 := by
    rw [show (48 : Int32) = nI 48 from rfl, pk_sub_toInt (by omega) (by decide)]; rfl
  constructor
  · rw [nb_lt_iff, e, show (0 : Int32).toInt = 0 from rfl]; omega
  · rw [nb_le_iff, e, show (9 : Int32).toInt = 9 from rfl]; omega
theorem nb_figv {b : Nat} (h : 48 ≤ b) : nI b - 48 = nI (b - 48) := pk_sub h
theorem nb_ten (a b : Nat) : (10 : Int32) * nI a + nI b = nI (10 * a + b) := by rw [show (10 : Int32) = nI 10 from rfl, pk_mul, nI_add]
theorem nb_three (e w : Nat) : (3 : Int32) * nI e + nI w = nI (3 * e + w) := by rw [show (3 : Int32) = nI 3 from rfl, pk_mul, nI_add]
theorem nb_go00 {K : Int32 → nw_ST → Prop} {σ : nw_ST} {e b old : Nat} (he : 6 * e + 0 < 35) (h1 : nw_gA σ 2 (6 * e + 0) = nI b) (hb : b < 256) (h2 : nw_gA σ 3 (3 * e + 0) = nI old) (ho : old < 10) (hno : ¬ (48 ≤ b ∧ b ≤ 57) → K 0 σ) (hyes : 48 ≤ b → b ≤ 57 → K (if 10 * old + (b - 48) < 1 then 0 else 1) (nw_sA σ 3 (3 * e + 0) (nI (10 * old + (b - 48))))) : f2_goesOn K σ 1 (nI (6 * e + 0)) := by
  unfold f2_goesOn f2_goesOn_47 f2_goesOn_110 f2_goesOn_139 f2_goesOn_26
  rw [nb_rem6 e 0 (by decide) (by omega), nb_div6 e 0 (by decide) (by omega)]
  rw [show nw_rf 1 0 = 2 from rfl, show nw_rf 1 1 = 63 from rfl, show nw_rf 1 2 = 64 from rfl, show nw_rf 1 3 = 3 from rfl, show nw_len 2 = 35 from rfl, show nw_len 63 = 5 from rfl, show nw_len 64 = 3 from rfl, show nw_len 3 = 18 from rfl, nI_clamp (show 6 * e + 0 < 2 ^ 31 by omega), h1, show nw_cst 63 (nI 0).toNatClampNeg = nI 0 from rfl, nb_three, nI_clamp (show 3 * e + 0 < 2 ^ 31 by omega), h2, (nb_fig hb).1, (nb_fig hb).2]
  refine ⟨fun z => absurd z (by decide), fun _ => ⟨vp_in_nI he (by decide), fun z => hno (by omega), fun z => ⟨fun z2 => ?_, fun z2 => hno (by omega)⟩⟩⟩
  rw [nb_figv (by omega), nb_ten]
  refine ⟨vp_in_nI (by decide) (by decide), vp_in_nI (by omega) (by decide), vp_in_nI (by omega) (by decide), ⟨fun z => absurd z (by decide), fun _ => vp_in_nI (n := 1) (by decide) (by decide)⟩, ?_⟩
  have hy := hyes (by omega) (by omega)
  rw [if_neg (by decide), if_neg (by decide)]
  refine ⟨⟨fun z => absurd z (by decide), fun _ => ⟨vp_in_nI (by omega) (by decide), vp_in_nI (by decide) (by decide)⟩⟩, ?_⟩
  rw [if_neg (by decide), nb_gAsA, if_pos rfl, if_pos rfl, show nw_cst 64 (nI 0).toNatClampNeg = nI 1 from rfl]
  by_cases hl : 10 * old + (b - 48) < 1
  · rw [if_pos hl] at hy
    rw [if_pos ((nI_ltI (by omega) (by decide)).mpr hl)]
    exact ⟨Or.inl rfl, hy⟩
  · rw [if_neg hl] at hy
    rw [if_neg (fun z => hl ((nI_ltI (by omega) (by decide)).mp z))]
    exact ⟨Or.inr rfl, hy⟩
theorem nb_go01 {K : Int32 → nw_ST → Prop} {σ : nw_ST} {e b old : Nat} (he : 6 * e + 1 < 35) (h1 : nw_gA σ 2 (6 * e + 1) = nI b) (hb : b < 256) (h2 : nw_gA σ 3 (3 * e + 1) = nI old) (ho : old < 10) (hno : ¬ (48 ≤ b ∧ b ≤ 57) → K 0 σ) (hyes : 48 ≤ b → b ≤ 57 → K 1 (nw_sA σ 3 (3 * e + 1) (nI (10 * old + (b - 48))))) : f2_goesOn K σ 1 (nI (6 * e + 1)) := by
  unfold f2_goesOn f2_goesOn_47 f2_goesOn_110 f2_goesOn_139 f2_goesOn_26
  rw [nb_rem6 e 1 (by decide) (by omega), nb_div6 e 1 (by decide) (by omega)]
  rw [show nw_rf 1 0 = 2 from rfl, show nw_rf 1 1 = 63 from rfl, show nw_rf 1 2 = 64 from rfl, show nw_rf 1 3 = 3 from rfl, show nw_len 2 = 35 from rfl, show nw_len 63 = 5 from rfl, show nw_len 64 = 3 from rfl, show nw_len 3 = 18 from rfl, nI_clamp (show 6 * e + 1 < 2 ^ 31 by omega), h1, show nw_cst 63 (nI 1).toNatClampNeg = nI 1 from rfl, nb_three, nI_clamp (show 3 * e + 1 < 2 ^ 31 by omega), h2, (nb_fig hb).1, (nb_fig hb).2]
  refine ⟨fun z => absurd z (by decide), fun _ => ⟨vp_in_nI he (by decide), fun z => hno (by omega), fun z => ⟨fun z2 => ?_, fun z2 => hno (by omega)⟩⟩⟩
  rw [nb_figv (by omega), nb_ten]
  refine ⟨vp_in_nI (by decide) (by decide), vp_in_nI (by omega) (by decide), vp_in_nI (by omega) (by decide), ⟨fun z => absurd z (by decide), fun _ => vp_in_nI (n := 2) (by decide) (by decide)⟩, ?_⟩
  have hy := hyes (by omega) (by omega)
  rw [if_neg (by decide), if_pos (by decide)]
  refine ⟨⟨fun _ => trivial, fun z => absurd rfl z⟩, ?_⟩
  rw [if_pos rfl]
  exact ⟨Or.inr rfl, hy⟩
theorem nb_go02 {K : Int32 → nw_ST → Prop} {σ : nw_ST} {e b old : Nat} (he : 6 * e + 2 < 35) (h1 : nw_gA σ 2 (6 * e + 2) = nI b) (hb : b < 256) (h2 : nw_gA σ 3 (3 * e + 1) = nI old) (ho : old < 10) (hno : ¬ (48 ≤ b ∧ b ≤ 57) → K 0 σ) (hyes : 48 ≤ b → b ≤ 57 → K (if 10 * old + (b - 48) < 2 then 0 else 1) (nw_sA σ 3 (3 * e + 1) (nI (10 * old + (b - 48))))) : f2_goesOn K σ 1 (nI (6 * e + 2)) := by
  unfold f2_goesOn f2_goesOn_47 f2_goesOn_110 f2_goesOn_139 f2_goesOn_26
  rw [nb_rem6 e 2 (by decide) (by omega), nb_div6 e 2 (by decide) (by omega)]
  rw [show nw_rf 1 0 = 2 from rfl, show nw_rf 1 1 = 63 from rfl, show nw_rf 1 2 = 64 from rfl, show nw_rf 1 3 = 3 from rfl, show nw_len 2 = 35 from rfl, show nw_len 63 = 5 from rfl, show nw_len 64 = 3 from rfl, show nw_len 3 = 18 from rfl, nI_clamp (show 6 * e + 2 < 2 ^ 31 by omega), h1, show nw_cst 63 (nI 2).toNatClampNeg = nI 1 from rfl, nb_three, nI_clamp (show 3 * e + 1 < 2 ^ 31 by omega), h2, (nb_fig hb).1, (nb_fig hb).2]
  refine ⟨fun z => absurd z (by decide), fun _ => ⟨vp_in_nI he (by decide), fun z => hno (by omega), fun z => ⟨fun z2 => ?_, fun z2 => hno (by omega)⟩⟩⟩
  rw [nb_figv (by omega), nb_ten]
  refine ⟨vp_in_nI (by decide) (by decide), vp_in_nI (by omega) (by decide), vp_in_nI (by omega) (by decide), ⟨fun z => absurd z (by decide), fun _ => vp_in_nI (n := 3) (by decide) (by decide)⟩, ?_⟩
  have hy := hyes (by omega) (by omega)
  rw [if_neg (by decide), if_neg (by decide)]
  refine ⟨⟨fun z => absurd z (by decide), fun _ => ⟨vp_in_nI (by omega) (by decide), vp_in_nI (by decide) (by decide)⟩⟩, ?_⟩
  rw [if_neg (by decide), nb_gAsA, if_pos rfl, if_pos rfl, show nw_cst 64 (nI 1).toNatClampNeg = nI 2 from rfl]
  by_cases hl : 10 * old + (b - 48) < 2
  · rw [if_pos hl] at hy
    rw [if_pos ((nI_ltI (by omega) (by decide)).mpr hl)]
    exact ⟨Or.inl rfl, hy⟩
  · rw [if_neg hl] at hy
    rw [if_neg (fun z => hl ((nI_ltI (by omega) (by decide)).mp z))]
    exact ⟨Or.inr rfl, hy⟩
theorem nb_go03 {K : Int32 → nw_ST → Prop} {σ : nw_ST} {e b old : Nat} (he : 6 * e + 3 < 35) (h1 : nw_gA σ 2 (6 * e + 3) = nI b) (hb : b < 256) (h2 : nw_gA σ 3 (3 * e + 2) = nI old) (ho : old < 10) (hno : ¬ (48 ≤ b ∧ b ≤ 57) → K 0 σ) (hyes : 48 ≤ b → b ≤ 57 → K 1 (nw_sA σ 3 (3 * e + 2) (nI (10 * old + (b - 48))))) : f2_goesOn K σ 1 (nI (6 * e + 3)) := by
  unfold f2_goesOn f2_goesOn_47 f2_goesOn_110 f2_goesOn_139 f2_goesOn_26
  rw [nb_rem6 e 3 (by decide) (by omega), nb_div6 e 3 (by decide) (by omega)]
  rw [show nw_rf 1 0 = 2 from rfl, show nw_rf 1 1 = 63 from rfl, show nw_rf 1 2 = 64 from rfl, show nw_rf 1 3 = 3 from rfl, show nw_len 2 = 35 from rfl, show nw_len 63 = 5 from rfl, show nw_len 64 = 3 from rfl, show nw_len 3 = 18 from rfl, nI_clamp (show 6 * e + 3 < 2 ^ 31 by omega), h1, show nw_cst 63 (nI 3).toNatClampNeg = nI 2 from rfl, nb_three, nI_clamp (show 3 * e + 2 < 2 ^ 31 by omega), h2, (nb_fig hb).1, (nb_fig hb).2]
  refine ⟨fun z => absurd z (by decide), fun _ => ⟨vp_in_nI he (by decide), fun z => hno (by omega), fun z => ⟨fun z2 => ?_, fun z2 => hno (by omega)⟩⟩⟩
  rw [nb_figv (by omega), nb_ten]
  refine ⟨vp_in_nI (by decide) (by decide), vp_in_nI (by omega) (by decide), vp_in_nI (by omega) (by decide), ⟨fun z => absurd z (by decide), fun _ => vp_in_nI (n := 4) (by decide) (by decide)⟩, ?_⟩
  have hy := hyes (by omega) (by omega)
  rw [if_neg (by decide), if_pos (by decide)]
  refine ⟨⟨fun _ => trivial, fun z => absurd rfl z⟩, ?_⟩
  rw [if_pos rfl]
  exact ⟨Or.inr rfl, hy⟩
theorem nb_go04 {K : Int32 → nw_ST → Prop} {σ : nw_ST} {e b old : Nat} (he : 6 * e + 4 < 35) (h1 : nw_gA σ 2 (6 * e + 4) = nI b) (hb : b < 256) (h2 : nw_gA σ 3 (3 * e + 2) = nI old) (ho : old < 10) (hno : ¬ (48 ≤ b ∧ b ≤ 57) → K 0 σ) (hyes : 48 ≤ b → b ≤ 57 → K (if 10 * old + (b - 48) < 0 then 0 else 1) (nw_sA σ 3 (3 * e + 2) (nI (10 * old + (b - 48))))) : f2_goesOn K σ 1 (nI (6 * e + 4)) := by
  unfold f2_goesOn f2_goesOn_47 f2_goesOn_110 f2_goesOn_139 f2_goesOn_26
  rw [nb_rem6 e 4 (by decide) (by omega), nb_div6 e 4 (by decide) (by omega)]
  rw [show nw_rf 1 0 = 2 from rfl, show nw_rf 1 1 = 63 from rfl, show nw_rf 1 2 = 64 from rfl, show nw_rf 1 3 = 3 from rfl, show nw_len 2 = 35 from rfl, show nw_len 63 = 5 from rfl, show nw_len 64 = 3 from rfl, show nw_len 3 = 18 from rfl, nI_clamp (show 6 * e + 4 < 2 ^ 31 by omega), h1, show nw_cst 63 (nI 4).toNatClampNeg = nI 2 from rfl, nb_three, nI_clamp (show 3 * e + 2 < 2 ^ 31 by omega), h2, (nb_fig hb).1, (nb_fig hb).2]
  refine ⟨fun z => absurd z (by decide), fun _ => ⟨vp_in_nI he (by decide), fun z => hno (by omega), fun z => ⟨fun z2 => ?_, fun z2 => hno (by omega)⟩⟩⟩
  rw [nb_figv (by omega), nb_ten]
  refine ⟨vp_in_nI (by decide) (by decide), vp_in_nI (by omega) (by decide), vp_in_nI (by omega) (by decide), ⟨fun _ => trivial, fun z => absurd rfl z⟩, ?_⟩
  have hy := hyes (by omega) (by omega)
  rw [if_pos (by rfl)]
  refine ⟨⟨fun z => absurd z (by decide), fun _ => ⟨vp_in_nI (by omega) (by decide), vp_in_nI (by decide) (by decide)⟩⟩, ?_⟩
  rw [if_neg (by decide), nb_gAsA, if_pos rfl, if_pos rfl, show nw_cst 64 (nI 2).toNatClampNeg = nI 0 from rfl]
  by_cases hl : 10 * old + (b - 48) < 0
  · rw [if_pos hl] at hy
    rw [if_pos ((nI_ltI (by omega) (by decide)).mpr hl)]
    exact ⟨Or.inl rfl, hy⟩
  · rw [if_neg hl] at hy
    rw [if_neg (fun z => hl ((nI_ltI (by omega) (by decide)).mp z))]
    exact ⟨Or.inr rfl, hy⟩
theorem nb_go05 {K : Int32 → nw_ST → Prop} {σ : nw_ST} {e b : Nat} (he : 6 * e + 5 < 35) (h1 : nw_gA σ 2 (6 * e + 5) = nI b) (hb : b < 256) (hk : K (if b = 59 then 1 else 0) σ) : f2_goesOn K σ 1 (nI (6 * e + 5)) := by
  unfold f2_goesOn f2_goesOn_26
  rw [nb_rem6 e 5 (by decide) (by omega)]
  rw [show nw_rf 1 0 = 2 from rfl, show nw_len 2 = 35 from rfl, nI_clamp (show 6 * e + 5 < 2 ^ 31 by omega), h1]
  refine ⟨fun _ => ⟨vp_in_nI he (by decide), ?_⟩, fun z => absurd rfl z⟩
  by_cases hl : b = 59
  · rw [if_pos hl] at hk
    rw [if_pos (by rw [hl]; rfl)]
    exact ⟨Or.inr rfl, hk⟩
  · rw [if_neg hl] at hk
    rw [if_neg (show ¬ nI b = (59 : Int32) from fun z => hl ((nI_eq (by omega) (by decide : 59 < 2 ^ 31)).mp z))]
    exact ⟨Or.inl rfl, hk⟩
theorem nb_go10 {K : Int32 → nw_ST → Prop} {σ : nw_ST} {e b old : Nat} (he : 6 * e + 0 < 47) (h1 : nw_gA σ 5 (6 * e + 0) = nI b) (hb : b < 256) (h2 : nw_gA σ 6 (3 * e + 0) = nI old) (ho : old < 10) (hno : ¬ (48 ≤ b ∧ b ≤ 57) → K 0 σ) (hyes : 48 ≤ b → b ≤ 57 → K 1 (nw_sA σ 6 (3 * e + 0) (nI (10 * old + (b - 48))))) : f2_goesOn K σ 4 (nI (6 * e + 0)) := by
  unfold f2_goesOn f2_goesOn_47 f2_goesOn_110 f2_goesOn_139 f2_goesOn_26
  rw [nb_rem6 e 0 (by decide) (by omega), nb_div6 e 0 (by decide) (by omega)]
  rw [show nw_rf 4 0 = 5 from rfl, show nw_rf 4 1 = 65 from rfl, show nw_rf 4 2 = 66 from rfl, show nw_rf 4 3 = 6 from rfl, show nw_len 5 = 47 from rfl, show nw_len 65 = 5 from rfl, show nw_len 66 = 3 from rfl, show nw_len 6 = 24 from rfl, nI_clamp (show 6 * e + 0 < 2 ^ 31 by omega), h1, show nw_cst 65 (nI 0).toNatClampNeg = nI 0 from rfl, nb_three, nI_clamp (show 3 * e + 0 < 2 ^ 31 by omega), h2, (nb_fig hb).1, (nb_fig hb).2]
  refine ⟨fun z => absurd z (by decide), fun _ => ⟨vp_in_nI he (by decide), fun z => hno (by omega), fun z => ⟨fun z2 => ?_, fun z2 => hno (by omega)⟩⟩⟩
  rw [nb_figv (by omega), nb_ten]
  refine ⟨vp_in_nI (by decide) (by decide), vp_in_nI (by omega) (by decide), vp_in_nI (by omega) (by decide), ⟨fun z => absurd z (by decide), fun _ => vp_in_nI (n := 1) (by decide) (by decide)⟩, ?_⟩
  have hy := hyes (by omega) (by omega)
  rw [if_neg (by decide), if_pos (by decide)]
  refine ⟨⟨fun _ => trivial, fun z => absurd rfl z⟩, ?_⟩
  rw [if_pos rfl]
  exact ⟨Or.inr rfl, hy⟩
theorem nb_go11 {K : Int32 → nw_ST → Prop} {σ : nw_ST} {e b old : Nat} (he : 6 * e + 1 < 47) (h1 : nw_gA σ 5 (6 * e + 1) = nI b) (hb : b < 256) (h2 : nw_gA σ 6 (3 * e + 0) = nI old) (ho : old < 10) (hno : ¬ (48 ≤ b ∧ b ≤ 57) → K 0 σ) (hyes : 48 ≤ b → b ≤ 57 → K (if 10 * old + (b - 48) < 1 then 0 else 1) (nw_sA σ 6 (3 * e + 0) (nI (10 * old + (b - 48))))) : f2_goesOn K σ 4 (nI (6 * e + 1)) := by
  unfold f2_goesOn f2_goesOn_47 f2_goesOn_110 f2_goesOn_139 f2_goesOn_26
  rw [nb_rem6 e 1 (by decide) (by omega), nb_div6 e 1 (by decide) (by omega)]
  rw [show nw_rf 4 0 = 5 from rfl, show nw_rf 4 1 = 65 from rfl, show nw_rf 4 2 = 66 from rfl, show nw_rf 4 3 = 6 from rfl, show nw_len 5 = 47 from rfl, show nw_len 65 = 5 from rfl, show nw_len 66 = 3 from rfl, show nw_len 6 = 24 from rfl, nI_clamp (show 6 * e + 1 < 2 ^ 31 by omega), h1, show nw_cst 65 (nI 1).toNatClampNeg = nI 0 from rfl, nb_three, nI_clamp (show 3 * e + 0 < 2 ^ 31 by omega), h2, (nb_fig hb).1, (nb_fig hb).2]
  refine ⟨fun z => absurd z (by decide), fun _ => ⟨vp_in_nI he (by decide), fun z => hno (by omega), fun z => ⟨fun z2 => ?_, fun z2 => hno (by omega)⟩⟩⟩
  rw [nb_figv (by omega), nb_ten]
  refine ⟨vp_in_nI (by decide) (by decide), vp_in_nI (by omega) (by decide), vp_in_nI (by omega) (by decide), ⟨fun z => absurd z (by decide), fun _ => vp_in_nI (n := 2) (by decide) (by decide)⟩, ?_⟩
  have hy := hyes (by omega) (by omega)
  rw [if_neg (by decide), if_neg (by decide)]
  refine ⟨⟨fun z => absurd z (by decide), fun _ => ⟨vp_in_nI (by omega) (by decide), vp_in_nI (by decide) (by decide)⟩⟩, ?_⟩
  rw [if_neg (by decide), nb_gAsA, if_pos rfl, if_pos rfl, show nw_cst 66 (nI 0).toNatClampNeg = nI 1 from rfl]
  by_cases hl : 10 * old + (b - 48) < 1
  · rw [if_pos hl] at hy
    rw [if_pos ((nI_ltI (by omega) (by decide)).mpr hl)]
    exact ⟨Or.inl rfl, hy⟩
  · rw [if_neg hl] at hy
    rw [if_neg (fun z => hl ((nI_ltI (by omega) (by decide)).mp z))]
    exact ⟨Or.inr rfl, hy⟩
theorem nb_go12 {K : Int32 → nw_ST → Prop} {σ : nw_ST} {e b old : Nat} (he : 6 * e + 2 < 47) (h1 : nw_gA σ 5 (6 * e + 2) = nI b) (hb : b < 256) (h2 : nw_gA σ 6 (3 * e + 1) = nI old) (ho : old < 10) (hno : ¬ (48 ≤ b ∧ b ≤ 57) → K 0 σ) (hyes : 48 ≤ b → b ≤ 57 → K 1 (nw_sA σ 6 (3 * e + 1) (nI (10 * old + (b - 48))))) : f2_goesOn K σ 4 (nI (6 * e + 2)) := by
  unfold f2_goesOn f2_goesOn_47 f2_goesOn_110 f2_goesOn_139 f2_goesOn_26
  rw [nb_rem6 e 2 (by decide) (by omega), nb_div6 e 2 (by decide) (by omega)]
  rw [show nw_rf 4 0 = 5 from rfl, show nw_rf 4 1 = 65 from rfl, show nw_rf 4 2 = 66 from rfl, show nw_rf 4 3 = 6 from rfl, show nw_len 5 = 47 from rfl, show nw_len 65 = 5 from rfl, show nw_len 66 = 3 from rfl, show nw_len 6 = 24 from rfl, nI_clamp (show 6 * e + 2 < 2 ^ 31 by omega), h1, show nw_cst 65 (nI 2).toNatClampNeg = nI 1 from rfl, nb_three, nI_clamp (show 3 * e + 1 < 2 ^ 31 by omega), h2, (nb_fig hb).1, (nb_fig hb).2]
  refine ⟨fun z => absurd z (by decide), fun _ => ⟨vp_in_nI he (by decide), fun z => hno (by omega), fun z => ⟨fun z2 => ?_, fun z2 => hno (by omega)⟩⟩⟩
  rw [nb_figv (by omega), nb_ten]
  refine ⟨vp_in_nI (by decide) (by decide), vp_in_nI (by omega) (by decide), vp_in_nI (by omega) (by decide), ⟨fun z => absurd z (by decide), fun _ => vp_in_nI (n := 3) (by decide) (by decide)⟩, ?_⟩
  have hy := hyes (by omega) (by omega)
  rw [if_neg (by decide), if_pos (by decide)]
  refine ⟨⟨fun _ => trivial, fun z => absurd rfl z⟩, ?_⟩
  rw [if_pos rfl]
  exact ⟨Or.inr rfl, hy⟩
theorem nb_go13 {K : Int32 → nw_ST → Prop} {σ : nw_ST} {e b old : Nat} (he : 6 * e + 3 < 47) (h1 : nw_gA σ 5 (6 * e + 3) = nI b) (hb : b < 256) (h2 : nw_gA σ 6 (3 * e + 1) = nI old) (ho : old < 10) (hno : ¬ (48 ≤ b ∧ b ≤ 57) → K 0 σ) (hyes : 48 ≤ b → b ≤ 57 → K (if 10 * old + (b - 48) < 0 then 0 else 1) (nw_sA σ 6 (3 * e + 1) (nI (10 * old + (b - 48))))) : f2_goesOn K σ 4 (nI (6 * e + 3)) := by
  unfold f2_goesOn f2_goesOn_47 f2_goesOn_110 f2_goesOn_139 f2_goesOn_26
  rw [nb_rem6 e 3 (by decide) (by omega), nb_div6 e 3 (by decide) (by omega)]
  rw [show nw_rf 4 0 = 5 from rfl, show nw_rf 4 1 = 65 from rfl, show nw_rf 4 2 = 66 from rfl, show nw_rf 4 3 = 6 from rfl, show nw_len 5 = 47 from rfl, show nw_len 65 = 5 from rfl, show nw_len 66 = 3 from rfl, show nw_len 6 = 24 from rfl, nI_clamp (show 6 * e + 3 < 2 ^ 31 by omega), h1, show nw_cst 65 (nI 3).toNatClampNeg = nI 1 from rfl, nb_three, nI_clamp (show 3 * e + 1 < 2 ^ 31 by omega), h2, (nb_fig hb).1, (nb_fig hb).2]
  refine ⟨fun z => absurd z (by decide), fun _ => ⟨vp_in_nI he (by decide), fun z => hno (by omega), fun z => ⟨fun z2 => ?_, fun z2 => hno (by omega)⟩⟩⟩
  rw [nb_figv (by omega), nb_ten]
  refine ⟨vp_in_nI (by decide) (by decide), vp_in_nI (by omega) (by decide), vp_in_nI (by omega) (by decide), ⟨fun z => absurd z (by decide), fun _ => vp_in_nI (n := 4) (by decide) (by decide)⟩, ?_⟩
  have hy := hyes (by omega) (by omega)
  rw [if_neg (by decide), if_neg (by decide)]
  refine ⟨⟨fun z => absurd z (by decide), fun _ => ⟨vp_in_nI (by omega) (by decide), vp_in_nI (by decide) (by decide)⟩⟩, ?_⟩
  rw [if_neg (by decide), nb_gAsA, if_pos rfl, if_pos rfl, show nw_cst 66 (nI 1).toNatClampNeg = nI 0 from rfl]
  by_cases hl : 10 * old + (b - 48) < 0
  · rw [if_pos hl] at hy
    rw [if_pos ((nI_ltI (by omega) (by decide)).mpr hl)]
    exact ⟨Or.inl rfl, hy⟩
  · rw [if_neg hl] at hy
    rw [if_neg (fun z => hl ((nI_ltI (by omega) (by decide)).mp z))]
    exact ⟨Or.inr rfl, hy⟩
theorem nb_go14 {K : Int32 → nw_ST → Prop} {σ : nw_ST} {e b old : Nat} (he : 6 * e + 4 < 47) (h1 : nw_gA σ 5 (6 * e + 4) = nI b) (hb : b < 256) (h2 : nw_gA σ 6 (3 * e + 2) = nI old) (ho : old < 10) (hno : ¬ (48 ≤ b ∧ b ≤ 57) → K 0 σ) (hyes : 48 ≤ b → b ≤ 57 → K (if 10 * old + (b - 48) < 0 then 0 else 1) (nw_sA σ 6 (3 * e + 2) (nI (10 * old + (b - 48))))) : f2_goesOn K σ 4 (nI (6 * e + 4)) := by
  unfold f2_goesOn f2_goesOn_47 f2_goesOn_110 f2_goesOn_139 f2_goesOn_26
  rw [nb_rem6 e 4 (by decide) (by omega), nb_div6 e 4 (by decide) (by omega)]
  rw [show nw_rf 4 0 = 5 from rfl, show nw_rf 4 1 = 65 from rfl, show nw_rf 4 2 = 66 from rfl, show nw_rf 4 3 = 6 from rfl, show nw_len 5 = 47 from rfl, show nw_len 65 = 5 from rfl, show nw_len 66 = 3 from rfl, show nw_len 6 = 24 from rfl, nI_clamp (show 6 * e + 4 < 2 ^ 31 by omega), h1, show nw_cst 65 (nI 4).toNatClampNeg = nI 2 from rfl, nb_three, nI_clamp (show 3 * e + 2 < 2 ^ 31 by omega), h2, (nb_fig hb).1, (nb_fig hb).2]
  refine ⟨fun z => absurd z (by decide), fun _ => ⟨vp_in_nI he (by decide), fun z => hno (by omega), fun z => ⟨fun z2 => ?_, fun z2 => hno (by omega)⟩⟩⟩
  rw [nb_figv (by omega), nb_ten]
  refine ⟨vp_in_nI (by decide) (by decide), vp_in_nI (by omega) (by decide), vp_in_nI (by omega) (by decide), ⟨fun _ => trivial, fun z => absurd rfl z⟩, ?_⟩
  have hy := hyes (by omega) (by omega)
  rw [if_pos (by rfl)]
  refine ⟨⟨fun z => absurd z (by decide), fun _ => ⟨vp_in_nI (by omega) (by decide), vp_in_nI (by decide) (by decide)⟩⟩, ?_⟩
  rw [if_neg (by decide), nb_gAsA, if_pos rfl, if_pos rfl, show nw_cst 66 (nI 2).toNatClampNeg = nI 0 from rfl]
  by_cases hl : 10 * old + (b - 48) < 0
  · rw [if_pos hl] at hy
    rw [if_pos ((nI_ltI (by omega) (by decide)).mpr hl)]
    exact ⟨Or.inl rfl, hy⟩
  · rw [if_neg hl] at hy
    rw [if_neg (fun z => hl ((nI_ltI (by omega) (by decide)).mp z))]
    exact ⟨Or.inr rfl, hy⟩
theorem nb_go15 {K : Int32 → nw_ST → Prop} {σ : nw_ST} {e b : Nat} (he : 6 * e + 5 < 47) (h1 : nw_gA σ 5 (6 * e + 5) = nI b) (hb : b < 256) (hk : K (if b = 59 then 1 else 0) σ) : f2_goesOn K σ 4 (nI (6 * e + 5)) := by
  unfold f2_goesOn f2_goesOn_26
  rw [nb_rem6 e 5 (by decide) (by omega)]
  rw [show nw_rf 4 0 = 5 from rfl, show nw_len 5 = 47 from rfl, nI_clamp (show 6 * e + 5 < 2 ^ 31 by omega), h1]
  refine ⟨fun _ => ⟨vp_in_nI he (by decide), ?_⟩, fun z => absurd rfl z⟩
  by_cases hl : b = 59
  · rw [if_pos hl] at hk
    rw [if_pos (by rw [hl]; rfl)]
    exact ⟨Or.inr rfl, hk⟩
  · rw [if_neg hl] at hk
    rw [if_neg (show ¬ nI b = (59 : Int32) from fun z => hl ((nI_eq (by omega) (by decide : 59 < 2 ^ 31)).mp z))]
    exact ⟨Or.inl rfl, hk⟩
