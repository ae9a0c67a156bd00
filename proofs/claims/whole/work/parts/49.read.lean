/-! ===== read: tickets from a sheet ===== -/
def nb_okT (a b : Int32) : Bool := decide (¬ v5_in a 0 7 = 0 ∧ ¬ v5_in b 1 400 = 0)
def nb_rc (S : nb_S) (j n : Nat) : Bool := decide (2 * n + 1 < S.1 (16 + j)) && (nb_okT (S.2.2 j (2 * n)) (S.2.2 j (2 * n + 1)) && decide (S.1 5 < 12))
def nb_rd (j : Nat) : Nat → nb_S → Nat → nb_S × Nat
  | 0, S, n => (S, n)
  | m + 1, S, n => if nb_rc S j n then nb_rd j m (nb_tkS S (S.2.2 j (2 * n)).toNatClampNeg (S.2.2 j (2 * n + 1)).toNatClampNeg) (n + 1) else (S, n)
theorem nb_okT_of {a b : Int32} (h : nb_okT a b = true) : ∃ x y : Nat, x < 8 ∧ (1 ≤ y ∧ y ≤ 400) ∧ a = nI x ∧ b = nI y ∧ a.toNatClampNeg = x ∧ b.toNatClampNeg = y := by
  have h := of_decide_eq_true h
  obtain ⟨x, -, hx, rfl⟩ := nb_in 0 7 (by decide) (by decide) h.1
  obtain ⟨y, hy1, hy2, rfl⟩ := nb_in 1 400 (by decide) (by decide) h.2
  exact ⟨x, y, by omega, ⟨hy1, hy2⟩, rfl, rfl, nI_clamp (by omega), nI_clamp (by omega)⟩
theorem nb_rdOK {j : Nat} : ∀ (m : Nat) (S : nb_S) (n : Nat), nb_OK S → nb_OK (nb_rd j m S n).1 := by
  intro m
  induction m with
  | zero => intro S n h; exact h
  | succ m ih =>
    intro S n h
    unfold nb_rd
    by_cases hc : nb_rc S j n = true
    · rw [if_pos hc]
      unfold nb_rc at hc
      simp only [Bool.and_eq_true, decide_eq_true_eq] at hc
      obtain ⟨x, y, hx, hy, -, -, e1, e2⟩ := nb_okT_of hc.2.1
      rw [e1, e2]
      exact ih _ _ (nb_tkOK h hc.2.2 hx hy)
    · rw [if_neg hc]; exact h
theorem nb_read4 {K : Int32 → nw_ST → Prop} {j : Nat} (hj : j < 4) : ∀ (m n : Nat) (S : nb_S) (σ : nw_ST), nb_OK S → nb_C S σ → n ≤ 24 → 24 ≤ n + m → (∀ s, nb_C (nb_rd j m S n).1 s → nb_Ch nb_cS nb_cA σ s → K (nI (nb_rd j m S n).2) s) → f4_read_25 K (m + 1) σ (27 + 2 * j) (nI n) (nI (2 * n)) := by
  intro m
  induction m with
  | zero =>
    intro n S σ hO hC hn hm hk
    have hs := hC.1.sh hj
    have hb := hO.2.2.2.2.2.2.2 j hj
    show b4_read_25 K _ σ (27 + 2 * j) (nI n) (nI (2 * n))
    unfold b4_read_25 f4_read_92
    rw [hs.2.2.1, nI_1]
    exact ⟨fun _ => hk σ hC nb_Ch.rf, fun w => absurd (nI_le (by omega) (by omega)) w⟩
  | succ m ih =>
    intro n S σ hO hC hn hm hk
    have hs := hC.1.sh hj
    have hb := hO.2.2.2.2.2.2.2 j hj
    have hq := nb_q28 hj
    show b4_read_25 K _ σ (27 + 2 * j) (nI n) (nI (2 * n))
    unfold b4_read_25 f4_read_92
    rw [hs.2.2.1, nI_1, hq.1, hq.2]
    have stop : nb_rc S j n = false → K (nI n) σ := by
      intro h
      have h2 := hk σ
      unfold nb_rd at h2
      rw [if_neg (by rw [h]; decide)] at h2
      exact h2 hC nb_Ch.rf
    refine ⟨fun w => ?_, fun w => ?_⟩
    · refine stop ?_
      have w := (nI_leI (by omega) (by omega)).mp w
      unfold nb_rc
      rw [decide_eq_false (by omega), Bool.false_and]
    · have w1 : 2 * n + 1 < S.1 (16 + j) := by
        rcases Nat.lt_or_ge (2 * n + 1) (S.1 (16 + j)) with h | h
        · exact h
        · exact absurd (nI_le h (by omega)) w
      rw [nI_clamp (show 2 * n < 2 ^ 31 by omega), nI_clamp (show 2 * n + 1 < 2 ^ 31 by omega), hs.2.2.2 (2 * n) (by omega), hs.2.2.2 (2 * n + 1) (by omega)]
      refine ⟨vp_in_nI (by omega) (by decide), vp_in_nI (by omega) (by decide), fun w2 => ?_, fun w2 => ?_⟩
      · refine stop ?_
        have w2 := (nb_may _ _).mp w2
        have : nb_okT (S.2.2 j (2 * n)) (S.2.2 j (2 * n + 1)) = false := decide_eq_false (fun h => by rcases w2 with z | z; exact h.1 z; exact h.2 z)
        unfold nb_rc; rw [this]; simp
      · have hT : nb_okT (S.2.2 j (2 * n)) (S.2.2 j (2 * n + 1)) = true := decide_eq_true ⟨fun z => w2 ((nb_may _ _).mpr (Or.inl z)), fun z => w2 ((nb_may _ _).mpr (Or.inr z))⟩
        obtain ⟨x, y, hx, hy, ex, ey, cx, cy⟩ := nb_okT_of hT
        rw [ex, ey]
        refine nb_tk4 hO hC.1 (fun hf => ⟨fun _ => stop ?_, fun z => absurd rfl z⟩) (fun hlt s hs2 hch => ⟨fun z => absurd z (by decide), fun _ => ?_⟩)
        · unfold nb_rc; rw [decide_eq_false (show ¬ S.1 5 < 12 by omega)]; simp
        · have hrc : nb_rc S j n = true := by unfold nb_rc; rw [decide_eq_true w1, hT, decide_eq_true hlt]; rfl
          have e2 : nI (2 * n) + 2 = nI (2 * (n + 1)) := by rw [show (2 : Int32) = nI 2 from rfl, nI_add, Nat.mul_add]
          rw [nI_1, e2]
          have hk2 := hk
          unfold nb_rd at hk2
          rw [if_pos hrc, cx, cy] at hk2
          exact ih (n + 1) _ s (nb_tkOK hO hlt hx hy) (hC.lift hch hs2 rfl (by decide) (by decide)) (by omega) (by omega) (fun t ht hct => hk2 t ht ((hch.c (by decide +kernel) (by decide +kernel)).tr hct))
theorem nb_read5 {K : Int32 → nw_ST → Prop} {j : Nat} (hj : j < 4) : ∀ (m n : Nat) (S : nb_S) (σ : nw_ST), nb_OK S → nb_MP S σ → n ≤ 24 → 24 ≤ n + m → (∀ s, nb_MP (nb_rd j m S n).1 s → nb_Ch nb_mS nb_mA σ s → K (nI (nb_rd j m S n).2) s) → f5_read_27 K (m + 1) σ (nI j) (nI n) := by
  intro m
  induction m with
  | zero =>
    intro n S σ hO hM hn hm hk
    have hs := hM.sh hj
    have hb := hO.2.2.2.2.2.2.2 j hj
    show b5_read_27 K _ σ (nI j) (nI n)
    unfold b5_read_27 f5_read_82
    have e : (2 : Int32) * nI n + 1 = nI (2 * n + 1) := by rw [show (2 : Int32) = nI 2 from rfl, pk_mul, nI_1]
    rw [nI_clamp (show j < 2 ^ 31 by omega), hs.2.2.1, e]
    exact ⟨nb_in4 hj, fun _ => hk σ hM nb_Ch.rf, fun w => absurd (nI_le (by omega) (by omega)) w⟩
  | succ m ih =>
    intro n S σ hO hM hn hm hk
    have hs := hM.sh hj
    have hb := hO.2.2.2.2.2.2.2 j hj
    show b5_read_27 K _ σ (nI j) (nI n)
    unfold b5_read_27 f5_read_82
    have e : (2 : Int32) * nI n = nI (2 * n) := by rw [show (2 : Int32) = nI 2 from rfl, pk_mul]
    have e48 : ((48 : Int32) * nI j) + nI (2 * n) = nI (48 * j + 2 * n) := by rw [show (48 : Int32) = nI 48 from rfl, pk_mul, nI_add]
    rw [nI_clamp (show j < 2 ^ 31 by omega), hs.2.2.1, e, e48, nI_1, nI_1, nI_clamp (show 48 * j + 2 * n < 2 ^ 31 by omega), nI_clamp (show 48 * j + 2 * n + 1 < 2 ^ 31 by omega)]
    have stop : ∀ s, nb_MP S s → nb_Ch nb_mS nb_mA σ s → nb_rc S j n = false → K (nI n) s := by
      intro s hMs hc h
      have h2 := hk s
      unfold nb_rd at h2
      rw [if_neg (by rw [h]; decide)] at h2
      exact h2 hMs hc
    refine ⟨nb_in4 hj, fun w => ?_, fun w => ?_⟩
    · refine stop σ hM nb_Ch.rf ?_
      have w := (nI_leI (by omega) (by omega)).mp w
      unfold nb_rc
      rw [decide_eq_false (by omega), Bool.false_and]
    · have w1 : 2 * n + 1 < S.1 (16 + j) := by
        rcases Nat.lt_or_ge (2 * n + 1) (S.1 (16 + j)) with h | h
        · exact h
        · exact absurd (nI_le h (by omega)) w
      rw [hs.2.2.2 (2 * n) (by omega), show 48 * j + 2 * n + 1 = 48 * j + (2 * n + 1) by omega, hs.2.2.2 (2 * n + 1) (by omega)]
      refine ⟨vp_in_nI (by omega) (by decide), vp_in_nI (by omega) (by decide), nb_tk5 hO hM (fun w2 => ⟨fun _ => ?_, fun z => absurd (by decide) z⟩) (fun x y hx hy ex ey hf => ⟨fun _ => ?_, fun z => absurd (by decide) z⟩) (fun x y hx hy ex ey hlt s hs2 hch => ⟨fun z => ?_, fun _ => ?_⟩)⟩
      · refine stop σ hM nb_Ch.rf ?_
        have : nb_okT (S.2.2 j (2 * n)) (S.2.2 j (2 * n + 1)) = false := decide_eq_false (fun h => by rcases w2 with z | z; exact h.1 z; exact h.2 z)
        unfold nb_rc; rw [this]; simp
      · refine stop σ hM nb_Ch.rf ?_
        unfold nb_rc; rw [decide_eq_false (show ¬ S.1 5 < 12 by omega)]; simp
      · exact absurd z (nI_nle (by omega) (by omega))
      · have hT : nb_okT (S.2.2 j (2 * n)) (S.2.2 j (2 * n + 1)) = true := by
          rw [ex, ey]; exact decide_eq_true ⟨nb_nin (lo := 0) (hi := 7) (by omega) (by omega) (by decide), nb_nin (lo := 1) (hi := 400) (by omega) (by omega) (by decide)⟩
        have hrc : nb_rc S j n = true := by unfold nb_rc; rw [decide_eq_true w1, hT, decide_eq_true hlt]; rfl
        rw [nI_1]
        have hk2 := hk
        unfold nb_rd at hk2
        rw [if_pos hrc, ex, ey, nI_clamp (show x < 2 ^ 31 by omega), nI_clamp (show y < 2 ^ 31 by omega)] at hk2
        exact ih (n + 1) _ s (nb_tkOK hO hlt hx hy) hs2 (by omega) (by omega) (fun t ht hct => hk2 t ht ((hch.up (by decide +kernel) (by decide +kernel)).tr hct))
theorem nb_step11 : nl_S11 nb_Inv := by
  intro σ hI a1
  obtain ⟨S, hO, hC, hM⟩ := hI
  have hInv : nb_Inv σ := ⟨S, hO, hC, hM⟩
  unfold f4_read
  refine nb_shR hO hC (fun z => ⟨fun w => absurd w (by decide), fun _ => ?_⟩) (fun j hj e hl => ⟨fun w => absurd w (by decide), fun _ => ?_⟩) (fun j hj e hl => ⟨fun _ => ?_, fun w => absurd rfl w⟩)
  · unfold f5_read; rw [nb_isSheet]; exact ⟨fun _ => ⟨rfl, hInv⟩, fun w => absurd z w⟩
  · subst e
    have hM2 := nb_fdCo hM 1
    have hs := hM2.sh hj
    unfold f5_read f5_meets; rw [nb_isSheet, nI_clamp (by omega), hs.1, hl]
    exact ⟨fun w => absurd w (nb_n03 hj), fun _ => ⟨nb_in4 hj, fun _ => ⟨rfl, nb_fdI hO hC hM 1 (by decide)⟩, fun w => absurd rfl w⟩⟩
  · subst e
    rw [nI_clamp (by omega)]
    refine ⟨nb_in4 hj, 25, ?_⟩
    refine nb_read4 hj 24 0 S σ hO hC (by decide) (by decide) (fun s hCs hch => ?_)
    have hMs := hM.other hch
    have hs := hMs.sh hj
    show f5_read _ s (nI j)
    unfold f5_read; rw [nb_isSheet, nI_clamp (by omega), hs.1, hl]
    refine ⟨fun w => absurd w (nb_n03 hj), fun _ => ⟨nb_in4 hj, fun w => absurd w (by decide), fun _ => ⟨25, ?_⟩⟩⟩
    exact nb_read5 hj 24 0 S s hO hMs (by decide) (by decide) (fun t hMt hct => ⟨rfl, _, nb_rdOK 24 S 0 hO, hCs.other hct, hMt⟩)
