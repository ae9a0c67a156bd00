/-! ===== components: one changes, the others stay ===== -/
def nb_SC (nL aL sL : List Nat) (S S' : nb_S) : Prop := (∀ k, k ∉ nL → S'.1 k = S.1 k) ∧ (∀ k, k ∉ aL → S'.2.1 k = S.2.1 k) ∧ ∀ k, k ∉ sL → S'.2.2 k = S.2.2 k
theorem nb_SC.rf {nL aL sL : List Nat} {S : nb_S} : nb_SC nL aL sL S S := ⟨fun _ _ => rfl, fun _ _ => rfl, fun _ _ => rfl⟩
def nb_setN (S : nb_S) (k v : Nat) : nb_S := (fun i => if i = k then v else S.1 i, S.2)
def nb_setA (S : nb_S) (k i v : Nat) : nb_S := (S.1, fun j => if j = k then (fun l => if l = i then v else S.2.1 k l) else S.2.1 j, S.2.2)
def nb_setI (S : nb_S) (k : Nat) (f : Nat → Int32) : nb_S := (S.1, S.2.1, fun j => if j = k then f else S.2.2 j)
theorem nb_SC.sN {nL aL sL : List Nat} {S S' : nb_S} (h : nb_SC nL aL sL S S') {k : Nat} (v : Nat) (hk : k ∈ nL) : nb_SC nL aL sL S (nb_setN S' k v) :=
  ⟨fun j hj => by show (if j = k then v else S'.1 j) = _; rw [if_neg (fun e => hj (by rw [e]; exact hk))]; exact h.1 j hj, h.2.1, h.2.2⟩
theorem nb_SC.sA {nL aL sL : List Nat} {S S' : nb_S} (h : nb_SC nL aL sL S S') {k : Nat} (i v : Nat) (hk : k ∈ aL) : nb_SC nL aL sL S (nb_setA S' k i v) :=
  ⟨h.1, fun j hj => by show (if j = k then _ else S'.2.1 j) = _; rw [if_neg (fun e => hj (by rw [e]; exact hk))]; exact h.2.1 j hj, h.2.2⟩
theorem nb_SC.sI {nL aL sL : List Nat} {S S' : nb_S} (h : nb_SC nL aL sL S S') {k : Nat} (f : Nat → Int32) (hk : k ∈ sL) : nb_SC nL aL sL S (nb_setI S' k f) :=
  ⟨h.1, h.2.1, fun j hj => by show (if j = k then _ else S'.2.2 j) = _; rw [if_neg (fun e => hj (by rw [e]; exact hk))]; exact h.2.2 j hj⟩
/-- the components of nb_CP -/
def nb_cc (i : Nat) (S : nb_S) (σ : nw_ST) : Prop := match i with
  | 0 => nw_gS σ 0 10 = nI (S.1 2)
  | 1 => nw_gS σ 0 11 = nI (S.1 7)
  | 2 => nb_Tx σ 1 0 (S.2.1 0) (S.1 0)
  | 3 => nb_Tx σ 4 1 (S.2.1 1) (S.1 1)
  | 4 => nb_Pr σ 7 (S.1 3) (S.2.1 2) (S.2.1 3)
  | 5 => nb_Pr σ 10 (S.1 4) (S.2.1 4) (fun _ => 0)
  | 6 => nb_Pr σ 13 (S.1 5) (S.2.1 5) (S.2.1 6)
  | 7 => nb_Pr σ 16 (S.1 6) (S.2.1 7) (S.2.1 8)
  | 8 => nb_Sh σ S 0
  | 9 => nb_Sh σ S 1
  | 10 => nb_Sh σ S 2
  | _ => nb_Sh σ S 3
theorem nb_CP_iff {S : nb_S} {σ : nw_ST} : nb_CP S σ ↔ ∀ i, i < 12 → nb_cc i S σ := by
  constructor
  · rintro ⟨a, b, c, d, e, f, g, i, s0, s1, s2, s3⟩ j hj
    match j, hj with
    | 0, _ => exact a
    | 1, _ => exact b
    | 2, _ => exact c
    | 3, _ => exact d
    | 4, _ => exact e
    | 5, _ => exact f
    | 6, _ => exact g
    | 7, _ => exact i
    | 8, _ => exact s0
    | 9, _ => exact s1
    | 10, _ => exact s2
    | 11, _ => exact s3
    | k + 12, h => exact absurd h (by omega)
  · intro h
    exact ⟨h 0 (by decide), h 1 (by decide), h 2 (by decide), h 3 (by decide), h 4 (by decide), h 5 (by decide), h 6 (by decide), h 7 (by decide), h 8 (by decide), h 9 (by decide), h 10 (by decide), h 11 (by decide)⟩
def nb_ccS : List (List (Nat × Nat)) := [[(0, 10)], [(0, 11)], [(1, 4), (1, 5), (1, 6)], [(4, 4), (4, 5), (4, 6)], [(7, 2)], [(10, 2)], [(13, 2)], [(16, 2)], [(27, 1), (27, 2), (27, 3)], [(29, 1), (29, 2), (29, 3)], [(31, 1), (31, 2), (31, 3)], [(33, 1), (33, 2), (33, 3)]]
def nb_ccA : List (List Nat) := [[], [], [2, 3], [5, 6], [8, 9], [11, 12], [14, 15], [17, 18], [28], [30], [32], [34]]
def nb_ccn : List (List Nat) := [[2], [7], [0], [1], [3], [4], [5], [6], [8, 12, 16], [9, 13, 17], [10, 14, 18], [11, 15, 19]]
def nb_cca : List (List Nat) := [[], [], [0], [1], [2, 3], [4], [5, 6], [7, 8], [], [], [], []]
def nb_ccs : List (List Nat) := [[], [], [], [], [], [], [], [], [0], [1], [2], [3]]
theorem nb_Sh.S {σ : nw_ST} {S S' : nb_S} {j : Nat} (h : nb_Sh σ S j) (h1 : S'.1 (8 + j) = S.1 (8 + j)) (h2 : S'.1 (12 + j) = S.1 (12 + j)) (h3 : S'.1 (16 + j) = S.1 (16 + j)) (h4 : S'.2.2 j = S.2.2 j) : nb_Sh σ S' j := by
  unfold nb_Sh; rw [h1, h2, h3, h4]; exact h
theorem nb_cc_keep {i : Nat} (hi : i < 12) {S S' : nb_S} {σ s : nw_ST} (h : nb_cc i S σ) (h1 : ∀ x ∈ nb_ccS.getD i [], nw_gS s x.1 x.2 = nw_gS σ x.1 x.2) (h2 : ∀ q ∈ nb_ccA.getD i [], ∀ j, nw_gA s q j = nw_gA σ q j)
    (e1 : ∀ k ∈ nb_ccn.getD i [], S'.1 k = S.1 k) (e2 : ∀ k ∈ nb_cca.getD i [], S'.2.1 k = S.2.1 k) (e3 : ∀ k ∈ nb_ccs.getD i [], S'.2.2 k = S.2.2 k) : nb_cc i S' s := by
  match i, hi with
  | 0, _ => show nw_gS s 0 10 = nI (S'.1 2); rw [e1 2 (by decide)]; exact (h1 (0, 10) (by decide)).trans h
  | 1, _ => show nw_gS s 0 11 = nI (S'.1 7); rw [e1 7 (by decide)]; exact (h1 (0, 11) (by decide)).trans h
  | 2, _ => show nb_Tx s 1 0 (S'.2.1 0) (S'.1 0); rw [e1 0 (by decide), e2 0 (by decide)]; exact nb_Tx.keep h (fun k a b => by rcases (show k = 4 ∨ k = 5 ∨ k = 6 by omega) with rfl | rfl | rfl <;> exact h1 (1, _) (by decide)) (h2 2 (by decide)) (h2 3 (by decide))
  | 3, _ => show nb_Tx s 4 1 (S'.2.1 1) (S'.1 1); rw [e1 1 (by decide), e2 1 (by decide)]; exact nb_Tx.keep h (fun k a b => by rcases (show k = 4 ∨ k = 5 ∨ k = 6 by omega) with rfl | rfl | rfl <;> exact h1 (4, _) (by decide)) (h2 5 (by decide)) (h2 6 (by decide))
  | 4, _ => show nb_Pr s 7 (S'.1 3) (S'.2.1 2) (S'.2.1 3); rw [e1 3 (by decide), e2 2 (by decide), e2 3 (by decide)]; exact nb_Pr.keep h (h1 (7, 2) (by decide)) (h2 8 (by decide)) (h2 9 (by decide))
  | 5, _ => show nb_Pr s 10 (S'.1 4) (S'.2.1 4) (fun _ => 0); rw [e1 4 (by decide), e2 4 (by decide)]; exact nb_Pr.keep h (h1 (10, 2) (by decide)) (h2 11 (by decide)) (h2 12 (by decide))
  | 6, _ => show nb_Pr s 13 (S'.1 5) (S'.2.1 5) (S'.2.1 6); rw [e1 5 (by decide), e2 5 (by decide), e2 6 (by decide)]; exact nb_Pr.keep h (h1 (13, 2) (by decide)) (h2 14 (by decide)) (h2 15 (by decide))
  | 7, _ => show nb_Pr s 16 (S'.1 6) (S'.2.1 7) (S'.2.1 8); rw [e1 6 (by decide), e2 7 (by decide), e2 8 (by decide)]; exact nb_Pr.keep h (h1 (16, 2) (by decide)) (h2 17 (by decide)) (h2 18 (by decide))
  | 8, _ => exact (nb_Sh.keep (j := 0) h (fun k a b => by rcases (show k = 1 ∨ k = 2 ∨ k = 3 by omega) with rfl | rfl | rfl <;> exact h1 (27, _) (by decide)) (h2 28 (by decide))).S (e1 8 (by decide)) (e1 12 (by decide)) (e1 16 (by decide)) (e3 0 (by decide))
  | 9, _ => exact (nb_Sh.keep (j := 1) h (fun k a b => by rcases (show k = 1 ∨ k = 2 ∨ k = 3 by omega) with rfl | rfl | rfl <;> exact h1 (29, _) (by decide)) (h2 30 (by decide))).S (e1 9 (by decide)) (e1 13 (by decide)) (e1 17 (by decide)) (e3 1 (by decide))
  | 10, _ => exact (nb_Sh.keep (j := 2) h (fun k a b => by rcases (show k = 1 ∨ k = 2 ∨ k = 3 by omega) with rfl | rfl | rfl <;> exact h1 (31, _) (by decide)) (h2 32 (by decide))).S (e1 10 (by decide)) (e1 14 (by decide)) (e1 18 (by decide)) (e3 2 (by decide))
  | 11, _ => exact (nb_Sh.keep (j := 3) h (fun k a b => by rcases (show k = 1 ∨ k = 2 ∨ k = 3 by omega) with rfl | rfl | rfl <;> exact h1 (33, _) (by decide)) (h2 34 (by decide))).S (e1 11 (by decide)) (e1 15 (by decide)) (e1 19 (by decide)) (e3 3 (by decide))
  | k + 12, h => exact absurd h (by omega)
/-- what must not meet, of component i, with what changed: by 'decide' -/
def nb_dis (i : Nat) (LS : List (Nat × Nat)) (L nL aL sL : List Nat) : Bool := (nb_ccS.getD i []).all (fun x => !LS.contains x) && (nb_ccA.getD i []).all (fun x => !L.contains x) && (nb_ccn.getD i []).all (fun x => !nL.contains x) && (nb_cca.getD i []).all (fun x => !aL.contains x) && (nb_ccs.getD i []).all (fun x => !sL.contains x)
theorem nb_nc {α : Type} [BEq α] [LawfulBEq α] {l m : List α} (h : l.all (fun x => !m.contains x) = true) : ∀ x ∈ l, x ∉ m := by
  intro x hx hm
  have h1 := List.all_eq_true.mp h x hx
  rw [List.contains_iff_mem.mpr hm] at h1
  cases h1
theorem nb_CP.upd (i0 : Nat) {LS : List (Nat × Nat)} {L nL aL sL : List Nat} {S S' : nb_S} {σ s : nw_ST} (h : nb_CP S σ) (hc : nb_Ch LS L σ s) (hS : nb_SC nL aL sL S S') (hd : (List.range 12).all (fun i => i == i0 || nb_dis i LS L nL aL sL) = true) (hnew : nb_cc i0 S' s) : nb_CP S' s := by
  rw [nb_CP_iff] at h ⊢
  intro i hi
  by_cases e : i = i0
  · rw [e]; exact hnew
  · have h1 := List.all_eq_true.mp hd i (List.mem_range.mpr hi)
    rw [Bool.or_eq_true] at h1
    rcases h1 with h1 | h1
    · exact absurd (by simpa using h1) e
    · unfold nb_dis at h1
      simp only [Bool.and_eq_true] at h1
      obtain ⟨⟨⟨⟨a, b⟩, c⟩, d⟩, f⟩ := h1
      exact nb_cc_keep hi (h i hi) (fun x hx => hc.1 _ _ (nb_nc a x hx)) (fun q hq => (hc.2 q (nb_nc b q hq)).1) (fun k hk => hS.1 k (nb_nc c k hk)) (fun k hk => hS.2.1 k (nb_nc d k hk)) (fun k hk => hS.2.2 k (nb_nc f k hk))
/-! the reference's components -/
def nb_mc (i : Nat) (S : nb_S) (σ : nw_ST) : Prop := match i with
  | 0 => nw_gA σ 38 0 = nI (S.1 0) ∧ nw_gA σ 38 1 = nI (S.1 1) ∧ (∀ i, i < S.1 0 → nw_gA σ 39 i = nI (S.2.1 0 i)) ∧ ∀ i, i < S.1 1 → nw_gA σ 39 (47 + i) = nI (S.2.1 1 i)
  | 1 => nw_gS σ 37 10 = nI (S.1 2)
  | 2 => nw_gS σ 37 11 = nI (S.1 3) ∧ ∀ i, i < S.1 3 → nw_gA σ 46 i = nI (S.2.1 2 i) ∧ nw_gA σ 47 i = nI (S.2.1 3 i)
  | 3 => nw_gS σ 37 14 = nI (S.1 4) ∧ ∀ i, i < S.1 4 → nw_gA σ 48 i = nI (S.2.1 4 i)
  | 4 => nw_gS σ 37 16 = nI (S.1 5) ∧ ∀ i, i < S.1 5 → nw_gA σ 49 i = nI (S.2.1 5 i) ∧ nw_gA σ 50 i = nI (S.2.1 6 i)
  | 5 => nw_gS σ 37 28 = nI (S.1 6) ∧ ∀ i, i < S.1 6 → nw_gA σ 55 i = nI (S.2.1 7 i) ∧ nw_gA σ 56 i = nI (S.2.1 8 i)
  | 6 => nw_gS σ 37 37 = nI (S.1 7)
  | _ => nb_MSh σ S 0 ∧ nb_MSh σ S 1 ∧ nb_MSh σ S 2 ∧ nb_MSh σ S 3
theorem nb_MP_iff {S : nb_S} {σ : nw_ST} : nb_MP S σ ↔ ∀ i, i < 8 → nb_mc i S σ := by
  constructor
  · rintro ⟨a, b, c, d, e, f, g, s⟩ j hj
    match j, hj with
    | 0, _ => exact a
    | 1, _ => exact b
    | 2, _ => exact c
    | 3, _ => exact d
    | 4, _ => exact e
    | 5, _ => exact f
    | 6, _ => exact g
    | 7, _ => exact s
    | k + 8, h => exact absurd h (by omega)
  · intro h
    exact ⟨h 0 (by decide), h 1 (by decide), h 2 (by decide), h 3 (by decide), h 4 (by decide), h 5 (by decide), h 6 (by decide), h 7 (by decide)⟩
def nb_mcS : List (List (Nat × Nat)) := [[], [(37, 10)], [(37, 11)], [(37, 14)], [(37, 16)], [(37, 28)], [(37, 37)], []]
def nb_mcA : List (List Nat) := [[38, 39], [], [46, 47], [48], [49, 50], [55, 56], [], [58, 59, 60, 61]]
def nb_mcn : List (List Nat) := [[0, 1], [2], [3], [4], [5], [6], [7], [8, 9, 10, 11, 12, 13, 14, 15, 16, 17, 18, 19]]
def nb_mca : List (List Nat) := [[0, 1], [], [2, 3], [4], [5, 6], [7, 8], [], []]
def nb_mcs : List (List Nat) := [[], [], [], [], [], [], [], [0, 1, 2, 3]]
theorem nb_MSh.S {σ : nw_ST} {S S' : nb_S} {j : Nat} (h : nb_MSh σ S j) (h1 : S'.1 (8 + j) = S.1 (8 + j)) (h2 : S'.1 (12 + j) = S.1 (12 + j)) (h3 : S'.1 (16 + j) = S.1 (16 + j)) (h4 : S'.2.2 j = S.2.2 j) : nb_MSh σ S' j := by
  unfold nb_MSh; rw [h1, h2, h3, h4]; exact h
theorem nb_mc_keep {i : Nat} (hi : i < 8) {S S' : nb_S} {σ s : nw_ST} (h : nb_mc i S σ) (h1 : ∀ x ∈ nb_mcS.getD i [], nw_gS s x.1 x.2 = nw_gS σ x.1 x.2) (h2 : ∀ q ∈ nb_mcA.getD i [], ∀ j, nw_gA s q j = nw_gA σ q j)
    (e1 : ∀ k ∈ nb_mcn.getD i [], S'.1 k = S.1 k) (e2 : ∀ k ∈ nb_mca.getD i [], S'.2.1 k = S.2.1 k) (e3 : ∀ k ∈ nb_mcs.getD i [], S'.2.2 k = S.2.2 k) : nb_mc i S' s := by
  match i, hi with
  | 0, _ =>
    obtain ⟨a, b, c, d⟩ := h
    show nw_gA s 38 0 = nI (S'.1 0) ∧ nw_gA s 38 1 = nI (S'.1 1) ∧ (∀ i, i < S'.1 0 → nw_gA s 39 i = nI (S'.2.1 0 i)) ∧ ∀ i, i < S'.1 1 → nw_gA s 39 (47 + i) = nI (S'.2.1 1 i)
    rw [e1 0 (by decide), e1 1 (by decide), e2 0 (by decide), e2 1 (by decide)]
    exact ⟨(h2 38 (by decide) 0).trans a, (h2 38 (by decide) 1).trans b, fun i hi => (h2 39 (by decide) i).trans (c i hi), fun i hi => (h2 39 (by decide) _).trans (d i hi)⟩
  | 1, _ => show nw_gS s 37 10 = nI (S'.1 2); rw [e1 2 (by decide)]; exact (h1 (37, 10) (by decide)).trans h
  | 2, _ =>
    obtain ⟨a, b⟩ := h
    show nw_gS s 37 11 = nI (S'.1 3) ∧ ∀ i, i < S'.1 3 → nw_gA s 46 i = nI (S'.2.1 2 i) ∧ nw_gA s 47 i = nI (S'.2.1 3 i)
    rw [e1 3 (by decide), e2 2 (by decide), e2 3 (by decide)]
    exact ⟨(h1 (37, 11) (by decide)).trans a, fun i hi => ⟨(h2 46 (by decide) i).trans (b i hi).1, (h2 47 (by decide) i).trans (b i hi).2⟩⟩
  | 3, _ =>
    obtain ⟨a, b⟩ := h
    show nw_gS s 37 14 = nI (S'.1 4) ∧ ∀ i, i < S'.1 4 → nw_gA s 48 i = nI (S'.2.1 4 i)
    rw [e1 4 (by decide), e2 4 (by decide)]
    exact ⟨(h1 (37, 14) (by decide)).trans a, fun i hi => (h2 48 (by decide) i).trans (b i hi)⟩
  | 4, _ =>
    obtain ⟨a, b⟩ := h
    show nw_gS s 37 16 = nI (S'.1 5) ∧ ∀ i, i < S'.1 5 → nw_gA s 49 i = nI (S'.2.1 5 i) ∧ nw_gA s 50 i = nI (S'.2.1 6 i)
    rw [e1 5 (by decide), e2 5 (by decide), e2 6 (by decide)]
    exact ⟨(h1 (37, 16) (by decide)).trans a, fun i hi => ⟨(h2 49 (by decide) i).trans (b i hi).1, (h2 50 (by decide) i).trans (b i hi).2⟩⟩
  | 5, _ =>
    obtain ⟨a, b⟩ := h
    show nw_gS s 37 28 = nI (S'.1 6) ∧ ∀ i, i < S'.1 6 → nw_gA s 55 i = nI (S'.2.1 7 i) ∧ nw_gA s 56 i = nI (S'.2.1 8 i)
    rw [e1 6 (by decide), e2 7 (by decide), e2 8 (by decide)]
    exact ⟨(h1 (37, 28) (by decide)).trans a, fun i hi => ⟨(h2 55 (by decide) i).trans (b i hi).1, (h2 56 (by decide) i).trans (b i hi).2⟩⟩
  | 6, _ => show nw_gS s 37 37 = nI (S'.1 7); rw [e1 7 (by decide)]; exact (h1 (37, 37) (by decide)).trans h
  | 7, _ =>
    obtain ⟨a, b, c, d⟩ := h
    have hz : ∀ q, 58 ≤ q → q ≤ 61 → ∀ i, nw_gA s q i = nw_gA σ q i := by
      intro q x y; rcases (show q = 58 ∨ q = 59 ∨ q = 60 ∨ q = 61 by omega) with rfl | rfl | rfl | rfl <;> exact h2 _ (by decide)
    exact ⟨(a.keep hz).S (e1 8 (by decide)) (e1 12 (by decide)) (e1 16 (by decide)) (e3 0 (by decide)), (b.keep hz).S (e1 9 (by decide)) (e1 13 (by decide)) (e1 17 (by decide)) (e3 1 (by decide)), (c.keep hz).S (e1 10 (by decide)) (e1 14 (by decide)) (e1 18 (by decide)) (e3 2 (by decide)), (d.keep hz).S (e1 11 (by decide)) (e1 15 (by decide)) (e1 19 (by decide)) (e3 3 (by decide))⟩
  | k + 8, h => exact absurd h (by omega)
def nb_dim (i : Nat) (LS : List (Nat × Nat)) (L nL aL sL : List Nat) : Bool := (nb_mcS.getD i []).all (fun x => !LS.contains x) && (nb_mcA.getD i []).all (fun x => !L.contains x) && (nb_mcn.getD i []).all (fun x => !nL.contains x) && (nb_mca.getD i []).all (fun x => !aL.contains x) && (nb_mcs.getD i []).all (fun x => !sL.contains x)
theorem nb_MP.upd (i0 : Nat) {LS : List (Nat × Nat)} {L nL aL sL : List Nat} {S S' : nb_S} {σ s : nw_ST} (h : nb_MP S σ) (hc : nb_Ch LS L σ s) (hS : nb_SC nL aL sL S S') (hd : (List.range 8).all (fun i => i == i0 || nb_dim i LS L nL aL sL) = true) (hnew : nb_mc i0 S' s) : nb_MP S' s := by
  rw [nb_MP_iff] at h ⊢
  intro i hi
  by_cases e : i = i0
  · rw [e]; exact hnew
  · have h1 := List.all_eq_true.mp hd i (List.mem_range.mpr hi)
    rw [Bool.or_eq_true] at h1
    rcases h1 with h1 | h1
    · exact absurd (by simpa using h1) e
    · unfold nb_dim at h1
      simp only [Bool.and_eq_true] at h1
      obtain ⟨⟨⟨⟨a, b⟩, c⟩, d⟩, f⟩ := h1
      exact nb_mc_keep hi (h i hi) (fun x hx => hc.1 _ _ (nb_nc a x hx)) (fun q hq => (hc.2 q (nb_nc b q hq)).1) (fun k hk => hS.1 k (nb_nc c k hk)) (fun k hk => hS.2.1 k (nb_nc d k hk)) (fun k hk => hS.2.2 k (nb_nc f k hk))
