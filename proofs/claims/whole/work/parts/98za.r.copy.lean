/-! the reference's copies -/
theorem r_cp_row_kept (N : Nat) (hN : 2000 < N) (ρ : ST) {a b : Nat} (ha : a + 1974 ≤ 1974) (hb : b + 1974 ≤ 3948) : ∃ ρ', mR_copy_row_kept N ρ (nI a) (nI b) = some ρ' ∧ (∀ c, c ≠ 3 → ρ' c = ρ c) ∧ (∀ j, j < 1974 → ρ' 3 (b + j) = ρ 1 (a + j)) ∧ ∀ i, (i < b ∨ b + 1974 ≤ i) → ρ' 3 i = ρ 3 i := by
  have key : ∀ m i : Nat, ∀ ρ1 : ST, (∀ c, c ≠ 3 → ρ1 c = ρ c) → (∀ j, j < i → ρ1 3 (b + j) = ρ 1 (a + j)) → (∀ q, (q < b ∨ b + 1974 ≤ q) → ρ1 3 q = ρ 3 q) → i ≤ 1974 → 1974 - i < m → ∃ ρ', zIt (mR_copy_row_kept_B3 N) (fun _ _ _ _ => none) m ρ1 (nI a) (nI b) (nI i) = some ρ' ∧ (∀ c, c ≠ 3 → ρ' c = ρ c) ∧ (∀ j, j < 1974 → ρ' 3 (b + j) = ρ 1 (a + j)) ∧ ∀ i, (i < b ∨ b + 1974 ≤ i) → ρ' 3 i = ρ 3 i := by
    intro m
    induction m with
    | zero => intro i ρ1 _ _ _ _ _; omega
    | succ m ih =>
      intro i ρ1 k1 k2 k3 hi hm
      rw [zIt_s, mR_copy_row_kept_B3]
      by_cases ei : i = 1974
      · subst ei
        rw [if_pos (show (1974 : Int32) ≤ nI 1974 by decide)]
        exact ⟨_, rfl, k1, k2, k3⟩
      · rw [if_neg (show ¬ (1974 : Int32) ≤ nI i from nI_ge (a := i) (b := 1974) (by omega) (by omega)), zLet_eq, zLet_eq, nI_add, nI_add, zGet_nI (by omega) (by omega), zSet_nI (by omega) (by omega), zLet_eq, nI_1]
        refine ih (i + 1) _ (fun c hc => by rw [q_uc hc]; exact k1 c hc) (fun j hj => ?_) (fun q hq => by rw [q_un (by omega)]; exact k3 q hq) (by omega) (by omega)
        by_cases g : j = i
        · subst g
          rw [q_ue rfl rfl, k1 1 (by omega)]
        · rw [q_un (by omega)]
          exact k2 j (by omega)
  exact key N 0 ρ (fun _ _ => rfl) (fun j hj => by omega) (fun _ _ => rfl) (by omega) (by omega)
theorem r_cp_kept_row (N : Nat) (hN : 2000 < N) (ρ : ST) {a b : Nat} (ha : a + 1974 ≤ 3948) (hb : b + 1974 ≤ 1974) : ∃ ρ', mR_copy_kept_row N ρ (nI a) (nI b) = some ρ' ∧ (∀ c, c ≠ 1 → ρ' c = ρ c) ∧ (∀ j, j < 1974 → ρ' 1 (b + j) = ρ 3 (a + j)) ∧ ∀ i, (i < b ∨ b + 1974 ≤ i) → ρ' 1 i = ρ 1 i := by
  have key : ∀ m i : Nat, ∀ ρ1 : ST, (∀ c, c ≠ 1 → ρ1 c = ρ c) → (∀ j, j < i → ρ1 1 (b + j) = ρ 3 (a + j)) → (∀ q, (q < b ∨ b + 1974 ≤ q) → ρ1 1 q = ρ 1 q) → i ≤ 1974 → 1974 - i < m → ∃ ρ', zIt (mR_copy_kept_row_B3 N) (fun _ _ _ _ => none) m ρ1 (nI a) (nI b) (nI i) = some ρ' ∧ (∀ c, c ≠ 1 → ρ' c = ρ c) ∧ (∀ j, j < 1974 → ρ' 1 (b + j) = ρ 3 (a + j)) ∧ ∀ i, (i < b ∨ b + 1974 ≤ i) → ρ' 1 i = ρ 1 i := by
    intro m
    induction m with
    | zero => intro i ρ1 _ _ _ _ _; omega
    | succ m ih =>
      intro i ρ1 k1 k2 k3 hi hm
      rw [zIt_s, mR_copy_kept_row_B3]
      by_cases ei : i = 1974
      · subst ei
        rw [if_pos (show (1974 : Int32) ≤ nI 1974 by decide)]
        exact ⟨_, rfl, k1, k2, k3⟩
      · rw [if_neg (show ¬ (1974 : Int32) ≤ nI i from nI_ge (a := i) (b := 1974) (by omega) (by omega)), zLet_eq, zLet_eq, nI_add, nI_add, zGet_nI (by omega) (by omega), zSet_nI (by omega) (by omega), zLet_eq, nI_1]
        refine ih (i + 1) _ (fun c hc => by rw [q_uc hc]; exact k1 c hc) (fun j hj => ?_) (fun q hq => by rw [q_un (by omega)]; exact k3 q hq) (by omega) (by omega)
        by_cases g : j = i
        · subst g
          rw [q_ue rfl rfl, k1 3 (by omega)]
        · rw [q_un (by omega)]
          exact k2 j (by omega)
  exact key N 0 ρ (fun _ _ => rfl) (fun j hj => by omega) (fun _ _ => rfl) (by omega) (by omega)
theorem r_cp_aside_row (N : Nat) (hN : 2000 < N) (ρ : ST) {a b : Nat} (ha : a + 1974 ≤ 1974) (hb : b + 1974 ≤ 1974) : ∃ ρ', mR_copy_aside_row N ρ (nI a) (nI b) = some ρ' ∧ (∀ c, c ≠ 1 → ρ' c = ρ c) ∧ (∀ j, j < 1974 → ρ' 1 (b + j) = ρ 2 (a + j)) ∧ ∀ i, (i < b ∨ b + 1974 ≤ i) → ρ' 1 i = ρ 1 i := by
  have key : ∀ m i : Nat, ∀ ρ1 : ST, (∀ c, c ≠ 1 → ρ1 c = ρ c) → (∀ j, j < i → ρ1 1 (b + j) = ρ 2 (a + j)) → (∀ q, (q < b ∨ b + 1974 ≤ q) → ρ1 1 q = ρ 1 q) → i ≤ 1974 → 1974 - i < m → ∃ ρ', zIt (mR_copy_aside_row_B3 N) (fun _ _ _ _ => none) m ρ1 (nI a) (nI b) (nI i) = some ρ' ∧ (∀ c, c ≠ 1 → ρ' c = ρ c) ∧ (∀ j, j < 1974 → ρ' 1 (b + j) = ρ 2 (a + j)) ∧ ∀ i, (i < b ∨ b + 1974 ≤ i) → ρ' 1 i = ρ 1 i := by
    intro m
    induction m with
    | zero => intro i ρ1 _ _ _ _ _; omega
    | succ m ih =>
      intro i ρ1 k1 k2 k3 hi hm
      rw [zIt_s, mR_copy_aside_row_B3]
      by_cases ei : i = 1974
      · subst ei
        rw [if_pos (show (1974 : Int32) ≤ nI 1974 by decide)]
        exact ⟨_, rfl, k1, k2, k3⟩
      · rw [if_neg (show ¬ (1974 : Int32) ≤ nI i from nI_ge (a := i) (b := 1974) (by omega) (by omega)), zLet_eq, zLet_eq, nI_add, nI_add, zGet_nI (by omega) (by omega), zSet_nI (by omega) (by omega), zLet_eq, nI_1]
        refine ih (i + 1) _ (fun c hc => by rw [q_uc hc]; exact k1 c hc) (fun j hj => ?_) (fun q hq => by rw [q_un (by omega)]; exact k3 q hq) (by omega) (by omega)
        by_cases g : j = i
        · subst g
          rw [q_ue rfl rfl, k1 2 (by omega)]
        · rw [q_un (by omega)]
          exact k2 j (by omega)
  exact key N 0 ρ (fun _ _ => rfl) (fun j hj => by omega) (fun _ _ => rfl) (by omega) (by omega)
theorem r_cp_row_aside (N : Nat) (hN : 2000 < N) (ρ : ST) {a b : Nat} (ha : a + 1974 ≤ 1974) (hb : b + 1974 ≤ 1974) : ∃ ρ', mR_copy_row_aside N ρ (nI a) (nI b) = some ρ' ∧ (∀ c, c ≠ 2 → ρ' c = ρ c) ∧ (∀ j, j < 1974 → ρ' 2 (b + j) = ρ 1 (a + j)) ∧ ∀ i, (i < b ∨ b + 1974 ≤ i) → ρ' 2 i = ρ 2 i := by
  have key : ∀ m i : Nat, ∀ ρ1 : ST, (∀ c, c ≠ 2 → ρ1 c = ρ c) → (∀ j, j < i → ρ1 2 (b + j) = ρ 1 (a + j)) → (∀ q, (q < b ∨ b + 1974 ≤ q) → ρ1 2 q = ρ 2 q) → i ≤ 1974 → 1974 - i < m → ∃ ρ', zIt (mR_copy_row_aside_B3 N) (fun _ _ _ _ => none) m ρ1 (nI a) (nI b) (nI i) = some ρ' ∧ (∀ c, c ≠ 2 → ρ' c = ρ c) ∧ (∀ j, j < 1974 → ρ' 2 (b + j) = ρ 1 (a + j)) ∧ ∀ i, (i < b ∨ b + 1974 ≤ i) → ρ' 2 i = ρ 2 i := by
    intro m
    induction m with
    | zero => intro i ρ1 _ _ _ _ _; omega
    | succ m ih =>
      intro i ρ1 k1 k2 k3 hi hm
      rw [zIt_s, mR_copy_row_aside_B3]
      by_cases ei : i = 1974
      · subst ei
        rw [if_pos (show (1974 : Int32) ≤ nI 1974 by decide)]
        exact ⟨_, rfl, k1, k2, k3⟩
      · rw [if_neg (show ¬ (1974 : Int32) ≤ nI i from nI_ge (a := i) (b := 1974) (by omega) (by omega)), zLet_eq, zLet_eq, nI_add, nI_add, zGet_nI (by omega) (by omega), zSet_nI (by omega) (by omega), zLet_eq, nI_1]
        refine ih (i + 1) _ (fun c hc => by rw [q_uc hc]; exact k1 c hc) (fun j hj => ?_) (fun q hq => by rw [q_un (by omega)]; exact k3 q hq) (by omega) (by omega)
        by_cases g : j = i
        · subst g
          rw [q_ue rfl rfl, k1 1 (by omega)]
        · rw [q_un (by omega)]
          exact k2 j (by omega)
  exact key N 0 ρ (fun _ _ => rfl) (fun j hj => by omega) (fun _ _ => rfl) (by omega) (by omega)
