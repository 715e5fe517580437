/-! THE REFERENCE'S FIRST STATE -/
theorem pR_begin_loop (N : Nat) : ∀ (n j : Nat) (ρ : ST), j ≤ 1974 → 1974 - j < n → zIt (mR_begin_B3 N) (fun _ _ => none) n ρ (nI j) = some (fun c => if c = 1 then (fun k => if j ≤ k ∧ k < 1974 then 0 else ρ 1 k) else ρ c) := by
  intro n
  induction n with
  | zero => intro j ρ h1 h2; omega
  | succ n ih =>
    intro j ρ hj hn
    rw [zIt_s, mR_begin_B3]
    by_cases h : j = 1974
    · subst h
      rw [if_pos (by decide)]
      congr 1
      funext c
      by_cases hc : c = 1
      · subst hc
        rw [if_pos rfl]
        funext k
        rw [if_neg (by omega)]
      · rw [if_neg hc]
    · have hlt : j < 1974 := by omega
      rw [if_neg (show ¬ ((1974 : Int32) ≤ nI j) from nI_ge (a := j) (b := 1974) hlt (by decide))]
      rw [zSet_nI hlt (by decide), zLet_eq, nI_1, ih (j + 1) (zUp ρ 1 j 0) (by omega) (by omega)]
      congr 1
      funext c
      by_cases hc : c = 1
      · subst hc
        rw [if_pos rfl, if_pos rfl]
        funext k
        by_cases hk : j + 1 ≤ k ∧ k < 1974
        · rw [if_pos hk, if_pos ⟨by omega, hk.2⟩]
        · rw [if_neg hk]
          by_cases hkj : k = j
          · subst hkj
            rw [zUp_s, if_pos ⟨Nat.le_refl _, hlt⟩]
          · rw [zUp_n ρ 0 hkj, if_neg (by omega)]
      · rw [if_neg hc, if_neg hc, zUp_c ρ 0 hc]
/-- begin(): all but the terms is 0 -/
theorem pR_begin (N : Nat) (hN : 1974 < N) (ρ : ST) : mR_begin N ρ = some (fun c => if c = 1 then (fun k => if 10 ≤ k ∧ k < 1974 then 0 else ρ 1 k) else ρ c) := by
  show zIt (mR_begin_B3 N) (fun _ _ => none) N ρ (nI 10) = _
  exact pR_begin_loop N N 10 ρ (by omega) (by omega)
theorem fst_long (j : Nat) (h : j < 10000) : ((7919 : Int64) * (nI j).toInt64 + 13 - ((7919 : Int64) * (nI j).toInt64 + 13) / 1000003 * 1000003).toInt32 = fstF j := by
  have e : (7919 : Int64) * (nI j).toInt64 + 13 = lN (7919 * j + 13) := by
    rw [nI_l (by omega), show (7919 : Int64) = lN 7919 from rfl, show (13 : Int64) = lN 13 from rfl, lN_mul, lN_add]
  rw [e, show (1000003 : Int64) = lN 1000003 from rfl, pk_lRem (by omega) (by decide) (by decide), lN_i]
  rfl
/-- the constructor's loop, and begin() behind it -/
theorem pR_init_loop (N : Nat) (hN : 1974 < N) : ∀ (n j : Nat) (ρ : ST), j ≤ 10000 → 10000 - j < n → zIt (mR_initT_B296 N) (fun _ _ => none) n ρ (nI j) = some (fun c => if c = 1 then (fun k => if 10 ≤ k ∧ k < 1974 then 0 else ρ 1 k) else if c = 4 then (fun k => if j ≤ k ∧ k < 10000 then fstF k else ρ 4 k) else ρ c) := by
  intro n
  induction n with
  | zero => intro j ρ h1 h2; omega
  | succ n ih =>
    intro j ρ hj hn
    rw [zIt_s, mR_initT_B296]
    by_cases h : j = 10000
    · subst h
      rw [if_pos (by decide), zCallu_eq (pR_begin N hN ρ)]
      congr 1
      funext c
      by_cases hc : c = 1
      · subst hc
        rw [if_pos rfl, if_pos rfl]
      · rw [if_neg hc, if_neg hc]
        by_cases hc4 : c = 4
        · subst hc4
          rw [if_pos rfl]
          funext k
          rw [if_neg (by omega)]
        · rw [if_neg hc4]
    · have hlt : j < 10000 := by omega
      rw [if_neg (show ¬ ((10000 : Int32) ≤ nI j) from nI_ge (a := j) (b := 10000) hlt (by decide))]
      rw [zLet_eq, zLet_eq, zLet_eq, zLrem_ok (by decide), zLet_eq, zSet_nI hlt (by decide), zLet_eq, fst_long j hlt, nI_1, ih (j + 1) (zUp ρ 4 j (fstF j)) (by omega) (by omega)]
      congr 1
      funext c
      by_cases hc : c = 1
      · subst hc
        rw [if_pos rfl, if_pos rfl, zUp_c ρ (fstF j) (by decide)]
      · rw [if_neg hc, if_neg hc]
        by_cases hc4 : c = 4
        · subst hc4
          rw [if_pos rfl, if_pos rfl]
          funext k
          by_cases hk : j + 1 ≤ k ∧ k < 10000
          · rw [if_pos hk, if_pos ⟨by omega, hk.2⟩]
          · rw [if_neg hk]
            by_cases hkj : k = j
            · subst hkj
              rw [zUp_s, if_pos ⟨Nat.le_refl _, hlt⟩]
            · rw [zUp_n ρ (fstF j) hkj, if_neg (by omega)]
        · rw [if_neg hc4, if_neg hc4, zUp_c ρ (fstF j) hc4]
/-- (2) of NOTES.md: the reference's constructor comes to its end -/
theorem pR_initT (N : Nat) (hN : 10000 < N) : mR_initT N rho1 = some (fun c => if c = 1 then (fun k => if 10 ≤ k ∧ k < 1974 then 0 else rho1 1 k) else if c = 4 then (fun k => if 0 ≤ k ∧ k < 10000 then fstF k else rho1 4 k) else rho1 c) := by
  show zIt (mR_initT_B296 N) (fun _ _ => none) N rho1 (nI 0) = _
  exact pR_init_loop N (by omega) N 0 rho1 (by omega) (by omega)
