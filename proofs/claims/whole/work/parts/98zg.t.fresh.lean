/-! sets: all but the terms as at first -/
theorem e_clear (N : Nat) (hN : 100 < N) {y C0 : ST} (h : RKc y C0) : ∃ y', mE_X0_clear N y = some y' ∧ (∀ b, b < 10000 → y' 10 b = 0) ∧ (∀ c, c ≠ 3 → c ≠ 10 → y' c = y c) ∧ y' 3 7 = 0 ∧ y' 3 8 = 0 ∧ y' 3 9 = 0 := by
  obtain ⟨-, -, n, hn, e7, h1, h2, h3⟩ := h
  have key : ∀ m i : Nat, ∀ y1 : ST, (∀ c, c ≠ 10 → y1 c = y c) → (∀ b, b < 10000 → (∀ s, i ≤ s → s < n → ¬ y 4 s = nI b) → y1 10 b = 0) → i ≤ n → n - i < m → ∃ y', zIt (mE_X0_clear_B2 N) (fun _ _ => none) m y1 (nI i) = some y' ∧ (∀ b, b < 10000 → y' 10 b = 0) ∧ (∀ c, c ≠ 3 → c ≠ 10 → y' c = y c) ∧ y' 3 7 = 0 ∧ y' 3 8 = 0 ∧ y' 3 9 = 0 := by
    intro m
    induction m with
    | zero => intro i y1 _ _ _ _; omega
    | succ m ih =>
      intro i y1 k1 k2 hi hm
      rw [zIt_s, mE_X0_clear_B2, zLet_eq, k1 3 (by omega), e7]
      by_cases ei : i = n
      · subst ei
        rw [if_pos (nI_le (by omega) (by omega)), zLet_eq, zLet_eq, zLet_eq]
        refine ⟨_, rfl, fun b hb => ?_, fun c c1 c2 => ?_, by rw [q_un (by omega), q_un (by omega), q_ue rfl rfl], by rw [q_un (by omega), q_ue rfl rfl], by rw [q_ue rfl rfl]⟩
        · rw [q_uc (by omega), q_uc (by omega), q_uc (by omega)]
          exact k2 b hb (fun s _ _ => by omega)
        · rw [q_uc c1, q_uc c1, q_uc c1]
          exact k1 c c2
      · obtain ⟨b, b1, b2, b3, b4, -⟩ := h1 i (by omega)
        rw [if_neg (nI_ge (by omega) (by omega)), zGet_nI (by omega) (by omega), k1 4 (by omega), b4, mE_X0_mark, if_neg (show ¬ nI b < 0 by rw [i_lt, nI_toInt (by omega), show (0 : Int32).toInt = 0 by decide]; omega), if_neg (show ¬ (10000 : Int32) ≤ nI b from nI_ge (a := b) (b := 10000) (by omega) (by omega)), zSet_nI b1 (by omega), mE_X0_mark_18, zCallu_some, zLet_eq, nI_1]
        refine ih (i + 1) _ (fun c hc => by rw [q_uc hc]; exact k1 c hc) (fun b' hb' hs => ?_) (by omega) (by omega)
        by_cases g : b' = b
        · rw [g, q_ue rfl rfl]
        · rw [q_un (by omega)]
          refine k2 b' hb' (fun s s1 s2 => ?_)
          by_cases g2 : s = i
          · rw [g2, b4]
            exact fun w => g (nI_inj (by omega) (by omega) w).symm
          · exact hs s (by omega) s2
  refine key N 0 y (fun _ _ => rfl) (fun b hb hs => ?_) (by omega) (by omega)
  refine h3 b hb (fun w => ?_)
  obtain ⟨s, s1, s2⟩ := h2 b hb w
  exact hs s (by omega) s1 s2
def Zs : ST := fun _ _ => 0
def FrC (σ : ST) : Prop := (∀ k, k < 34 → σ 2 k = 0) ∧ (∀ p, p < 6 → σ (12 + p) 0 = -1) ∧ σ 3 7 = 0 ∧ σ 3 8 = 0 ∧ σ 3 9 = 0 ∧ (∀ b, b < 10000 → σ 10 b = 0) ∧ σ 18 3 = 0 ∧ σ 18 4 = 0 ∧ σ 22 1 = 0 ∧ σ 22 2 = 0
theorem z01 : ¬ (0 : Int32) = 1 := by decide
theorem qin_Z : qin Zs = 0 := by
  unfold qin
  exact qcnt_zero (fun i _ => decide_eq_false z01)
theorem qah_Z : qah Zs = 0 := by
  unfold qah
  exact qcnt_zero (fun i _ => decide_eq_false (fun w => z01 w.1))
theorem Z_at (c k : Nat) : Zs c k = 0 := rfl
theorem fr_eng {σ : ST} (h : FrC σ) : EngC σ (qmix σ Zs) Zs Zs := by
  obtain ⟨h1, h2, h3, h4, h5, h6, h7, h8, h9, h10⟩ := h
  refine ⟨fun c hc => q_mA hc, ?_, ⟨?_, ?_, 0, by omega, h3, fun s hs => by omega, fun b hb hc => absurd hc z01, fun b hb _ => h6 b hb⟩, ?_⟩
  · refine ⟨0, 0, by omega, by omega, h9, h10, ?_, fun i w hi => by omega⟩
    rw [q_mK (by omega)]
    rfl
  · rw [h5]; rfl
  · rw [h4, qah_Z]; rfl
  · exact ⟨0, 0, by omega, by omega, h7, h8, rfl, fun i hi => by omega⟩
theorem fr_st {σ : ST} (h : FrC σ) (hT : ∀ k, k < 10 → (lowF k).toInt ≤ (σ 1 k).toInt ∧ (σ 1 k).toInt ≤ (highF k).toInt) (hK : ∀ b, b < 10000 → -1000003 ≤ (σ 26 b).toInt ∧ (σ 26 b).toInt ≤ 1000002) (t : Nat) : St t (qmix σ Zs) Zs Zs := by
  obtain ⟨h1, h2, h3, h4, h5, h6, h7, h8, h9, h10⟩ := h
  have e0 : (0 : Int32).toInt = 0 := by decide
  have e1 : qmix σ Zs 1 = σ 1 := q_mA (by omega)
  have e2 : qmix σ Zs 2 = σ 2 := q_mA (by omega)
  have es : ∀ p, p < 6 → qmix σ Zs (12 + p) = σ (12 + p) := fun p hp => q_mA (by omega)
  have e26 : qmix σ Zs 26 = σ 26 := q_mA (by omega)
  have hT' : GT (qmix σ Zs) := fun k hk => by rw [e1]; exact hT k hk
  have htb := GT_b hT'
  refine ⟨⟨⟨hT', fun k hk => ?_, fun p hp hn => ?_, fun p q hp hq hn => ?_, 0, by omega, ?_⟩, ⟨?_, fun b hb hc => absurd hc z01, fun b b' hb hb' hc => absurd hc z01, ?_⟩, fun b p hb hp hc => absurd hc z01⟩, ⟨0, by omega, rfl, fun i hi => by omega⟩, fun b hb => ?_, fun k hk => ?_, fun p hp hn => ?_, fun b p hb hp hc => absurd hc z01, fun b hb hc => absurd hc z01⟩
  · rw [e2, h1 k (by omega), e0]; omega
  · rw [es p hp] at hn
    exact absurd (h2 p hp) hn
  · rw [es p hp] at hn
    exact absurd (h2 p hp) hn
  · rw [q_mK (by omega)]; rfl
  · rw [Z_at, e0]; omega
  · rw [qin_Z]; omega
  · rw [e26]; exact hK b hb
  · rw [e2, h1 k hk, e0]; omega
  · rw [es p hp] at hn
    exact absurd (h2 p hp) hn
theorem fr_rr {σ ρ : ST} (h : FrC σ) (hT : ∀ k, k < 10 → (lowF k).toInt ≤ (σ 1 k).toInt ∧ (σ 1 k).toInt ≤ (highF k).toInt) (r1 : ∀ k, k < 10 → ρ 1 k = σ 1 k) (r2 : ∀ k, 10 ≤ k → k < 1974 → ρ 1 k = 0) (r3 : ∀ b, b < 10000 → ρ 4 b = contF (σ 26 b) ∧ ρ 5 b = (if 0 ≤ σ 26 b then 0 else 1)) (h13 : 0 ≤ (ρ 0 13).toInt ∧ (ρ 0 13).toInt ≤ 64) : RR ρ false ρ (qmix σ Zs) Zs Zs := by
  obtain ⟨h1, h2, h3, h4, h5, h6, h7, h8, h9, h10⟩ := h
  have e1 : qmix σ Zs 1 = σ 1 := q_mA (by omega)
  have e2 : qmix σ Zs 2 = σ 2 := q_mA (by omega)
  have e26 : qmix σ Zs 26 = σ 26 := q_mA (by omega)
  have e22 : qmix σ Zs 22 2 = 0 := by rw [q_mK (by omega)]; rfl
  have hT' : GT (qmix σ Zs) := fun k hk => by rw [e1]; exact hT k hk
  have htb := GT_b hT'
  obtain ⟨d1, d2⟩ := clamp_toInt (x := qmix σ Zs 1 0) (by omega)
  refine ⟨fun k hk => ?_, ⟨fun k i hk => ?_, ?_, ?_, ?_⟩, fun p hp => Or.inl ⟨?_, ?_⟩, ⟨0, by omega, e22, fun k hk => by omega⟩, ⟨0, by omega, rfl, fun i hi => by omega⟩, ⟨(qmix σ Zs 1 0).toNatClampNeg, by omega, d2, fun i hi => Or.inl (r2 _ (by omega) (by omega)), fun b hb hc => absurd hc z01, fun i j hi hj _ hn => absurd (r2 _ (by omega) (by omega)) hn⟩, fun b hb => ?_, ⟨fun _ _ _ _ => rfl, fun _ _ _ _ => rfl, rfl, rfl, h13⟩, fun w => by cases w⟩
  · rw [e1]; exact r1 k hk
  · rw [e2, h1 k (by unfold cmap at hk; omega)]
    exact r2 i (by unfold cmap at hk; omega) (by unfold cmap at hk; omega)
  · exact r2 21 (by omega) (by omega)
  · exact r2 22 (by omega) (by omega)
  · rw [e22]; exact r2 26 (by omega) (by omega)
  · exact r2 _ (by omega) (by omega)
  · rw [q_mA (by omega)]; exact h2 p hp
  · rw [e26]; exact r3 b hb
theorem e_fill (N : Nat) (hN : 100 < N) (σ : ST) : ∃ σ', mE_J7_fill_53178_Ecounts N σ 0 = some σ' ∧ (∀ k, k < 34 → σ' 2 k = 0) ∧ ∀ c, c ≠ 2 → σ' c = σ c := by
  have key : ∀ m i : Nat, ∀ σ1 : ST, (∀ k, k < i → σ1 2 k = 0) → (∀ c, c ≠ 2 → σ1 c = σ c) → i ≤ 34 → 34 - i < m → ∃ σ', zIt (mE_J7_fill_53178_Ecounts_B5 N) (fun _ _ _ _ => none) m σ1 0 (nI i) (nI 34) = some σ' ∧ (∀ k, k < 34 → σ' 2 k = 0) ∧ ∀ c, c ≠ 2 → σ' c = σ c := by
    intro m
    induction m with
    | zero => intro i σ1 _ _ _ _; omega
    | succ m ih =>
      intro i σ1 k1 k2 hi hm
      rw [zIt_s, mE_J7_fill_53178_Ecounts_B5]
      by_cases ei : i = 34
      · subst ei
        rw [if_pos (nI_le (by omega) (by omega))]
        exact ⟨_, rfl, k1, k2⟩
      · rw [if_neg (nI_ge (by omega) (by omega)), zSet_nI (by omega) (by omega), zLet_eq, nI_1]
        refine ih (i + 1) _ (fun k hk => ?_) (fun c hc => by rw [q_uc hc]; exact k2 c hc) (by omega) (by omega)
        by_cases g : k = i
        · rw [g, q_ue rfl rfl]
        · rw [q_un (by omega)]; exact k1 k (by omega)
  exact key N 0 σ (fun k hk => by omega) (fun _ _ => rfl) (by omega) (by omega)
theorem e_restart (N : Nat) (hN : 100 < N) {σ C0 : ST} (h : RKc σ C0) : ∃ σ', mE_X2_restart N σ = some σ' ∧ FrC σ' ∧ ∀ c, c = 1 ∨ c = 11 ∨ 24 ≤ c → σ' c = σ c := by
  obtain ⟨s1, a1, a2, a3⟩ := e_fill N hN σ
  obtain ⟨s2, b1, b2, b3, b4⟩ := e_clear N hN (RKc_k (fun c c1 c2 => a3 c (by omega)) h)
  · have key : ∀ m i : Nat, ∀ y : ST, (∀ c, c < 12 ∨ 18 ≤ c → y c = s2 c) → (∀ p, p < i → y (12 + p) 0 = -1) → i ≤ 6 → 6 - i < m → ∃ σ', zIt (mE_X2_restart_B17 N) (fun _ _ => none) m y (nI i) = some σ' ∧ FrC σ' ∧ ∀ c, c = 1 ∨ c = 11 ∨ 24 ≤ c → σ' c = σ c := by
      intro m
      induction m with
      | zero => intro i y _ _ _ _; omega
      | succ m ih =>
        intro i y k1 k2 hi hm
        rw [zIt_s, mE_X2_restart_B17]
        by_cases ei : i = 6
        · subst ei
          rw [if_pos (by decide), mE_X3_clear]
          simp only [zLet_eq, zCallu_some, mE_X6_clear]
          refine ⟨_, rfl, ⟨fun k hk => ?_, fun p hp => ?_, ?_, ?_, ?_, fun b hb => ?_, ?_, ?_, ?_, ?_⟩, fun c hc => ?_⟩
          · simp -implicitDefEqProofs (disch := first | assumption | omega) only [q_uc]
            rw [k1 2 (by omega), b3 2 (by omega) (by omega)]
            exact a2 k hk
          · simp -implicitDefEqProofs (disch := first | assumption | omega) only [q_uc]
            exact k2 p hp
          · simp -implicitDefEqProofs (disch := first | assumption | omega) only [q_uc]
            rw [k1 3 (by omega)]
            exact b4.1
          · simp -implicitDefEqProofs (disch := first | assumption | omega) only [q_uc]
            rw [k1 3 (by omega)]
            exact b4.2.1
          · simp -implicitDefEqProofs (disch := first | assumption | omega) only [q_uc]
            rw [k1 3 (by omega)]
            exact b4.2.2
          · simp -implicitDefEqProofs (disch := first | assumption | omega) only [q_uc]
            rw [k1 10 (by omega)]
            exact b2 b hb
          · simp -implicitDefEqProofs (disch := first | assumption | omega) only [q_uc, q_un, q_ue]
          · simp -implicitDefEqProofs (disch := first | assumption | omega) only [q_uc, q_un, q_ue]
          · simp -implicitDefEqProofs (disch := first | assumption | omega) only [q_uc, q_un, q_ue]
          · simp -implicitDefEqProofs (disch := first | assumption | omega) only [q_uc, q_un, q_ue]
          · rw [q_uc (by omega), q_uc (by omega), q_uc (by omega), q_uc (by omega), q_uc (by omega), q_uc (by omega), k1 c (by omega), b3 c (by omega) (by omega), a3 c (by omega)]
        · rw [if_neg (show ¬ (6 : Int32) ≤ nI i from nI_ge (a := i) (b := 6) (by omega) (by omega)), q_g6 (by omega), mE_X4_leave, zLet_eq, zCallu_some, zLet_eq, nI_1]
          refine ih (i + 1) _ (fun c hc => by rw [q_uc (show c ≠ 12 + i by omega)]; exact k1 c hc) (fun p hp => ?_) (by omega) (by omega)
          by_cases g : p = i
          · rw [g, q_ue rfl rfl]
          · rw [q_un (show 12 + p ≠ 12 + i ∨ (0 : Nat) ≠ 0 from Or.inl (by omega))]; exact k2 p (by omega)
    rw [mE_X2_restart, a1, zCallu_some, b1, zCallu_some]
    exact key N 0 s2 (fun _ _ => rfl) (fun p hp => by omega) (by omega) (by omega)
/-! sets -/
abbrev isT (x1 x2 : Int32) : Prop := (0 ≤ x1.toInt ∧ x1.toInt ≤ 9) ∧ (lowF x1.toNatClampNeg).toInt ≤ x2.toInt ∧ x2.toInt ≤ (highF x1.toNatClampNeg).toInt
theorem e_isTerm (N : Nat) (σ : ST) (x1 x2 : Int32) : mE_X7_isTermValue N σ x1 x2 = some (if isT x1 x2 then 1 else 0, σ) := by
  have e0 : (0 : Int32).toInt = 0 := by decide
  have e10 : (10 : Int32).toInt = 10 := by decide
  rw [mE_X7_isTermValue, mE_X7_isTermValue_32, mE_X7_isTermValue_33, zBool_0]
  by_cases c1 : x1 < 0
  · rw [if_pos c1, if_neg (fun w => by rw [i_lt, e0] at c1; omega)]
  · rw [if_neg c1]
    rw [i_lt, e0] at c1
    by_cases c2 : 10 ≤ x1
    · rw [if_pos c2, if_neg (fun w => by rw [i_le, e10] at c2; omega)]
    · rw [if_neg c2]
      rw [i_le, e10] at c2
      obtain ⟨d1, d2⟩ := clamp_toInt (x := x1) (by omega)
      rw [zGet_at x1.toNatClampNeg d2 (by omega) (by omega)]
      by_cases c3 : x2 < lowF x1.toNatClampNeg
      · rw [if_pos c3, if_neg (fun w => by rw [i_lt] at c3; omega)]
      · rw [if_neg c3, zGet_at x1.toNatClampNeg d2 (by omega) (by omega)]
        rw [i_lt] at c3
        by_cases c4 : highF x1.toNatClampNeg < x2
        · rw [if_pos c4, if_neg (fun w => by rw [i_lt] at c4; omega)]
        · rw [i_lt] at c4
          rw [if_neg (by rw [i_lt]; exact c4), if_pos (show isT x1 x2 from ⟨by omega, by omega, by omega⟩), mE_X7_isTermValue_33, zBool_1]
theorem r_isTerm (N : Nat) {ρ : ST} (ht : ∀ k, k < 10 → ρ 9 k = lowF k ∧ ρ 10 k = highF k) (x1 x2 : Int32) : mR_isTerm N ρ x1 x2 = some (if isT x1 x2 then 1 else 0, ρ) := by
  rw [mR_isTerm, zLet_eq, r_in N ρ x1 0 9 (m := 0) (n := 9) (by decide) (by decide), zCall_some]
  by_cases c1 : 0 ≤ x1.toInt ∧ x1.toInt ≤ 9
  · obtain ⟨d1, d2⟩ := clamp_toInt (x := x1) (by omega)
    rw [if_pos c1, if_neg n10, zLet_eq, zGet_at x1.toNatClampNeg d2 (by omega) (by omega), zLet_eq, zGet_at x1.toNatClampNeg d2 (by omega) (by omega), zLet_eq, (ht _ (by omega)).1, (ht _ (by omega)).2, r_in N ρ x2 _ _ (l_of _) (l_of _), zCall_some]
    by_cases c2 : (lowF x1.toNatClampNeg).toInt ≤ x2.toInt ∧ x2.toInt ≤ (highF x1.toNatClampNeg).toInt
    · rw [if_pos c2, if_neg n10, mR_isTerm_39, zBool_1, if_pos (show isT x1 x2 from ⟨c1, c2⟩)]
    · rw [if_neg c2, if_pos rfl, mR_isTerm_38, mR_isTerm_39, zBool_0, if_neg (fun w => c2 w.2)]
  · rw [if_neg c1, if_pos rfl, mR_isTerm_38, mR_isTerm_39, zBool_0, if_neg (fun w => c1 w.1)]
theorem RKc_up {κ C : ST} {c k : Nat} {v : Int32} (h : RKc κ C) (hc : c < 3 ∨ 10 < c) : RKc (zUp κ c k v) C := RKc_k (fun d d1 d2 => q_uc (by omega)) h
theorem s_sets (N : Nat) (hN : 2000 < N) (κ : Nat) : Sm_sets N (II κ) (II (κ + 1)) := by
  intro τ ρ x1 x2 hI
  obtain ⟨⟨A, C, H, n1, n2, n3⟩, hr⟩ := id hI
  have hmx := EngC_mix n1
  have hth := RR_thr n2
  have ht1 : ∀ k, k < 10 → zUp ρ 0 0 0 9 k = lowF k ∧ zUp ρ 0 0 0 10 k = highF k := fun k hk => by rw [q_uc (by omega), q_uc (by omega)]; exact hr.2.2.1 k hk
  have hit := e_isTerm N (pE 0 0 τ) x1 x2
  have hri := r_isTerm N ht1 x1 x2
  rw [mT_X7_sets, mR_sets, zqE hit, zLet_eq, hri, zCall_some]
  by_cases c : isT x1 x2
  · obtain ⟨d1, d2⟩ := clamp_toInt c.1.1
    rw [if_pos c, if_neg n10, if_neg n10]
    have hb := c.2
    have hk : x1.toNatClampNeg < 10 := by omega
    rw [if_pos c] at hit
    clear hri c
    generalize x1.toNatClampNeg = k at *
    have kt := qc_term N (A := A) (κ := pE 0 0 τ) hk
    rw [hmx, ← d2] at kt
    have er : zUp ρ 0 0 0 1 k = A 1 k := hth.1 k hk
    rw [zqE kt, zGet_at k d2 (by omega) (by omega), er]
    by_cases g : A 1 k = x2
    · rw [if_pos g, if_pos g, mT_X7_sets_20, mR_sets_24, zBool_0, zBool_0]
      exact ⟨_, _, _, rfl, rfl, II_thr hI⟩
    · have hst : mE_X2_setTerm N (pE 0 0 τ) x1 x2 = some (zUp (pE 0 0 τ) 1 k x2) := by
        rw [mE_X2_setTerm, hit, zCall_some, if_neg n10, zSet_at k d2 hk (by omega), mE_X2_setTerm_15]
      have hc1 : RKc (pE 0 0 (iE 0 0 τ (zUp (pE 0 0 τ) 1 k x2))) C := RKc_k (fun d d1 d2 => by rw [pE_iE (by omega) (by omega)]) (RKc_up n1.2.2.1 (c := 1) (k := k) (v := x2) (by omega))
      obtain ⟨σ', s1, s2, s3⟩ := e_restart N (by omega) hc1
      have t1 : ∀ d, d = 1 ∨ d = 11 ∨ d = 24 ∨ d = 25 ∨ d = 26 → σ' d = zUp (pE 0 0 τ) 1 k x2 d := fun d hd => by rw [s3 d (by omega), pE_iE (by omega) (by omega)]
      have hpe : ∀ d, d < 27 → pE 0 0 (iE 0 0 (iE 0 0 τ (zUp (pE 0 0 τ) 1 k x2)) σ') d = σ' d := fun d hd => pE_iE (by omega) hd
      have e26 : σ' 26 = A 26 := by rw [t1 26 (by omega), q_uc (by omega), ← n1.1 26 (by omega)]
      have e1 : ∀ j, j < 10 → σ' 1 j = if j = k then x2 else A 1 j := fun j hj => by
        rw [t1 1 (by omega), q_get, ← n1.1 1 (by omega)]
        by_cases w : j = k
        · rw [if_pos ⟨rfl, w⟩, if_pos w]
        · rw [if_neg (fun z => w z.2), if_neg w]
      have hT : ∀ j, j < 10 → (lowF j).toInt ≤ (σ' 1 j).toInt ∧ (σ' 1 j).toInt ≤ (highF j).toInt := fun j hj => by
        rw [e1 j hj]
        by_cases w : j = k
        · rw [if_pos w, w]; exact hb
        · rw [if_neg w]; exact n3.1.1.1 j hj
      have hbg := pR_begin N (by omega) (zUp (zUp ρ 0 0 0) 1 k x2)
      rw [if_neg g, if_neg g, zCallLu_eq hst, zCallLu_eq s1, zSet_at k d2 (by omega) (by omega), hbg, zCallu_some, zBool_1, zBool_1]
      generalize hρ' : (fun c => if c = 1 then (fun j => if 10 ≤ j ∧ j < 1974 then 0 else zUp (zUp ρ 0 0 0) 1 k x2 1 j) else zUp (zUp ρ 0 0 0) 1 k x2 c : ST) = ρ'
      have o : ∀ d, d ≠ 1 → ρ' d = zUp ρ 0 0 0 d := fun d hd => by
        rw [← hρ']
        show (if d = 1 then _ else _) = _
        rw [if_neg hd, q_uc hd]
      have o1 : ∀ j, 10 ≤ j → j < 1974 → ρ' 1 j = 0 := fun j j1 j2 => by
        rw [← hρ']
        show (if 10 ≤ j ∧ j < 1974 then _ else _) = _
        rw [if_pos ⟨j1, j2⟩]
      have o2 : ∀ j, j < 10 → ρ' 1 j = σ' 1 j := fun j hj => by
        rw [← hρ']
        show (if 10 ≤ j ∧ j < 1974 then _ else _) = _
        rw [if_neg (by omega), e1 j hj, q_get]
        by_cases w : j = k
        · rw [if_pos ⟨rfl, w⟩, if_pos w]
        · rw [if_neg (fun z => w z.2), if_neg w]
          exact hth.1 j hj
      have b13 : 0 ≤ (ρ' 0 13).toInt ∧ (ρ' 0 13).toInt ≤ 64 := by rw [o 0 (by omega)]; exact RR_13 hth
      have hfe : EngC (pE 0 0 (iE 0 0 (iE 0 0 τ (zUp (pE 0 0 τ) 1 k x2)) σ')) (qmix σ' Zs) Zs Zs := EngC_congr hpe (fr_eng s2)
      refine ⟨1, _, ρ', rfl, rfl, ⟨⟨qmix σ' Zs, Zs, Zs, hfe, ?_, ?_⟩, ?_⟩⟩
      · refine fr_rr s2 hT o2 o1 (fun b hb => ?_) b13
        rw [o 4 (by omega), o 5 (by omega), e26]
        exact hth.2.2.2.2.2.2.1 b hb
      · exact fr_st s2 hT (fun b hb => by rw [e26]; exact n3.2.2.1 b hb) _
      · refine Rs_k (Rs_mono hr (by omega)) (fun d w1 w2 w3 _ _ _ _ => ?_) (fun d hd => by rw [o d (by omega), q_uc (by omega)]) b13
        rw [iE_o (by omega) (by omega) (by omega), iE_o (by omega) (by omega) (by omega)]
  · rw [if_neg c, if_pos rfl, if_pos rfl, mT_X7_sets_20, mR_sets_24, zBool_0, zBool_0]
    exact ⟨_, _, _, rfl, rfl, II_thr hI⟩
