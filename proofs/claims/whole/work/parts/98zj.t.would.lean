/-! would and plan -/
theorem contF_ne {A : ST} {b : Nat} (h : GK A) (hb : b < 10000) : ¬ contF (A 26 b) = -2 := by
  have hk := h b hb
  have em : (-2 : Int32).toInt = -2 := by decide
  have e1 : (-1 : Int32).toInt = -1 := by decide
  have e0 : (0 : Int32).toInt = 0 := by decide
  unfold contF
  intro w
  by_cases c : A 26 b < 0
  · rw [if_pos c, i_eq, i_sub (by rw [e1]; omega) (by rw [e1]; omega), e1, em] at w
    rw [i_lt, e0] at c
    omega
  · rw [if_neg c, i_eq, em] at w
    rw [i_lt, e0] at c
    omega
theorem i_1sub (a : Int32) : a + 1 - a = 1 := by rw [Int32.add_comm, Int32.add_sub_cancel]
/-- one read in thought -/
theorem th_read (N : Nat) (hN : 2000 < N) {κ b : Nat} (hκ : κ < 512) {τ ρ A C H : ST} (hI : II κ τ ρ) (n1 : EngC (pE 0 0 τ) A C H) (hth : RR (zUp ρ 0 0 0) false (zUp ρ 0 0 0) A C H) (n3 : St (4100 * κ) A C H) (hb : b < 10000) (hb7 : (b : Int) < (A 1 7).toInt) :
    ∃ y A' κ1 ρ1 ρ2 ρ3, mY_X2_copyFrom N (pY 1 0 τ) = some y ∧ EqA A A' ∧ mE_X2_take N (pE 1 0 (iY 1 0 τ y)) (nI b) = some ((qa_take A' C H b).1, qmix (qa_take A' C H b).2.1 κ1) ∧ mR_think N (zUp ρ 0 0 0) = some ρ1 ∧ mR_readOne N ρ1 (nI b) = some (if C b 0 = 1 ∨ 0 ≤ A' 26 b then contF (A' 26 b) else -2, ρ2) ∧ mR_endThought N ρ2 = some ρ3 ∧ II (κ + 1) (iE 1 0 (iY 1 0 τ y) (qmix (qa_take A' C H b).2.1 κ1)) ρ3 ∧ RR ρ2 true ρ2 (qa_take A' C H b).2.1 (qa_take A' C H b).2.2.1 (qa_take A' C H b).2.2.2 ∧ ρ2 2 11 = A 2 1 ∧ (∀ c, c ≠ 1 → ρ3 c = ρ2 c) ∧ ρ2 0 11 = (qa_take A' C H b).1 ∧ (((qa_take A' C H b).2.1 0 9 = -1 ∧ ρ2 0 12 = -1) ∨ ∃ p, p < 6 ∧ (qa_take A' C H b).2.1 0 9 = nI p ∧ ρ2 0 12 = nI (542 + 12 * p)) ∧ ρ2 0 16 = (qa_take A' C H b).2.1 2 6 - A' 2 6 ∧ ρ2 0 15 = (qa_take A' C H b).2.1 2 7 - A' 2 7 ∧ iY 1 0 τ y 2 = τ 2 ∧ St (4100 * κ) A' C H := by
  have hr := hI.2
  obtain ⟨y, A', y1, y2, y3, y4⟩ := p_copy N (by omega) n1 hr.1
  obtain ⟨ρ1, t1, t2, t3⟩ := r_think N (by omega) (zUp ρ 0 0 0)
  have hs' := St_EqA n3 y2
  have hR : RR ρ1 false ρ1 A' C H := RR_EqA (RR_frame hth (fun c hc => t2 c (by omega)) (by rw [t2 0 (by omega)]; exact RR_13 hth)) y2
  obtain ⟨κ1, ρ2, p1, p2, p3, p4, p5, p6, p7, p8, p9, p10, p11, p12, p13⟩ := p_take N (by omega) (b := b) ⟨y3, hR, hs'⟩ (by omega) hb (by rw [y2.1 7 (by omega)]; exact hb7)
  obtain ⟨ρ3, e1, e2, e3⟩ := r_endT N (by omega) ρ2
  have k2 : ρ2 2 = ρ1 2 := p6 2 (by omega) (by omega) (by omega)
  refine ⟨y, A', κ1, ρ1, ρ2, ρ3, y1, y2, p1, t1, p2, e1, II_th hI (Kt_t y4 p4) ⟨_, _, _, p3.1.2⟩ (fun j hj => ?_) (fun c c0 c1 c2 c14 c17 c19 c20 => ?_) ?_, p5, ?_, e2, p8, p9, p10, p11, y4 2 (by omega) (by omega) (by omega) (by omega) (by omega) (by omega), hs'⟩
  · rw [e3 j hj, k2, t3 j hj, q_uc (by omega)]
  · rw [e2 c c1, p6 c c0 c1 c14, t2 c c2, q_uc c0]
  · rw [e2 0 (by omega)]
    exact RR_13 p5
  · rw [k2, t3 11 (by omega)]
    exact hth.2.1.1 1 11 (by unfold cmap; omega)
theorem pE1_c {τ σ : ST} {c : Nat} (h : c < 25) : iE 1 0 τ σ (100 + c) = σ c := by
  unfold iE
  rw [if_pos (by omega)]
  congr 1
  omega
theorem s_would (N : Nat) (hN : 2000 < N) (κ : Nat) (hκ : κ < 512) : Sm_would N (II κ) (II (κ + 1)) := by
  intro τ ρ x1 x2 hI
  obtain ⟨⟨A, C, H, n1, n2, n3⟩, hr⟩ := id hI
  have hmx := EngC_mix n1
  have hth := RR_thr n2
  have htb := GT_b n3.1.1.1
  have hhas := qc_has N (A := A) (κ := pE 0 0 τ) (x := x1)
  rw [hmx] at hhas
  have e0 : (0 : Int32).toInt = 0 := by decide
  have e1 : (1 : Int32).toInt = 1 := by decide
  have e5 : (5 : Int32).toInt = 5 := by decide
  have hin := r_in N (zUp ρ 0 0 0) x2 0 5 (m := 0) (n := 5) (by decide) (by decide)
  by_cases c : (0 ≤ x1.toInt ∧ x1.toInt < (A 1 7).toInt) ∧ (0 ≤ x2.toInt ∧ x2.toInt ≤ 5)
  · obtain ⟨c1, c2⟩ := c
    obtain ⟨d1, d2⟩ := clamp_toInt c1.1
    generalize x1.toNatClampNeg = b at *
    subst d2
    obtain ⟨y, A', κ1, ρ1, ρ2, ρ3, q1, q2, q3, q4, q5, q6, q7, q8, q9, q10, q11, q12, q13, q14, q15, q16⟩ := th_read N hN hκ hI n1 hth n3 (b := b) (by omega) (by omega)
    obtain ⟨w1, w2, w3⟩ := take_cnt (H := H) (b := b) q16.1 (by omega) (by omega) (by rw [q2.1 7 (by omega)]; omega)
    obtain ⟨u1, u2⟩ := take_0 (H := H) (b := b) q16.1 (by omega) (by omega) (by rw [q2.1 7 (by omega)]; omega)
    have hcn := contF_ne (b := b) q16.2.2.1 (by omega)
    have hN1 := q16.1.1.2.1 1 (by omega)
    obtain ⟨j, j1, j2, j3, j4⟩ := q8.2.2.2.2.2.2.2.2 rfl
    have k1 : ρ2 1 11 = (qa_take A' C H b).2.1 2 1 := q8.2.1.1 1 11 (by unfold cmap; omega)
    have t2 : τ 2 = A 2 := by rw [n1.1 2 (by omega)]; rfl
    have a1 : A' 2 1 = A 2 1 := q2.2.1 1 (by omega)
    have a5 : A' 2 5 = A 2 5 := q2.2.1 5 (by omega)
    have a6 : A' 2 6 = A 2 6 := q2.2.1 6 (by omega)
    have a7 : A' 2 7 = A 2 7 := q2.2.1 7 (by omega)
    generalize qa_take A' C H b = T at *
    have cc : mT_X7_would N τ (nI b) x2 = some (if x2 = 0 then T.1 else if x2 = 1 then T.2.1 2 1 - A 2 1 else if x2 = 2 then T.2.1 0 9 else if x2 = 3 then T.2.1 2 5 - A 2 5 else if x2 = 4 then T.2.1 2 7 - A 2 7 else T.2.1 2 6 - A 2 6, iE 1 0 (iY 1 0 τ y) (qmix T.2.1 κ1)) := by
      have g2 : ∀ k, iE 1 0 (iY 1 0 τ y) (qmix T.2.1 κ1) 102 k = T.2.1 2 k := fun k => by
        rw [show (102 : Nat) = 100 + 2 from rfl, pE1_c (by omega), q_mA (by omega)]
      have g0 : iE 1 0 (iY 1 0 τ y) (qmix T.2.1 κ1) 100 9 = T.2.1 0 9 := by
        rw [show (100 : Nat) = 100 + 0 from rfl, pE1_c (by omega), q_mA (by omega)]
      have g3 : ∀ k, iE 1 0 (iY 1 0 τ y) (qmix T.2.1 κ1) 2 k = A 2 k := fun k => by
        rw [iE_o (by omega) (by omega) (by omega), q15, t2]
      rw [mT_X7_would, zqE hhas, if_pos c1, if_neg n10, if_neg (by rw [i_lt, e0]; omega), if_pos (by rw [i_le, e5]; omega), zCallLu_eq q1, zCallL_eq q3]
      generalize iE 1 0 (iY 1 0 τ y) (qmix T.2.1 κ1) = τ2 at *
      rw [zGet_at (i := 1) 1 rfl (by decide) (by decide), zGet_at (i := 1) 1 rfl (by decide) (by decide), zGet_at (i := 5) 5 rfl (by decide) (by decide), zGet_at (i := 5) 5 rfl (by decide) (by decide), zGet_at (i := 7) 7 rfl (by decide) (by decide), zGet_at (i := 7) 7 rfl (by decide) (by decide), zGet_at (i := 6) 6 rfl (by decide) (by decide), zGet_at (i := 6) 6 rfl (by decide) (by decide)]
      simp only [zLet_eq]
      rw [g0, g2, g2, g2, g2, g3, g3, g3, g3]
      by_cases v0 : x2 = 0
      · rw [if_pos v0, if_pos v0]
      · rw [if_neg v0, if_neg v0]
        by_cases v1 : x2 = 1
        · rw [if_pos v1, if_pos v1]
        · rw [if_neg v1, if_neg v1]
          by_cases v2 : x2 = 2
          · rw [if_pos v2, if_pos v2]
          · rw [if_neg v2, if_neg v2]
            by_cases v3 : x2 = 3
            · rw [if_pos v3, if_pos v3]
            · rw [if_neg v3, if_neg v3]
              by_cases v4 : x2 = 4
              · rw [if_pos v4, if_pos v4]
              · rw [if_neg v4, if_neg v4]
    have rr : mR_would N ρ (nI b) x2 = some (if x2 = 0 then T.1 else if x2 = 1 then T.2.1 2 1 - A 2 1 else if x2 = 2 then T.2.1 0 9 else if x2 = 3 then T.2.1 2 5 - A 2 5 else if x2 = 4 then T.2.1 2 7 - A 2 7 else T.2.1 2 6 - A 2 6, ρ3) := by
      have r0 : ∀ k, ρ3 0 k = ρ2 0 k := fun k => by rw [q10 0 (by omega)]
      have h69 : ∀ (x3 k0 : Int32), (x3 = if C b 0 = 1 ∨ 0 ≤ A' 26 b then 0 else 1) → k0 = T.2.1 2 1 - A 2 1 → (k0 = 0 ∨ k0 = 1) → mR_would_69 N ρ2 (nI b) x2 x3 k0 = some (if x2 = 0 then T.1 else if x2 = 1 then T.2.1 2 1 - A 2 1 else if x2 = 2 then T.2.1 0 9 else if x2 = 3 then T.2.1 2 5 - A 2 5 else if x2 = 4 then T.2.1 2 7 - A 2 7 else T.2.1 2 6 - A 2 6, ρ3) := fun x3 k0 hx hk hk01 => by
        rw [mR_would_69, q6, zCallu_some]
        simp only [zLet_eq, r0]
        by_cases v0 : x2 = 0
        · rw [if_pos v0, if_pos v0]
          by_cases kf : C b 0 = 1 ∨ 0 ≤ A' 26 b
          · rw [hx, if_pos kf, if_pos rfl, mR_would_124, q11]
          · rw [hx, if_neg kf, if_neg n10, mR_would_124, u2.mpr kf]
        · rw [if_neg v0, if_neg v0]
          by_cases v1 : x2 = 1
          · rw [if_pos v1, if_pos v1, ← hk]
            rcases hk01 with w | w
            · rw [w, if_pos rfl, mR_would_135]
            · rw [w, if_neg n10, mR_would_135]
          · rw [if_neg v1, if_neg v1]
            by_cases v2 : x2 = 2
            · rw [if_pos v2, if_pos v2]
              by_cases kf : C b 0 = 1 ∨ 0 ≤ A' 26 b
              · rw [hx, if_pos kf, if_pos rfl]
                rcases q12 with ⟨p1, p2⟩ | ⟨p, p0, p1, p2⟩
                · rw [p2, if_pos rfl, mR_would_148, mR_would_163, p1]
                · rw [p2, if_neg (q_m1 (by omega)), show (542 : Int32) = nI 542 from rfl, pk_sub (by omega), show 542 + 12 * p - 542 = 12 * p by omega, q_dv (by omega) (by decide) (by decide), show 12 * p / 12 = p by omega, mR_would_163, p1]
              · rw [hx, if_neg kf, if_neg n10, mR_would_148, mR_would_163, w3 kf]
            · rw [if_neg v2, if_neg v2]
              by_cases v3 : x2 = 3
              · rw [if_pos v3, if_pos v3, j3, ← j2, ← w2, a5]
              · rw [if_neg v3, if_neg v3]
                by_cases v4 : x2 = 4
                · rw [if_pos v4, if_pos v4, q14, a7]
                · rw [if_neg v4, if_neg v4, q13, a6]
      have h46 : ∀ x3 : Int32, (x3 = if C b 0 = 1 ∨ 0 ≤ A' 26 b then 0 else 1) → mR_would_46 N ρ2 (nI b) x2 x3 = some (if x2 = 0 then T.1 else if x2 = 1 then T.2.1 2 1 - A 2 1 else if x2 = 2 then T.2.1 0 9 else if x2 = 3 then T.2.1 2 5 - A 2 5 else if x2 = 4 then T.2.1 2 7 - A 2 7 else T.2.1 2 6 - A 2 6, ρ3) := fun x3 hx => by
        rw [mR_would_46, zGet_at (i := 11) 11 rfl (by decide) (by decide), zGet_at (i := 11) 11 rfl (by decide) (by decide), k1, q9]
        rw [a1] at w1
        by_cases ch : C b 0 = 1
        · rw [if_pos ch] at w1
          have hle : ¬ T.2.1 2 1 ≤ A 2 1 := by
            rw [w1, i_le, i_add (by rw [e1, ← a1]; omega) (by rw [e1, ← a1]; omega), e1]
            omega
          rw [if_neg hle]
          exact h69 x3 1 hx (by rw [w1, i_1sub]) (Or.inr rfl)
        · rw [if_neg ch] at w1
          rw [if_pos (by rw [w1, i_le]; omega)]
          exact h69 x3 0 hx (by rw [w1, Int32.sub_self]) (Or.inl rfl)
      rw [mR_would, zLet_eq, r_isBlock N hth, zCall_some, if_pos c1, if_neg n10, zLet_eq, hin, zCall_some, if_pos c2, if_neg n10, q4, zCallu_some, q5, zCall_some]
      by_cases kf : C b 0 = 1 ∨ 0 ≤ A' 26 b
      · rw [if_pos kf, if_neg hcn]
        exact h46 0 (by rw [if_pos kf])
      · rw [if_neg kf, if_pos rfl]
        exact h46 1 (by rw [if_neg kf])
    exact ⟨_, _, _, cc, rr, q7⟩
  · refine ⟨-1, τ, zUp ρ 0 0 0, ?_, ?_, II_thr hI⟩
    · rw [mT_X7_would, zqE hhas]
      by_cases d1 : 0 ≤ x1.toInt ∧ x1.toInt < (A 1 7).toInt
      · rw [if_pos d1, if_neg n10]
        by_cases d3 : x2 < 0
        · rw [if_pos d3, mT_X7_would_20]
        · rw [i_lt, e0] at d3
          rw [if_neg (by rw [i_lt, e0]; exact d3), if_neg (show ¬ x2 ≤ 5 from fun w => by
            rw [i_le, e5] at w
            exact c ⟨d1, by omega⟩), mT_X7_would_20]
      · rw [if_neg d1, if_pos rfl, mT_X7_would_20]
    · rw [mR_would, zLet_eq, r_isBlock N hth, zCall_some]
      by_cases d1 : 0 ≤ x1.toInt ∧ x1.toInt < (A 1 7).toInt
      · rw [if_pos d1, if_neg n10, zLet_eq, hin, zCall_some, if_neg (fun w => c ⟨d1, w⟩), if_pos rfl, mR_would_25]
      · rw [if_neg d1, if_pos rfl, mR_would_25]
theorem s_plan (N : Nat) (hN : 2000 < N) (κ : Nat) (hκ : κ < 512) : Sm_plan N (II κ) (II (κ + 1)) := by
  intro τ ρ x1 x2 hI
  obtain ⟨⟨A, C, H, n1, n2, n3⟩, hr⟩ := id hI
  have hmx := EngC_mix n1
  have hth := RR_thr n2
  have htb := GT_b n3.1.1.1
  have hhas := qc_has N (A := A) (κ := pE 0 0 τ) (x := x1)
  rw [hmx] at hhas
  have e0 : (0 : Int32).toInt = 0 := by decide
  have e32 : (32 : Int32).toInt = 32 := by decide
  by_cases c1 : 0 ≤ x1.toInt ∧ x1.toInt < (A 1 7).toInt
  · obtain ⟨d1, d2⟩ := clamp_toInt c1.1
    generalize x1.toNatClampNeg = b at *
    subst d2
    obtain ⟨y, A', κ1, ρ1, ρ2, ρ3, q1, q2, q3, q4, q5, q6, q7, q8, q9, q10, q11, q12, q13, q14, q15, q16⟩ := th_read N hN hκ hI n1 hth n3 (b := b) (by omega) (by omega)
    obtain ⟨j, j1, j2, j3, j4⟩ := q8.2.2.2.2.2.2.2.2 rfl
    generalize qa_take A' C H b = T at *
    have r0 : ρ3 0 = ρ2 0 := q10 0 (by omega)
    have r14 : ρ3 14 = ρ2 14 := q10 14 (by omega)
    have hl1 : ((nI j).toInt64 - 1).toInt = (j : Int) - 1 := by rw [l_m1 (by rw [nI_toInt (by omega)]; omega), nI_toInt (by omega)]
    have hin := r_in N ρ3 x2 0 _ (m := 0) (n := (j : Int) - 1) (by decide) hl1
    have hpl : mE_X2_plannedAt N (qmix T.2.1 κ1) x2 = some (if 0 ≤ x2.toInt ∧ x2.toInt ≤ (j : Int) - 1 then T.2.1 24 x2.toNatClampNeg else -1, qmix T.2.1 κ1) := by
      rw [mE_X2_plannedAt, mE_X2_plannedAt_21, mE_X2_plannedAt_31]
      by_cases v : x2 < 0
      · rw [if_pos v, if_neg (by rw [i_lt, e0] at v; omega)]
      · rw [if_neg v, zLet_eq, q_mA (by omega), j2]
        rw [i_lt, e0] at v
        by_cases v2 : nI j ≤ x2
        · rw [if_pos v2, if_neg (by rw [i_le, nI_toInt (by omega)] at v2; omega)]
        · rw [if_neg v2]
          rw [i_le, nI_toInt (by omega)] at v2
          obtain ⟨f1, f2⟩ := clamp_toInt (x := x2) (by omega)
          rw [if_pos (show x2 < 32 by rw [i_lt, e32]; omega), zGet_at x2.toNatClampNeg f2 (by omega) (by omega), mE_X2_plannedAt_31, q_mA (by omega), if_pos (by omega)]
    have hpe : pE 1 0 (iE 1 0 (iY 1 0 τ y) (qmix T.2.1 κ1)) = fun c => if c < 27 then qmix T.2.1 κ1 c else fun _ => 0 := by
      funext c
      by_cases g : c < 27
      · rw [if_pos g, pE_iE (by omega) g]
      · rw [if_neg g]
        unfold pE
        rw [if_neg (by omega), if_neg g]
    have hpl2 : mE_X2_plannedAt N (pE 1 0 (iE 1 0 (iY 1 0 τ y) (qmix T.2.1 κ1))) x2 = some (if 0 ≤ x2.toInt ∧ x2.toInt ≤ (j : Int) - 1 then T.2.1 24 x2.toNatClampNeg else -1, pE 1 0 (iE 1 0 (iY 1 0 τ y) (qmix T.2.1 κ1))) := by
      have g0 : pE 1 0 (iE 1 0 (iY 1 0 τ y) (qmix T.2.1 κ1)) 0 8 = nI j := by rw [pE_iE (by omega) (by omega), q_mA (by omega), j2]
      have g24 : pE 1 0 (iE 1 0 (iY 1 0 τ y) (qmix T.2.1 κ1)) 24 = T.2.1 24 := by rw [pE_iE (by omega) (by omega), q_mA (by omega)]
      rw [mE_X2_plannedAt, mE_X2_plannedAt_21, mE_X2_plannedAt_31]
      by_cases v : x2 < 0
      · rw [if_pos v, if_neg (by rw [i_lt, e0] at v; omega)]
      · rw [if_neg v, zLet_eq, g0]
        rw [i_lt, e0] at v
        by_cases v2 : nI j ≤ x2
        · rw [if_pos v2, if_neg (by rw [i_le, nI_toInt (by omega)] at v2; omega)]
        · rw [if_neg v2]
          rw [i_le, nI_toInt (by omega)] at v2
          obtain ⟨f1, f2⟩ := clamp_toInt (x := x2) (by omega)
          rw [if_pos (show x2 < 32 by rw [i_lt, e32]; omega), zGet_at x2.toNatClampNeg f2 (by omega) (by omega), mE_X2_plannedAt_31, g24, if_pos (by omega)]
    refine ⟨if 0 ≤ x2.toInt ∧ x2.toInt ≤ (j : Int) - 1 then T.2.1 24 x2.toNatClampNeg else -1, _, ρ3, ?_, ?_, q7⟩
    · rw [mT_X7_plan, zqE hhas, if_pos c1, if_neg n10, zCallLu_eq q1, zCallL_eq q3, zCallL_eq hpl2, iE_pE (by omega)]
    · rw [mR_plan, zLet_eq, r_isBlock N hth, zCall_some, if_pos c1, if_neg n10, q4, zCallu_some, q5, zCall_some, q6, zCallu_some, zLet_eq, zLet_eq, zLet_eq, zLet_eq, r0, j3, hin, zCall_some]
      by_cases v : 0 ≤ x2.toInt ∧ x2.toInt ≤ (j : Int) - 1
      · obtain ⟨f1, f2⟩ := clamp_toInt (x := x2) (by omega)
        rw [if_pos v, if_neg n10, zGet_at x2.toNatClampNeg f2 (by omega) (by omega), mR_plan_55, r14, j4 _ (by omega), if_pos v]
      · rw [if_neg v, if_pos rfl, mR_plan_55, if_neg v]
  · refine ⟨-1, τ, zUp ρ 0 0 0, ?_, ?_, II_thr hI⟩
    · rw [mT_X7_plan, zqE hhas, if_neg c1, if_pos rfl]
    · rw [mR_plan, zLet_eq, r_isBlock N hth, zCall_some, if_neg c1, if_pos rfl]
