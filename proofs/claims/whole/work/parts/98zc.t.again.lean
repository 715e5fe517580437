/-! again -/
theorem t_again_eq (N : Nat) (τ : ST) {k : Nat} (hk : k < 2) (h : ¬ τ 603 k = 0) : mT_X7_again N τ (nI k) = zCallLu (mV_X1_copyFrom N (pV 0 (1 + k) τ)) (iV 0 (1 + k) τ) fun s21 => zCallLu (mY_X2_copyFrom N (pY 0 (2 + k) s21)) (iY 0 (2 + k) s21) fun s34 => some (1, s34) := by
  rw [mT_X7_again, if_neg (show ¬ nI k < 0 by rw [i_lt, nI_toInt (by omega), show (0 : Int32).toInt = 0 by decide]; omega), if_neg (show ¬ (2 : Int32) ≤ nI k from nI_ge (a := k) (b := 2) hk (by omega)), zGet_nI hk (by omega), if_neg h]
  rcases (show k = 0 ∨ k = 1 by omega) with w | w
  · subst w
    simp only [zBool_1]
    rw [if_pos (show nI 0 = 0 from rfl)]
    simp only [if_pos (show nI 0 = 0 from rfl)]
  · subst w
    simp only [zBool_1]
    rw [if_neg (show ¬ nI 1 = 0 by decide), if_pos (show nI 1 = 1 from rfl)]
    simp only [if_neg (show ¬ nI 1 = 0 by decide), if_pos (show nI 1 = 1 from rfl)]
theorem r_again_loop (N : Nat) (hN : 10001 < N) (ρ : ST) {k : Nat} (hk : k < 2) (hb : ∀ b, b < 10000 → ρ 7 (10000 * k + b) = 0 ∨ ρ 7 (10000 * k + b) = 1) : ∃ ρ', mR_again_45 N ρ (nI k) 0 = some (1, ρ') ∧ (∀ c, c ≠ 4 → c ≠ 5 → ρ' c = ρ c) ∧ (∀ b, b < 10000 → ρ' 4 b = ρ 6 (10000 * k + b) ∧ ρ' 5 b = ρ 7 (10000 * k + b)) := by
  have key : ∀ m i : Nat, ∀ ρ1 : ST, (∀ c, c ≠ 4 → c ≠ 5 → ρ1 c = ρ c) → (∀ b, b < i → ρ1 4 b = ρ 6 (10000 * k + b) ∧ ρ1 5 b = ρ 7 (10000 * k + b)) → i ≤ 10000 → 10000 - i < m → ∃ ρ', zIt (mR_again_B45 N) (fun _ _ _ => none) m ρ1 (nI k) (nI i) = some (1, ρ') ∧ (∀ c, c ≠ 4 → c ≠ 5 → ρ' c = ρ c) ∧ (∀ b, b < 10000 → ρ' 4 b = ρ 6 (10000 * k + b) ∧ ρ' 5 b = ρ 7 (10000 * k + b)) := by
    intro m
    induction m with
    | zero => intro i ρ1 _ _ _ _; omega
    | succ m ih =>
      intro i ρ1 k1 k2 hi hm
      rw [zIt_s, mR_again_B45]
      by_cases ei : i = 10000
      · subst ei
        rw [if_pos (show (10000 : Int32) ≤ nI 10000 by decide), zBool_1]
        exact ⟨_, rfl, k1, k2⟩
      · have en : vp_nar .boolean (ρ 7 (10000 * k + i)) = ρ 7 (10000 * k + i) := by
          rcases hb i (by omega) with w | w
          · rw [w, vn_0]
          · rw [w, vn_1]
        have e1 : (10000 : Int32) * nI k = nI (10000 * k) := q_ml k 10000
        rw [if_neg (show ¬ (10000 : Int32) ≤ nI i from nI_ge (a := i) (b := 10000) (by omega) (by omega)), zLet_eq, zLet_eq, e1, nI_add, zGet_nI (by omega) (by omega), zSet_nI (by omega) (by omega), zLet_eq, zLet_eq, nI_add, zGet_nI (by omega) (by omega), q_uc (by omega), k1 7 (by omega) (by omega), en, zSet_nI (by omega) (by omega), zLet_eq, nI_1, k1 6 (by omega) (by omega)]
        refine ih (i + 1) _ (fun c c1 c2 => by rw [q_uc c2, q_uc c1]; exact k1 c c1 c2) (fun b hb => ?_) (by omega) (by omega)
        by_cases g : b = i
        · subst g
          rw [q_uc (by omega), q_ue rfl rfl, q_ue rfl rfl]
          exact ⟨rfl, rfl⟩
        · rw [q_uc (by omega), q_un (by omega), q_un (by omega), q_un (by omega)]
          exact k2 b (by omega)
  exact key N 0 ρ (fun _ _ _ => rfl) (fun b hb => by omega) (by omega) (by omega)
theorem s_again (N : Nat) (hN : 10001 < N) (κ : Nat) : Sm_again N (II κ) (II (κ + 1)) := by
  intro τ ρ x1 hI
  obtain ⟨⟨A, C, H, n1, n2, n3⟩, hr⟩ := id hI
  have e0 : (0 : Int32).toInt = 0 := by decide
  have e2 : (2 : Int32).toInt = 2 := by decide
  have hin := r_in N (zUp ρ 0 0 0) x1 0 1 (m := 0) (n := 1) (by decide) (by decide)
  by_cases c : 0 ≤ x1.toInt ∧ x1.toInt ≤ 1
  · obtain ⟨c1, c2⟩ := clamp_toInt c.1
    generalize x1.toNatClampNeg = k at c1 c2
    subst c2
    have hk : k < 2 := by omega
    obtain ⟨Ak, Ck, Hk, q1, q2, q3, q4⟩ := hr.2.1 k hk
    by_cases z : ρ 8 k = 0
    · refine ⟨0, τ, zUp ρ 0 0 0, ?_, ?_, II_thr hI⟩
      · rw [mT_X7_again, if_neg (show ¬ nI k < 0 by rw [i_lt, nI_toInt (by omega), show (0 : Int32).toInt = 0 by decide]; omega), if_neg (show ¬ (2 : Int32) ≤ nI k from nI_ge (a := k) (b := 2) hk (by omega)), zGet_nI hk (by omega), if_pos (q2.trans z), mT_X7_again_18, zBool_0]
      · rw [mR_again, zLet_eq, zLet_eq, hin, zCall_some, if_pos c, if_neg n10, zGet_nI hk (by omega), q_uc (by omega), if_pos z, mR_again_24, zBool_0]
    · have z1 : ρ 8 k = 1 := q3.resolve_left z
      obtain ⟨g1, g2⟩ := q4 z1
      obtain ⟨v, v1, v2, v3⟩ := t_disk N (τ := τ) (d := 0) (b := 1 + k) (by omega)
      generalize hτ1 : iV 0 (1 + k) τ v = τ1 at v2 v3
      have d1 : Rp (pE 0 0 τ1) A C H := Rp_k (fun c c1 c2 => by rw [pE_k _ (by omega), pE_k _ (by omega), v2 _ (by omega)]) n1.2
      have s1 : EngC (pE (2 + k) (1 + k) τ1) Ak Ck Hk := EngC_congr (fun c hc => by
        unfold pE
        by_cases g : c < 25
        · rw [if_pos g, if_pos g, v2 _ (by omega)]
        · rw [if_neg g, if_neg g, if_pos hc, if_pos hc, v2 _ (by omega)]) q1
      obtain ⟨y, y1, y2, y3, y4, y5, y6⟩ := t_copy N (by omega) (k := 0) (j := 2 + k) (by omega) (by omega) (by omega) d1 s1
      generalize hτ2 : iY 0 (2 + k) τ1 y = τ2 at y2 y3 y4 y5 y6
      obtain ⟨ρ1, r1, r2, r3, r4⟩ := r_cp_kept_row N (by omega) (zUp ρ 0 0 0) (a := 1974 * k) (b := 0) (by omega) (by omega)
      have r7 : ∀ c, c ≠ 0 → c ≠ 1 → ρ1 c = ρ c := fun c w0 w1 => by rw [r2 c w1, q_uc w0]
      have hbad : ∀ b, b < 10000 → ρ 7 (10000 * k + b) = 0 ∨ ρ 7 (10000 * k + b) = 1 := fun b hb => bad_01 g1.2.2.2.2.2.2.1 b hb
      obtain ⟨ρ2, p1, p2, p3⟩ := r_again_loop N hN ρ1 hk (by rw [r7 7 (by omega) (by omega)]; exact hbad)
      have o : ∀ c, c ≠ 1 → c ≠ 4 → c ≠ 5 → ρ2 c = zUp ρ 0 0 0 c := fun c w1 w2 w3 => by rw [p2 c w2 w3, r2 c w1]
      have o' : ∀ c, c ≠ 0 → c ≠ 1 → c ≠ 4 → c ≠ 5 → ρ2 c = ρ c := fun c w0 w1 w2 w3 => by rw [o c w1 w2 w3, q_uc w0]
      have h13 : ρ2 0 13 = ρ 0 13 := by rw [o 0 (by omega) (by omega) (by omega), q_un (by omega)]
      have b13 := RR_13 n2
      have oτ : ∀ c, 25 ≤ c → c ≠ 401 → τ2 c = τ c := fun c w1 w2 => by rw [y2 c (by omega), v2 c (by omega)]
      obtain ⟨f1, f2⟩ := EngC_copy y3 (fun i hi => by rw [pE_k _ (by omega)]; exact y4 i hi) (fun i hi => by rw [pE_k _ (by omega)]; exact y5 i hi) (fun p hp i hi => by rw [pE_k _ (by omega)]; exact y6 p hp i hi) (fun b hb => by
        rw [pE_26, y2 _ (by omega), v3 b hb, q1.1 26 (by omega), pE_26])
      have hR : Rs (4100 * (κ + 1)) τ2 ρ2 := Rs_k (Rs_mono hr (by omega)) (fun c w1 w2 w3 _ _ _ _ => oτ c (by omega) (by omega)) (fun c hc => o' c (by omega) (by omega) (by omega) (by omega)) (by rw [h13]; exact b13)
      refine ⟨1, τ2, ρ2, ?_, ?_, ⟨⟨_, Ck, Hk, f1, RR_EqA (RR_rho g1 (fun j hj => ?_) (fun b hb => ?_) (by rw [h13]; exact b13)) f2, St_EqA (St_mono g2 (by omega)) f2⟩, hR⟩⟩
      · rw [t_again_eq N τ hk (by rw [q2]; exact z), zCallLu_eq v1, hτ1, zCallLu_eq y1, hτ2]
      · have r1' : mR_copy_kept_row N (zUp ρ 0 0 0) (nI (1974 * k)) 0 = some ρ1 := r1
        rw [mR_again, zLet_eq, zLet_eq, hin, zCall_some, if_pos c, if_neg n10, zGet_nI hk (by omega), q_uc (by omega), if_neg z, zLet_eq, show (1974 : Int32) * nI k = nI (1974 * k) from q_ml k 1974, r1', zCallu_some]
        exact p1
      · have := r3 j hj
        rw [Nat.zero_add] at this
        rw [vK_1, p2 1 (by omega) (by omega), this, q_uc (by omega)]
      · rw [vK_4, vK_5, (p3 b hb).1, (p3 b hb).2, r7 6 (by omega) (by omega), r7 7 (by omega) (by omega)]
        exact ⟨rfl, rfl⟩
  · refine ⟨0, τ, zUp ρ 0 0 0, ?_, ?_, II_thr hI⟩
    · rw [mT_X7_again, mT_X7_again_18, zBool_0]
      by_cases g : x1 < 0
      · rw [if_pos g]
      · rw [i_lt, e0] at g
        rw [if_neg (by rw [i_lt, e0]; exact g), if_pos (by rw [i_le, e2]; omega)]
    · rw [mR_again, zLet_eq, zLet_eq, hin, zCall_some, if_neg c, if_pos rfl, mR_again_24, zBool_0]
