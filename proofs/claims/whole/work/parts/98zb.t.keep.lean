/-! keep and again -/
theorem t_copy (N : Nat) (hN : 100 < N) {τ A C H A0 C0 H0 : ST} {k j d e : Nat} (hk : k < 4) (hj : j < 4) (hkj : k ≠ j) (hd : Rp (pE k d τ) A0 C0 H0) (hs : EngC (pE j e τ) A C H) : ∃ y', mY_X2_copyFrom N (pY k j τ) = some y' ∧ (∀ c, (c < 100 * k ∨ 100 * k + 25 ≤ c) → iY k j τ y' c = τ c) ∧ Rp (pE k d (iY k j τ y')) A C H ∧ (∀ i, i < 10 → iY k j τ y' (100 * k + 1) i = A 1 i) ∧ (∀ i, i < 34 → iY k j τ y' (100 * k + 2) i = A 2 i) ∧ (∀ p, p < 6 → ∀ i, i < 11 → iY k j τ y' (100 * k + (12 + p)) i = A (12 + p) i) := by
  have hy : ∀ c, c < 25 → pY k j τ c = pE k d τ c := fun c hc => by
    unfold pY pE
    rw [if_pos (by omega), if_pos (by omega)]
  have hy2 : ∀ c, c < 25 → pY k j τ (100 + c) = pE j e τ c := fun c hc => by
    unfold pY pE
    rw [if_neg (by omega), if_pos (by omega), Nat.add_sub_cancel_left]
  obtain ⟨y', a1, a2, a3, a4, a5, a6⟩ := y_copy N hN (y := pY k j τ) (RKc_k (fun c c1 c2 => hy c (by omega)) hd.2.1) (Rp_k (fun c c1 c2 => hy2 c (by omega)) hs.2)
  have hi : ∀ c, c < 25 → iY k j τ y' (100 * k + c) = y' c := fun c hc => by
    unfold iY
    rw [if_pos (by omega), Nat.add_sub_cancel_left]
  refine ⟨y', a1, fun c hc => ?_, ?_, fun i hi2 => ?_, fun i hi2 => ?_, fun p hp i hi2 => ?_⟩
  · unfold iY
    rw [if_neg (by omega)]
    by_cases g : 100 * j ≤ c ∧ c < 100 * j + 25
    · rw [if_pos g, a3 _ (by omega)]
      unfold pY
      rw [if_neg (by omega)]
      congr 1
      omega
    · rw [if_neg g]
  · refine Rp_k (fun c c1 c2 => ?_) a2
    unfold pE
    rw [if_pos (by omega)]
    exact hi c (by omega)
  · rw [hi 1 (by omega), a4 i hi2, hy2 1 (by omega), ← hs.1 1 (by omega)]
  · rw [hi 2 (by omega), a5 i hi2, hy2 2 (by omega), ← hs.1 2 (by omega)]
  · rw [hi (12 + p) (by omega), a6 p hp i hi2, show 112 + p = 100 + (12 + p) by omega, hy2 (12 + p) (by omega), ← hs.1 (12 + p) (by omega)]
/-- the copy, as an engine of its own -/
theorem EngC_copy {σ A C H : ST} (hp : Rp σ A C H) (h1 : ∀ i, i < 10 → σ 1 i = A 1 i) (h2 : ∀ i, i < 34 → σ 2 i = A 2 i) (h3 : ∀ p, p < 6 → ∀ i, i < 11 → σ (12 + p) i = A (12 + p) i) (h26 : ∀ b, b < 10000 → σ 26 b = A 26 b) : EngC σ (qmix σ A) C H ∧ EqA A (qmix σ A) := by
  refine ⟨⟨fun c hc => q_mA hc, ?_, hp.2⟩, fun k hk => ?_, fun k hk => ?_, fun p hp k hk => ?_, q_mK (by omega), q_mK (by omega), fun b hb => ?_⟩
  · have := hp.1
    unfold RKl at *
    rw [q_mK (by omega), q_mK (by omega)]
    exact this
  · rw [q_mA (by omega)]; exact h1 k hk
  · rw [q_mA (by omega)]; exact h2 k hk
  · rw [q_mA (by omega)]; exact h3 p hp k hk
  · rw [q_mA (by omega)]; exact h26 b hb
theorem t_disk (N : Nat) {τ : ST} {d b : Nat} (hdb : d ≠ b) : ∃ v, mV_X1_copyFrom N (pV d b τ) = some v ∧ (∀ c, c ≠ 400 + 2 * d + 1 → iV d b τ v c = τ c) ∧ ∀ i, i < 10000 → iV d b τ v (400 + 2 * d + 1) i = τ (400 + 2 * b + 1) i := by
  rw [mV_X1_copyFrom, zLet_eq]
  refine ⟨_, rfl, fun c hc => ?_, fun i hi => ?_⟩
  · unfold iV
    by_cases g : c = 400 + 2 * d ∨ c = 400 + 2 * d + 1
    · rw [if_pos g, va_n (by omega)]
      unfold pV
      rw [if_pos (by omega)]
      congr 1
      omega
    · rw [if_neg g]
      by_cases g2 : c = 400 + 2 * b ∨ c = 400 + 2 * b + 1
      · rw [if_pos g2, va_n (by omega)]
        unfold pV
        rw [if_neg (by omega)]
        congr 1
        omega
      · rw [if_neg g2]
  · unfold iV
    rw [if_pos (Or.inr rfl), show 400 + 2 * d + 1 - (400 + 2 * d) = 1 by omega, va_s, cpy_0 (show (10000 : Int32) = nI 10000 from rfl) (by omega) hi]
    unfold pV
    rw [if_neg (by omega)]
theorem t_keep_eq (N : Nat) (τ : ST) {k : Nat} (hk : k < 2) : mT_X7_keep N τ (nI k) = zCallLu (mV_X1_copyFrom N (pV (1 + k) 0 τ)) (iV (1 + k) 0 τ) fun s21 => zCallLu (mY_X2_copyFrom N (pY (2 + k) 0 s21)) (iY (2 + k) 0 s21) fun s34 => some (1, zUp s34 603 k 1) := by
  have e : ∀ s34 : ST, (zSet s34 603 2 (nI k) (vp_nar .boolean 1) fun s43 => zBool 1 (some ((1 : Int32), s43))) = some (1, zUp s34 603 k 1) := fun s34 => by rw [zSet_nI hk (by omega), zBool_1, vn_1]
  rw [mT_X7_keep, if_neg (show ¬ nI k < 0 by rw [i_lt, nI_toInt (by omega), show (0 : Int32).toInt = 0 by decide]; omega), if_pos (show nI k < 2 from nI_lt (a := k) (b := 2) hk (by omega))]
  rcases (show k = 0 ∨ k = 1 by omega) with w | w
  · subst w
    simp only [e]
    rw [if_pos (show nI 0 = 0 from rfl)]
    simp only [if_pos (show nI 0 = 0 from rfl)]
  · subst w
    simp only [e]
    rw [if_neg (show ¬ nI 1 = 0 by decide), if_pos (show nI 1 = 1 from rfl)]
    simp only [if_neg (show ¬ nI 1 = 0 by decide), if_pos (show nI 1 = 1 from rfl)]
theorem r_keep_loop (N : Nat) (hN : 10001 < N) (ρ : ST) {k : Nat} (hk : k < 2) (hb : ∀ b, b < 10000 → ρ 5 b = 0 ∨ ρ 5 b = 1) : ∃ ρ', mR_keep_36 N ρ (nI k) 0 = some (1, ρ') ∧ (∀ c, c ≠ 6 → c ≠ 7 → c ≠ 8 → ρ' c = ρ c) ∧ (∀ b, b < 10000 → ρ' 6 (10000 * k + b) = ρ 4 b ∧ ρ' 7 (10000 * k + b) = ρ 5 b) ∧ (∀ i, (i < 10000 * k ∨ 10000 * k + 10000 ≤ i) → ρ' 6 i = ρ 6 i ∧ ρ' 7 i = ρ 7 i) ∧ ρ' 8 = zUp ρ 8 k 1 8 := by
  have key : ∀ m i : Nat, ∀ ρ1 : ST, (∀ c, c ≠ 6 → c ≠ 7 → ρ1 c = ρ c) → (∀ b, b < i → ρ1 6 (10000 * k + b) = ρ 4 b ∧ ρ1 7 (10000 * k + b) = ρ 5 b) → (∀ i, (i < 10000 * k ∨ 10000 * k + 10000 ≤ i) → ρ1 6 i = ρ 6 i ∧ ρ1 7 i = ρ 7 i) → i ≤ 10000 → 10000 - i < m → ∃ ρ', zIt (mR_keep_B36 N) (fun _ _ _ => none) m ρ1 (nI k) (nI i) = some (1, ρ') ∧ (∀ c, c ≠ 6 → c ≠ 7 → c ≠ 8 → ρ' c = ρ c) ∧ (∀ b, b < 10000 → ρ' 6 (10000 * k + b) = ρ 4 b ∧ ρ' 7 (10000 * k + b) = ρ 5 b) ∧ (∀ i, (i < 10000 * k ∨ 10000 * k + 10000 ≤ i) → ρ' 6 i = ρ 6 i ∧ ρ' 7 i = ρ 7 i) ∧ ρ' 8 = zUp ρ 8 k 1 8 := by
    intro m
    induction m with
    | zero => intro i ρ1 _ _ _ _ _; omega
    | succ m ih =>
      intro i ρ1 k1 k2 k3 hi hm
      rw [zIt_s, mR_keep_B36]
      by_cases ei : i = 10000
      · subst ei
        rw [if_pos (show (10000 : Int32) ≤ nI 10000 by decide), zSet_nI hk (by omega), zBool_1, vn_1]
        refine ⟨_, rfl, fun c c1 c2 c3 => by rw [q_uc c3]; exact k1 c c1 c2, fun b hb => by rw [q_uc (by omega), q_uc (by omega)]; exact k2 b hb, fun q hq => by rw [q_uc (by omega), q_uc (by omega)]; exact k3 q hq, ?_⟩
        funext x
        rw [q_get, q_get, k1 8 (by omega) (by omega)]
      · have en : vp_nar .boolean (ρ 5 i) = ρ 5 i := by
          rcases hb i (by omega) with w | w
          · rw [w, vn_0]
          · rw [w, vn_1]
        have e1 : (10000 : Int32) * nI k = nI (10000 * k) := q_ml k 10000
        rw [if_neg (show ¬ (10000 : Int32) ≤ nI i from nI_ge (a := i) (b := 10000) (by omega) (by omega)), zLet_eq, zLet_eq, e1, nI_add, zGet_nI (by omega) (by omega), zSet_nI (by omega) (by omega), zLet_eq, zLet_eq, zGet_nI (by omega) (by omega), nI_add, q_uc (by omega), k1 5 (by omega) (by omega), en, zSet_nI (by omega) (by omega), zLet_eq, nI_1, k1 4 (by omega) (by omega)]
        refine ih (i + 1) _ (fun c c1 c2 => by rw [q_uc c2, q_uc c1]; exact k1 c c1 c2) (fun b hb => ?_) (fun q hq => ?_) (by omega) (by omega)
        · by_cases g : b = i
          · subst g
            rw [q_uc (by omega), q_ue rfl rfl, q_ue rfl rfl]
            exact ⟨rfl, rfl⟩
          · rw [q_uc (by omega), q_un (by omega), q_un (by omega), q_un (by omega)]
            exact k2 b (by omega)
        · rw [q_uc (by omega), q_un (by omega), q_un (by omega), q_un (by omega)]
          exact k3 q hq
  exact key N 0 ρ (fun _ _ _ => rfl) (fun b hb => by omega) (fun _ _ => ⟨rfl, rfl⟩) (by omega) (by omega)
theorem pE_k {k d c : Nat} (τ : ST) (h : c < 25) : pE k d τ c = τ (100 * k + c) := if_pos h
theorem pE_26 {k d : Nat} (τ : ST) : pE k d τ 26 = τ (400 + 2 * d + 1) := by
  unfold pE
  rw [if_neg (by omega), if_pos (by omega)]
theorem bad_01 {ρ A : ST} (h : RRd ρ A) : ∀ b, b < 10000 → ρ 5 b = 0 ∨ ρ 5 b = 1 := fun b hb => by
  rw [(h b hb).2]
  by_cases g : 0 ≤ A 26 b
  · rw [if_pos g]; exact Or.inl rfl
  · rw [if_neg g]; exact Or.inr rfl
theorem vK_1 (k : Nat) (ρ : ST) (j : Nat) : vK k ρ 1 j = ρ 3 (1974 * k + j) := rfl
theorem vK_4 (k : Nat) (ρ : ST) (j : Nat) : vK k ρ 4 j = ρ 6 (10000 * k + j) := rfl
theorem vK_5 (k : Nat) (ρ : ST) (j : Nat) : vK k ρ 5 j = ρ 7 (10000 * k + j) := rfl
theorem vK_0 (k : Nat) (ρ : ST) (j : Nat) : vK k ρ 0 j = ρ 0 j := rfl
theorem s_keep (N : Nat) (hN : 10001 < N) (κ : Nat) : Sm_keep N (II κ) (II (κ + 1)) := by
  intro τ ρ x1 hI
  obtain ⟨⟨A, C, H, n1, n2, n3⟩, hr⟩ := id hI
  have hth := RR_thr n2
  have e0 : (0 : Int32).toInt = 0 := by decide
  have e2 : (2 : Int32).toInt = 2 := by decide
  have hin := r_in N (zUp ρ 0 0 0) x1 0 1 (m := 0) (n := 1) (by decide) (by decide)
  by_cases c : 0 ≤ x1.toInt ∧ x1.toInt ≤ 1
  · obtain ⟨c1, c2⟩ := clamp_toInt c.1
    generalize x1.toNatClampNeg = k at c1 c2
    subst c2
    have hk : k < 2 := by omega
    obtain ⟨Ak, Ck, Hk, q1, q2, q3, q4⟩ := hr.2.1 k hk
    obtain ⟨v, v1, v2, v3⟩ := t_disk N (τ := τ) (d := 1 + k) (b := 0) (by omega)
    generalize hτ1 : iV (1 + k) 0 τ v = τ1 at v2 v3
    have d1 : Rp (pE (2 + k) (1 + k) τ1) Ak Ck Hk := Rp_k (fun c c1 c2 => by rw [pE_k _ (by omega), pE_k _ (by omega), v2 _ (by omega)]) q1.2
    have s1 : EngC (pE 0 0 τ1) A C H := EngC_congr (fun c hc => by
      unfold pE
      by_cases g : c < 25
      · rw [if_pos g, if_pos g, v2 _ (by omega)]
      · rw [if_neg g, if_neg g, if_pos hc, if_pos hc, v2 _ (by omega)]) n1
    obtain ⟨y, y1, y2, y3, y4, y5, y6⟩ := t_copy N (by omega) (k := 2 + k) (j := 0) (by omega) (by omega) (by omega) d1 s1
    generalize hτ2 : iY (2 + k) 0 τ1 y = τ2 at y2 y3 y4 y5 y6
    obtain ⟨ρ1, r1, r2, r3, r4⟩ := r_cp_row_kept N (by omega) (zUp ρ 0 0 0) (a := 0) (b := 1974 * k) (by omega) (by omega)
    have r5 : ρ1 5 = zUp ρ 0 0 0 5 := r2 5 (by omega)
    obtain ⟨ρ2, p1, p2, p3, p4, p5⟩ := r_keep_loop N hN ρ1 hk (by rw [r5]; exact bad_01 hth.2.2.2.2.2.2.1)
    have o : ∀ c, c ≠ 3 → c ≠ 6 → c ≠ 7 → c ≠ 8 → ρ2 c = zUp ρ 0 0 0 c := fun c w1 w2 w3 w4 => by rw [p2 c w2 w3 w4, r2 c w1]
    have o' : ∀ c, c ≠ 0 → c ≠ 3 → c ≠ 6 → c ≠ 7 → c ≠ 8 → ρ2 c = ρ c := fun c w0 w1 w2 w3 w4 => by rw [o c w1 w2 w3 w4, q_uc w0]
    have h13 : ρ2 0 13 = ρ 0 13 := by rw [o 0 (by omega) (by omega) (by omega) (by omega), q_un (by omega)]
    have b13 := RR_13 n2
    have oτ : ∀ c, (c < 100 * (2 + k) ∨ 100 * (2 + k) + 25 ≤ c) → c ≠ 400 + 2 * (1 + k) + 1 → c ≠ 603 → zUp τ2 603 k 1 c = τ c := fun c w1 w2 w3 => by rw [q_uc w3, y2 c w1, v2 c w2]
    refine ⟨1, zUp τ2 603 k 1, ρ2, ?_, ?_, ⟨⟨A, C, H, ?_, ?_, St_mono n3 (by omega)⟩, ?_, fun k' hk' => ?_, fun i hi => ?_, fun b hb => ?_⟩⟩
    · rw [t_keep_eq N τ hk, zCallLu_eq v1, hτ1, zCallLu_eq y1, hτ2]
    · rw [mR_keep, zLet_eq, zLet_eq, hin, zCall_some, if_pos c, if_neg n10, zLet_eq, show (1974 : Int32) * nI k = nI (1974 * k) from q_ml k 1974]
      have r1' : mR_copy_row_kept N (zUp ρ 0 0 0) 0 (nI (1974 * k)) = some ρ1 := r1
      rw [r1', zCallu_some]
      exact p1
    · refine EngC_congr (fun c hc => ?_) n1
      unfold pE
      by_cases g : c < 25
      · rw [if_pos g, if_pos g, oτ _ (by omega) (by omega) (by omega)]
      · rw [if_neg g, if_neg g, if_pos hc, if_pos hc, oτ _ (by omega) (by omega) (by omega)]
    · exact RR_frame n2 (fun c hc => o' c (by omega) (by omega) (by omega) (by omega) (by omega)) (by rw [h13]; exact b13)
    · obtain ⟨A1, C1, H1, hp⟩ := hr.1
      refine ⟨A1, C1, H1, Rp_k (fun c w1 w2 => ?_) hp⟩
      rw [pE_k _ (by omega), pE_k _ (by omega), oτ _ (by omega) (by omega) (by omega)]
    · by_cases g : k' = k
      · subst g
        have hpp : Rp (pE (2 + k') (1 + k') (zUp τ2 603 k' 1)) A C H := Rp_k (fun c w1 w2 => by rw [pE_k _ (by omega), pE_k _ (by omega), q_uc (by omega)]) y3
        obtain ⟨f1, f2⟩ := EngC_copy hpp (fun i hi => by rw [pE_k _ (by omega), q_uc (by omega)]; exact y4 i hi) (fun i hi => by rw [pE_k _ (by omega), q_uc (by omega)]; exact y5 i hi) (fun p hp i hi => by rw [pE_k _ (by omega), q_uc (by omega)]; exact y6 p hp i hi) (fun b hb => by
          rw [pE_26, q_uc (by omega), y2 _ (by omega), v3 b hb, n1.1 26 (by omega), pE_26])
        refine ⟨_, C, H, f1, ?_, ?_, fun _ => ⟨?_, St_EqA (St_mono n3 (by omega)) f2⟩⟩
        · rw [q_ue rfl rfl, p5, q_ue rfl rfl]
        · rw [p5, q_ue rfl rfl]; exact Or.inr rfl
        · refine RR_EqA (RR_rho n2 (fun j hj => ?_) (fun b hb => ?_) ?_) f2
          · rw [vK_1, p2 3 (by omega) (by omega) (by omega), r3 j hj, Nat.zero_add, q_uc (by omega)]
          · rw [vK_4, vK_5, (p3 b hb).1, (p3 b hb).2, r2 4 (by omega), r2 5 (by omega), q_uc (by omega), q_uc (by omega)]
            exact ⟨rfl, rfl⟩
          · rw [vK_0, h13]
            exact b13
      · obtain ⟨A2, C2, H2, g1, g2, g3, g4⟩ := hr.2.1 k' hk'
        have e8 : ρ2 8 k' = ρ 8 k' := by rw [p5, q_un (by omega), r2 8 (by omega), q_uc (by omega)]
        refine ⟨A2, C2, H2, EngC_congr (fun c hc => ?_) g1, ?_, ?_, ?_⟩
        · unfold pE
          by_cases g : c < 25
          · rw [if_pos g, if_pos g, oτ _ (by omega) (by omega) (by omega)]
          · rw [if_neg g, if_neg g, if_pos hc, if_pos hc, oτ _ (by omega) (by omega) (by omega)]
        · rw [e8, q_un (by omega), y2 _ (by omega), v2 _ (by omega)]; exact g2
        · rw [e8]; exact g3
        · rw [e8]
          intro w
          refine ⟨RR_rho (g4 w).1 (fun j hj => ?_) (fun b hb => ?_) ?_, St_mono (g4 w).2 (by omega)⟩
          · rw [vK_1, vK_1, p2 3 (by omega) (by omega) (by omega), r4 _ (by omega), q_uc (by omega)]
          · rw [vK_4, vK_5, vK_4, vK_5, (p4 _ (by omega)).1, (p4 _ (by omega)).2, r2 6 (by omega), r2 7 (by omega), q_uc (by omega), q_uc (by omega)]
            exact ⟨rfl, rfl⟩
          · rw [vK_0, h13]
            exact b13
    · rw [o' 9 (by omega) (by omega) (by omega) (by omega) (by omega), o' 10 (by omega) (by omega) (by omega) (by omega) (by omega)]
      exact hr.2.2.1 i hi
    · rw [oτ 501 (by omega) (by omega) (by omega)]
      exact hr.2.2.2 b hb
  · refine ⟨0, τ, zUp ρ 0 0 0, ?_, ?_, II_thr hI⟩
    · rw [mT_X7_keep, mT_X7_keep_9, zBool_0]
      by_cases g : x1 < 0
      · rw [if_pos g]
      · rw [i_lt, e0] at g
        rw [if_neg (by rw [i_lt, e0]; exact g), if_neg (by rw [i_lt, e2]; omega)]
    · rw [mR_keep, zLet_eq, zLet_eq, hin, zCall_some, if_neg c, if_pos rfl, zBool_0]
