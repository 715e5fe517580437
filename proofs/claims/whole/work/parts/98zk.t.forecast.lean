/-! forecast -/
theorem p_step (N : Nat) (hN : 1300 < N) {t : Nat} {τ ρ A C H : ST} (h : Pw t τ ρ A C H) (ht : t < 7000000) (x : Int32) :
    ∃ r κ1 A1 C1 H1 ρ1, mE_X2_take N (pE 1 0 τ) x = some (r, qmix A1 κ1) ∧ ((¬ (0 ≤ x.toInt ∧ x.toInt < (A 1 7).toInt) ∧ ρ1 = ρ) ∨ ((0 ≤ x.toInt ∧ x.toInt < (A 1 7).toInt) ∧ ∃ a, mR_readOne N ρ x = some (a, ρ1))) ∧ Pw (t + 101) (iE 1 0 τ (qmix A1 κ1)) ρ1 A1 C1 H1 ∧ Kt τ (iE 1 0 τ (qmix A1 κ1)) ∧ (∀ c, c ≠ 0 → c ≠ 1 → c ≠ 14 → ρ1 c = ρ c) ∧ A1 1 = A 1 ∧ A1 26 = A 26 ∧ ρ1 0 18 = ρ 0 18 := by
  have htb := GT_b h.2.2.1.1.1
  by_cases hv : 0 ≤ x.toInt ∧ x.toInt < (A 1 7).toInt
  · obtain ⟨c1, c2⟩ := clamp_toInt hv.1
    generalize x.toNatClampNeg = b at c1 c2
    subst c2
    obtain ⟨κ1, ρ1, p1, p2, p3, p4, p5, p6, p7, p8, p9, p10, p11, p12, p13⟩ := p_take N hN (b := b) h ht (by omega) (by omega)
    exact ⟨_, κ1, _, _, _, ρ1, p1, Or.inr ⟨hv, _, p2⟩, p3, p4, p6, p12, p13, p7 18 (by omega) (by omega) (by omega) (by omega) (by omega)⟩
  · obtain ⟨n1, n2, n3⟩ := h
    have hmx := EngC_mix n1
    have k1 := qc_take_no N (κ := pE 1 0 τ) hv
    rw [hmx] at k1
    have c26 : qa_clr A 26 = A 26 := by unfold qa_clr; simp -implicitDefEqProofs (disch := first | assumption | omega) only [q_uc]
    have c22 : qa_clr A 22 = A 22 := by unfold qa_clr; simp -implicitDefEqProofs (disch := first | assumption | omega) only [q_uc]
    have c23 : qa_clr A 23 = A 23 := by unfold qa_clr; simp -implicitDefEqProofs (disch := first | assumption | omega) only [q_uc]
    have c1 : qa_clr A 1 = A 1 := by unfold qa_clr; simp -implicitDefEqProofs (disch := first | assumption | omega) only [q_uc]
    exact ⟨-1, pE 1 0 τ, qa_clr A, C, H, ρ, k1, Or.inl ⟨hv, rfl⟩, ⟨EngC_i (by omega) (Rp_22 n1.2 c22 c23), RR_clrA n2, St_mono (St_clr n3) (by omega)⟩, Kt_iE (by rw [q_mA (by omega), c26, n1.1 26 (by omega)]), fun _ _ _ _ => rfl, c1, c26, rfl⟩
theorem fc_in (N : Nat) (hN : 1300 < N) (hdA hdB : ST → Int32 → Int32 → Int32 → Option (Int32 × ST)) (x1 x2 x3 : Int32) : ∀ (m i j : Nat) {t : Nat} {τ ρ A C H : ST}, i + j = 6 → j < m → t + 101 * j < 7000000 → Pw t τ ρ A C H → ∃ τ' ρ' A' C' H', zIt (mT_X7_forecast_B43 N hdA) (fun _ _ _ _ _ => none) m τ x1 x2 x3 (nI i) = hdA τ' x1 x2 (x3 + 1) ∧ zIt (mR_forecast_B45 N hdB) (fun _ _ _ _ _ => none) m ρ x1 x2 x3 (nI i) = hdB ρ' x1 x2 (x3 + 1) ∧ Pw (t + 101 * j) τ' ρ' A' C' H' ∧ Kt τ τ' ∧ (∀ c, c ≠ 0 → c ≠ 1 → c ≠ 14 → ρ' c = ρ c) := by
  intro m
  induction m with
  | zero => intro i j t τ ρ A C H _ _ _ _; omega
  | succ m ih =>
    intro i j t τ ρ A C H hi hm ht h
    have nx := fun {t : Nat} {τ ρ A C H : ST} => ih (i + 1) (j - 1) (t := t) (τ := τ) (ρ := ρ) (A := A) (C := C) (H := H)
    rw [zIt_s, zIt_s]
    generalize zIt (mT_X7_forecast_B43 N hdA) (fun _ _ _ _ _ => none) m = h1 at *
    generalize zIt (mR_forecast_B45 N hdB) (fun _ _ _ _ _ => none) m = h2 at *
    rw [mT_X7_forecast_B43, mR_forecast_B45]
    by_cases e6 : i = 6
    · subst e6
      rw [if_pos (by decide), if_pos (by decide), zLet_eq, zLet_eq]
      exact ⟨τ, ρ, A, C, H, rfl, rfl, ⟨h.1, h.2.1, St_mono h.2.2 (by omega)⟩, Kt_r τ, fun _ _ _ _ => rfl⟩
    · have hi6 : i < 6 := by omega
      have hmx := EngC_mix h.1
      have skip : ∃ τ' ρ' A' C' H', h1 τ x1 x2 x3 (nI (i + 1)) = hdA τ' x1 x2 (x3 + 1) ∧ h2 ρ x1 x2 x3 (nI (i + 1)) = hdB ρ' x1 x2 (x3 + 1) ∧ Pw (t + 101 * j) τ' ρ' A' C' H' ∧ Kt τ τ' ∧ (∀ c, c ≠ 0 → c ≠ 1 → c ≠ 14 → ρ' c = ρ c) := by
        obtain ⟨τ', ρ', A', C', H', s1, s2, s3, s4, s5⟩ := nx (by omega) (by omega) (by omega) h
        exact ⟨τ', ρ', A', C', H', s1, s2, ⟨s3.1, s3.2.1, St_mono s3.2.2 (by omega)⟩, s4, s5⟩
      have k119 : ∀ (σ : ST) (a b : Int32), mR_forecast_119 N hdB h2 σ x1 x2 x3 (nI i) a b = h2 σ x1 x2 x3 (nI (i + 1)) := fun σ a b => by
        rw [mR_forecast_119, zLet_eq, nI_1]
      have k93 : ∀ (σ : ST) (a : Option (Fin 6)), mT_X7_forecast_93 N hdA h1 σ x1 x2 x3 (nI i) a = h1 σ x1 x2 x3 (nI (i + 1)) := fun σ a => by
        rw [mT_X7_forecast_93, zLet_eq, nI_1]
      rw [if_neg (show ¬ (6 : Int32) ≤ nI i from nI_ge (a := i) (b := 6) hi6 (by omega)), if_neg (show ¬ (6 : Int32) ≤ nI i from nI_ge (a := i) (b := 6) hi6 (by omega)), r_streamAt, zCall_some]
      simp only [zLet_eq, q_al]
      rw [zGet_nI (by omega) (by omega), zGet_nI (by omega) (by omega), zGet_nI (by omega) (by omega)]
      by_cases c1 : A (12 + i) 0 = -1
      · have ks := qc_streamAt_no N (A := A) (κ := pE 1 0 τ) hi6 c1
        rw [hmx] at ks
        rw [zCallLq_eq ks, iE_pE (by omega), if_neg (fun w => (RR_s1 h.2.1 hi6).mp w c1), k119]
        show ∃ τ' ρ' A' C' H', mT_X7_forecast_93 N hdA h1 τ x1 x2 x3 (nI i) none = _ ∧ _
        rw [k93]
        exact skip
      · have ks := qc_streamAt N (A := A) (κ := pE 1 0 τ) hi6 c1
        rw [hmx] at ks
        have es5 : ρ 1 (542 + 12 * i + 5) = A (12 + i) 4 := RR_sr h.2.1 (k := 4) hi6 c1 (by omega)
        have es2 : ρ 1 (542 + 12 * i + 2) = A (12 + i) 1 := RR_sr h.2.1 (k := 1) hi6 c1 (by omega)
        have es3 : ρ 1 (542 + 12 * i + 3) = A (12 + i) 2 := RR_sr h.2.1 (k := 2) hi6 c1 (by omega)
        have ep : pE 1 0 τ (12 + i) = A (12 + i) := (h.1.1 (12 + i) (by omega)).symm
        rw [zCallLq_eq ks, iE_pE (by omega), if_pos ((RR_s1 h.2.1 hi6).mpr c1), zGet_nI (by omega) (by omega), es5, es2, es3]
        show ∃ τ' ρ' A' C' H', (if pE 1 0 τ (12 + i) 4 ≤ 0 then mT_X7_forecast_93 N hdA h1 τ x1 x2 x3 (nI i) (some ⟨i, hi6⟩) else zCallL (mE_X2_take N (pE 1 0 τ) (pE 1 0 τ (12 + i) 1 + pE 1 0 τ (12 + i) 2)) (iE 1 0 τ) fun v89 s89 => mT_X7_forecast_93 N hdA h1 s89 x1 x2 x3 (nI i) (some ⟨i, hi6⟩)) = _ ∧ _
        rw [ep]
        by_cases c2 : A (12 + i) 4 ≤ 0
        · rw [if_pos c2, if_pos c2, k119, k93]
          exact skip
        · obtain ⟨r, κ1, A1, C1, H1, ρ1, p1, p2, p3, p4, p5, p6, p7, p8⟩ := p_step N hN h (by omega) (A (12 + i) 1 + A (12 + i) 2)
          obtain ⟨τ', ρ', A', C', H', s1, s2, s3, s4, s5⟩ := nx (by omega) (by omega) (by omega) p3
          rw [if_neg c2, if_neg c2, r_isBlock N h.2.1, zCall_some, zCallL_eq p1, k93]
          rcases p2 with ⟨v1, v2⟩ | ⟨v1, a, v2⟩
          · rw [if_neg v1, if_pos rfl, k119]
            rw [v2] at s2 s5
            exact ⟨τ', ρ', A', C', H', s1, s2, ⟨s3.1, s3.2.1, St_mono s3.2.2 (by omega)⟩, Kt_t p4 s4, s5⟩
          · rw [if_pos v1, if_neg n10, v2, zCall_some, k119]
            exact ⟨τ', ρ', A', C', H', s1, s2, ⟨s3.1, s3.2.1, St_mono s3.2.2 (by omega)⟩, Kt_t p4 s4, fun c c0 c1 c2 => by rw [s5 c c0 c1 c2, p5 c c0 c1 c2]⟩
theorem fc_out (N : Nat) (hN : 2000 < N) {n : Nat} (hn : n ≤ 20) (x2 : Int32) {τ0 ρ0 B : ST} (hB : τ0 2 = B 2) (hρ : ∀ k i, cmap k i → ρ0 2 i = B 2 k) : ∀ (m k : Nat) {f t : Nat} {τ ρ A C H : ST}, k + m = n → m < f → t + 101 * (6 * m) < 7000000 → Pw t τ ρ A C H → Kt τ0 τ → (∀ c, c ≠ 0 → c ≠ 1 → c ≠ 14 → ρ c = ρ0 c) → ∃ v τ' ρ' ρ'' A' C' H', zIt (mT_X7_forecast_B35 N) (fun _ _ _ _ => none) f τ (nI n) x2 (nI k) = some (v, τ') ∧ zIt (mR_forecast_B37 N) (fun _ _ _ _ => none) f ρ (nI n) x2 (nI k) = some (v, ρ'') ∧ Rp (pE 1 0 τ') A' C' H' ∧ Kt τ0 τ' ∧ mR_endThought N ρ' = some ρ'' ∧ (∀ c, c ≠ 0 → c ≠ 1 → c ≠ 14 → ρ' c = ρ0 c) ∧ (0 ≤ (ρ' 0 13).toInt ∧ (ρ' 0 13).toInt ≤ 64) := by
  have hN3 : 1300 < N := by omega
  intro m
  induction m with
  | zero =>
    intro k f t τ ρ A C H hk hf ht h kt kr
    obtain ⟨f, rfl⟩ : ∃ g, f = g + 1 := ⟨f - 1, by omega⟩
    obtain ⟨ρ3, e1, e2, e3⟩ := r_endT N (by omega) ρ
    have t2 : τ 2 = B 2 := by rw [kt 2 (by omega) (by omega) (by omega) (by omega) (by omega) (by omega), hB]
    have t102 : τ 102 = A 2 := by rw [h.1.1 2 (by omega)]; rfl
    have r2 : ρ 2 = ρ0 2 := kr 2 (by omega) (by omega) (by omega)
    have fin : ∀ a i : Nat, cmap a i → a < 34 → i < 1974 → mT_X7_forecast_134 N τ (nI n) x2 (nI k) (nI a) = some (A 2 a - B 2 a, τ) ∧ mR_forecast_162 N ρ (nI n) x2 (nI k) (nI i) = some (A 2 a - B 2 a, ρ3) := fun a i ha ha2 hi => by
      rw [mT_X7_forecast_134, mR_forecast_162, zGet_nI ha2 (by omega), zGet_nI ha2 (by omega), zGet_nI hi (by omega), zGet_nI hi (by omega), zLet_eq, zLet_eq, t2, t102, r2, h.2.1.2.1.1 a i ha, hρ a i ha, e1, zCallu_some]
      exact ⟨rfl, rfl⟩
    rw [zIt_s, zIt_s, mT_X7_forecast_B35, mR_forecast_B37, if_pos (nI_le (by omega) (by omega)), if_pos (nI_le (by omega) (by omega))]
    have res : ∀ v, ∀ {X Y : Option (Int32 × ST)}, X = some (v, τ) → Y = some (v, ρ3) → ∃ v τ' ρ' ρ'' A' C' H', X = some (v, τ') ∧ Y = some (v, ρ'') ∧ Rp (pE 1 0 τ') A' C' H' ∧ Kt τ0 τ' ∧ mR_endThought N ρ' = some ρ'' ∧ (∀ c, c ≠ 0 → c ≠ 1 → c ≠ 14 → ρ' c = ρ0 c) ∧ (0 ≤ (ρ' 0 13).toInt ∧ (ρ' 0 13).toInt ≤ 64) := fun v X Y hX hY => ⟨v, τ, ρ, ρ3, A, C, H, hX, hY, h.1.2, kt, e1, kr, RR_13 h.2.1⟩
    by_cases v0 : x2 = 0
    · obtain ⟨f1, f2⟩ := fin 0 10 (by unfold cmap; omega) (by omega) (by omega)
      rw [if_pos v0, if_pos v0]
      exact res _ f1 f2
    · rw [if_neg v0, if_neg v0]
      by_cases v1 : x2 = 1
      · obtain ⟨f1, f2⟩ := fin 1 11 (by unfold cmap; omega) (by omega) (by omega)
        rw [if_pos v1, if_pos v1]
        exact res _ f1 f2
      · rw [if_neg v1, if_neg v1]
        by_cases v2 : x2 = 2
        · obtain ⟨f1, f2⟩ := fin 6 16 (by unfold cmap; omega) (by omega) (by omega)
          rw [if_pos v2, if_pos v2]
          exact res _ f1 f2
        · obtain ⟨f1, f2⟩ := fin 32 27 (by unfold cmap; omega) (by omega) (by omega)
          rw [if_neg v2, if_neg v2]
          exact res _ f1 f2
  | succ m ih =>
    intro k f t τ ρ A C H hk hf ht h kt kr
    obtain ⟨f, rfl⟩ : ∃ g, f = g + 1 := ⟨f - 1, by omega⟩
    rw [zIt_s, zIt_s, mT_X7_forecast_B35, mR_forecast_B37, if_neg (nI_ge (by omega) (by omega)), if_neg (nI_ge (by omega) (by omega))]
    obtain ⟨j, hj⟩ : ∃ j, j = 6 := ⟨6, rfl⟩
    have ht7 : t + 101 * j < 7000000 := by omega
    have hN0 : j < N := by omega
    obtain ⟨τ', ρ', A', C', H', s1, s2, s3, s4, s5⟩ := fc_in N hN3 (zIt (mT_X7_forecast_B35 N) (fun _ _ _ _ => none) f) (zIt (mR_forecast_B37 N) (fun _ _ _ _ => none) f) (nI n) x2 (nI k) N 0 j (t := t) (τ := τ) (ρ := ρ) (A := A) (C := C) (H := H) (by omega) hN0 ht7 h
    have s1' : mT_X7_forecast_43 N (zIt (mT_X7_forecast_B35 N) (fun _ _ _ _ => none) f) τ (nI n) x2 (nI k) 0 = _ := s1
    have s2' : mR_forecast_45 N (zIt (mR_forecast_B37 N) (fun _ _ _ _ => none) f) ρ (nI n) x2 (nI k) 0 = _ := s2
    rw [s1', s2', nI_1]
    exact ih (k + 1) (f := f) (t := t + 101 * j) (by omega) (by omega) (by omega) ⟨s3.1, s3.2.1, St_mono s3.2.2 (by omega)⟩ (Kt_t kt s4) (fun c c0 c1 c2 => by rw [s5 c c0 c1 c2, kr c c0 c1 c2])
theorem s_forecast (N : Nat) (hN : 2000 < N) (κ : Nat) (hκ : κ < 512) : Sm_forecast N (II κ) (II (κ + 1)) := by
  intro τ ρ x1 x2 hI
  obtain ⟨⟨A, C, H, n1, n2, n3⟩, hr⟩ := id hI
  have hth := RR_thr n2
  have e0 : (0 : Int32).toInt = 0 := by decide
  have e1 : (1 : Int32).toInt = 1 := by decide
  have e3 : (3 : Int32).toInt = 3 := by decide
  have e20 : (20 : Int32).toInt = 20 := by decide
  have hin := r_in N (zUp ρ 0 0 0) x1 1 20 (m := 1) (n := 20) (by decide) (by decide)
  have hin2 := r_in N (zUp ρ 0 0 0) x2 0 3 (m := 0) (n := 3) (by decide) (by decide)
  by_cases c : (1 ≤ x1.toInt ∧ x1.toInt ≤ 20) ∧ (0 ≤ x2.toInt ∧ x2.toInt ≤ 3)
  · obtain ⟨c1, c2⟩ := c
    obtain ⟨d1, d2⟩ := clamp_toInt (x := x1) (by omega)
    generalize x1.toNatClampNeg = n at *
    subst d2
    obtain ⟨y, A', y1, y2, y3, y4⟩ := p_copy N (by omega) n1 hr.1
    obtain ⟨ρ1, t1, t2, t3⟩ := r_think N (by omega) (zUp ρ 0 0 0)
    have hR : RR ρ1 false ρ1 A' C H := RR_EqA (RR_frame hth (fun c hc => t2 c (by omega)) (by rw [t2 0 (by omega)]; exact RR_13 hth)) y2
    have hB : iY 1 0 τ y 2 = A 2 := by
      rw [y4 2 (by omega) (by omega) (by omega) (by omega) (by omega) (by omega), n1.1 2 (by omega)]
      rfl
    obtain ⟨v, τ', ρ', ρ'', A2, C2, H2, q1, q2, q3, q4, q5, q6, q7⟩ := fc_out N hN (n := n) (by omega) x2 hB (fun k i hk => by rw [t3 i (by unfold cmap at hk; omega)]; exact hth.2.1.1 k i hk) n 0 (f := N) (by omega) (by omega) (t := 4100 * κ) (by omega) ⟨y3, hR, St_EqA n3 y2⟩ (Kt_r _) (fun _ _ _ _ => rfl)
    obtain ⟨ρ3, z1, z2, z3⟩ := r_endT N (by omega) ρ'
    have z4 : ρ'' = ρ3 := by
      rw [q5] at z1
      exact Option.some.inj z1
    subst z4
    refine ⟨v, τ', ρ'', ?_, ?_, II_th hI (Kt_t y4 q4) ⟨_, _, _, q3⟩ (fun j hj => ?_) (fun c c0 c1 c2 c14 c17 c19 c20 => ?_) ?_⟩
    · rw [mT_X7_forecast, if_neg (show ¬ nI n < 1 by rw [i_lt, e1]; omega), if_neg (show ¬ 20 < nI n by rw [i_lt, e20]; omega), if_neg (by rw [i_lt, e0]; omega), if_pos (by rw [i_le, e3]; omega), zCallLu_eq y1]
      exact q1
    · rw [mR_forecast, zLet_eq, zLet_eq, hin, zCall_some, if_pos c1, if_neg n10, zLet_eq, hin2, zCall_some, if_pos c2, if_neg n10, t1, zCallu_some]
      exact q2
    · rw [z3 j hj, q6 2 (by omega) (by omega) (by omega), t3 j hj, q_uc (by omega)]
    · rw [z2 c c1, q6 c c0 c1 c14, t2 c c2, q_uc c0]
    · rw [z2 0 (by omega)]
      exact q7
  · refine ⟨-1, τ, zUp ρ 0 0 0, ?_, ?_, II_thr hI⟩
    · rw [mT_X7_forecast, mT_X7_forecast_20]
      by_cases g1 : x1 < 1
      · rw [if_pos g1]
      · rw [if_neg g1]
        by_cases g2 : 20 < x1
        · rw [if_pos g2]
        · rw [if_neg g2]
          by_cases g3 : x2 < 0
          · rw [if_pos g3]
          · rw [if_neg g3, if_neg (show ¬ x2 ≤ 3 from fun w => by
              rw [i_lt, e1] at g1
              rw [i_lt, e20] at g2
              rw [i_lt, e0] at g3
              rw [i_le, e3] at w
              exact c ⟨by omega, by omega⟩)]
    · rw [mR_forecast, zLet_eq, zLet_eq, hin, zCall_some]
      by_cases g1 : 1 ≤ x1.toInt ∧ x1.toInt ≤ 20
      · rw [if_pos g1, if_neg n10, zLet_eq, hin2, zCall_some, if_neg (fun w => c ⟨g1, w⟩), if_pos rfl, mR_forecast_29]
      · rw [if_neg g1, if_pos rfl, mR_forecast_29]
