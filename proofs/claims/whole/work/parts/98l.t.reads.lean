/-! reads -/
theorem step_take (N : Nat) (hN : 1300 < N) {T t b : Nat} {τ ρ A C H : ST} (h : Nw t τ ρ A C H) (hr : Rs T τ ρ) (ht : t < 7000000) (hb : b < 10000) (hb7 : (b : Int) < (A 1 7).toInt) :
    ∃ kind ans κ1 ρ1, mE_X2_take N (pE 0 0 τ) (nI b) = some (kind, qmix (qa_take A C H b).2.1 κ1) ∧ mR_readOne N ρ (nI b) = some (ans, ρ1) ∧ Nw (t + 101) (iE 0 0 τ (qmix (qa_take A C H b).2.1 κ1)) ρ1 (qa_take A C H b).2.1 (qa_take A C H b).2.2.1 (qa_take A C H b).2.2.2 ∧ Rs T (iE 0 0 τ (qmix (qa_take A C H b).2.1 κ1)) ρ1 := by
  obtain ⟨n1, n2, n3⟩ := h
  have hmx := EngC_mix n1
  obtain ⟨κ1, k1, k2⟩ := qc_take N (by omega) n1.2 n3.1 (by omega) hb hb7
  rw [hmx] at k1
  obtain ⟨ρ1, r1, r2, r3, r4, r5, r6, r7, r8⟩ := r_read N hN n2 n3.1 (by omega) hb hb7
  obtain ⟨s1, s2, s3⟩ := St_take n3 (by omega) hb hb7
  exact ⟨_, _, κ1, ρ1, k1, r1, ⟨EngC_i (by omega) k2, RR_w0 r2, s1⟩, Rs_k hr (fun c c1 c2 c3 _ _ _ _ => iE_o (by omega) (by omega) (by omega)) (fun c hc => r3 c (by omega) (by omega) (by omega)) (RR_13 r2)⟩
theorem l_to32 {v : Int64} {b : Nat} (hb : b < 10000) (h : v.toInt = b) : v.toInt32 = nI b := by
  have e : v = lN b := Int64.toInt_inj.mp (by rw [h, lN_toInt (by omega)])
  rw [e, lN_i]
theorem reads_loop (N : Nat) (hN : 1300 < N) (x y : Int32) (had : Int32) (n : Nat) (hn : n ≤ 40) {T : Nat} : ∀ (m k : Nat) {f : Nat} {t : Nat} {τ ρ A C H : ST}, k + m = n → m < f → t + 101 * m < 7000000 → Nw t τ ρ A C H → Rs T τ ρ →
    ∃ v τ' ρ' A' C' H', zIt (mT_X7_reads_B27 N) (fun _ _ _ _ _ _ => none) f τ x y (nI n) had (nI k) = some (v, τ') ∧ zIt (mR_reads_B31 N) (fun _ _ _ _ _ _ => none) f ρ x y (nI n) had (nI k) = some (v, ρ') ∧ Nw (t + 101 * m) τ' ρ' A' C' H' ∧ Rs T τ' ρ' := by
  intro m
  induction m with
  | zero =>
    intro k f t τ ρ A C H hk hf ht h hr
    obtain ⟨f, rfl⟩ : ∃ g, f = g + 1 := ⟨f - 1, by omega⟩
    have e11 : ρ 1 11 = A 2 1 := h.2.1.2.1.1 1 11 (by unfold cmap; omega)
    have e2 : τ 2 = A 2 := tau_c h.1 (by omega)
    rw [zIt_s, zIt_s, mT_X7_reads_B27, mR_reads_B31, if_pos (nI_le (by omega) (by omega)), if_pos (nI_le (by omega) (by omega)), zGet_at (i := 1) 1 rfl (by decide) (by decide), zGet_at (i := 11) 11 rfl (by decide) (by decide), e11, e2]
    exact ⟨_, τ, ρ, A, C, H, rfl, rfl, h, hr⟩
  | succ m ih =>
    intro k f t τ ρ A C H hk hf ht h hr
    obtain ⟨f, rfl⟩ : ∃ g, f = g + 1 := ⟨f - 1, by omega⟩
    have hmx := EngC_mix h.1
    have htb := GT_b h.2.2.1.1.1
    have e7 : ρ 1 7 = A 1 7 := h.2.1.1 7 (by omega)
    have kt : mE_X2_term N (qmix A (pE 0 0 τ)) 7 = some (A 1 7, qmix A (pE 0 0 τ)) := qc_term N (A := A) (κ := pE 0 0 τ) (k := 7) (by omega)
    rw [hmx] at kt
    rw [zIt_s, zIt_s, mT_X7_reads_B27, mR_reads_B31, if_neg (nI_ge (by omega) (by omega)), if_neg (nI_ge (by omega) (by omega))]
    simp only [↓zLet_eq]
    rw [zGet_at (i := 7) 7 rfl (by decide) (by decide), e7]
    generalize x.toInt64 + (nI k).toInt64 * y.toInt64 = v
    have l0 : (0 : Int64).toInt = 0 := by decide
    have hin := pR_in N ρ v 0 ((A 1 7).toInt64 - 1)
    rw [l_m1 (by omega), l0] at hin
    rw [hin, zCall_some]
    have nx := fun (τ1 ρ1 A1 C1 H1 : ST) (t1 : Nat) (ht1 : t1 + 101 * m < 7000000) (h1 : Nw t1 τ1 ρ1 A1 C1 H1) (hr1 : Rs T τ1 ρ1) => ih (k + 1) (f := f) (by omega) (by omega) ht1 h1 hr1
    generalize zIt (mT_X7_reads_B27 N) (fun _ _ _ _ _ _ => none) f = hd1 at *
    generalize zIt (mR_reads_B31 N) (fun _ _ _ _ _ _ => none) f = hd2 at *
    have skip : ∃ v τ' ρ' A' C' H', hd1 τ x y (nI n) had (nI (k + 1)) = some (v, τ') ∧ hd2 ρ x y (nI n) had (nI (k + 1)) = some (v, ρ') ∧ Nw (t + 101 * (m + 1)) τ' ρ' A' C' H' ∧ Rs T τ' ρ' := by
      obtain ⟨w, τ', ρ', A', C', H', q1, q2, q3, q4⟩ := nx τ ρ A C H t (by omega) h hr
      exact ⟨w, τ', ρ', A', C', H', q1, q2, ⟨q3.1, q3.2.1, St_mono q3.2.2 (by omega)⟩, q4⟩
    by_cases c1 : 0 ≤ v.toInt ∧ v.toInt ≤ (A 1 7).toInt - 1
    · obtain ⟨b, hb⟩ : ∃ b : Nat, v.toInt = b := ⟨v.toInt.toNat, by omega⟩
      have hbb : b < 10000 := by omega
      have h32 := l_to32 hbb hb
      have g1 : ¬ lg_cmp v 0 < 0 := fun w => by
        have := (lg_lt0 v 0).mp w
        rw [l0] at this
        omega
      have g2 : ¬ (0 : Int32) ≤ lg_cmp v (A 1 7).toInt64 := fun w => by
        have h3 : v.toInt < (A 1 7).toInt64.toInt := by rw [l_of]; omega
        have h4 := i_lt.mp ((lg_lt0 v (A 1 7).toInt64).mpr h3)
        have h5 := i_le.mp w
        omega
      obtain ⟨kind, ans, κ1, ρ1, s1, s2, s3, s4⟩ := step_take N hN h hr (by omega) hbb (by omega)
      rw [if_pos c1, if_neg n10, if_neg g1, zqE kt, if_neg g2, h32, zCallL_eq s1, s2, zCall_some, mT_X7_reads_78, mR_reads_75, zLet_eq, zLet_eq, nI_1]
      obtain ⟨w, τ', ρ', A', C', H', q1, q2, q3, q4⟩ := nx _ _ _ _ _ (t + 101) (by omega) s3 s4
      exact ⟨w, τ', ρ', A', C', H', q1, q2, ⟨q3.1, q3.2.1, St_mono q3.2.2 (by omega)⟩, q4⟩
    · rw [if_neg c1, if_pos rfl, mR_reads_75, zLet_eq, nI_1]
      by_cases g1 : lg_cmp v 0 < 0
      · rw [if_pos g1, mT_X7_reads_78, zLet_eq, nI_1]
        exact skip
      · have g0 : ¬ v.toInt < 0 := fun w => g1 ((lg_lt0 v 0).mpr (by rw [l0]; exact w))
        have g2 : (0 : Int32) ≤ lg_cmp v (A 1 7).toInt64 := by
          rw [i_le]
          by_cases w : lg_cmp v (A 1 7).toInt64 < 0
          · have := (lg_lt0 v (A 1 7).toInt64).mp w
            rw [l_of] at this
            omega
          · rw [i_lt] at w
            omega
        rw [if_neg g1, zqE kt, if_pos g2, mT_X7_reads_78, zLet_eq, nI_1]
        exact skip
theorem s_reads (N : Nat) (hN : 1300 < N) (κ : Nat) (hκ : κ < 512) : Sm_reads N (II κ) (II (κ + 1)) := by
  intro τ ρ x y z hI
  obtain ⟨⟨A, C, H, n1, n2, n3⟩, hr⟩ := id hI
  have hth := RR_thr n2
  have e1 : (1 : Int32).toInt = 1 := by decide
  have e40 : (40 : Int32).toInt = 40 := by decide
  rw [mT_X7_reads, mR_reads, zLet_eq, zLet_eq, r_in N _ z 1 40 (m := 1) (n := 40) (by decide) (by decide), zCall_some]
  by_cases c1 : 1 ≤ z.toInt ∧ z.toInt ≤ 40
  · obtain ⟨d1, d2⟩ := clamp_toInt (x := z) (by omega)
    generalize z.toNatClampNeg = n at *
    subst d2
    have e11 : zUp ρ 0 0 0 1 11 = A 2 1 := hth.2.1.1 1 11 (by unfold cmap; omega)
    have e2 : τ 2 = A 2 := tau_c n1 (by omega)
    rw [if_pos c1, if_neg n10, if_neg (show ¬ nI n < 1 by rw [i_lt, e1]; omega), if_pos (show nI n ≤ 40 by rw [i_le, e40]; omega), zGet_at (i := 1) 1 rfl (by decide) (by decide), zGet_at (i := 11) 11 rfl (by decide) (by decide), e11, e2]
    have hrs : Rs (4100 * (κ + 1)) τ (zUp ρ 0 0 0) := Rs_k (Rs_mono hr (by omega)) (fun _ _ _ _ _ _ _ _ => rfl) (fun c hc => q_uc (by omega)) (RR_13 hth)
    obtain ⟨v, τ', ρ', A', C', H', q1, q2, q3, q4⟩ := reads_loop N hN x y (A 2 1) n (by omega) n 0 (f := N) (by omega) (by omega) (by omega) ⟨n1, hth, n3⟩ hrs
    exact ⟨v, τ', ρ', q1, q2, ⟨A', C', H', q3.1, q3.2.1, St_mono q3.2.2 (by omega)⟩, q4⟩
  · rw [if_neg c1, if_pos rfl]
    by_cases c2 : z < 1
    · rw [if_pos c2]
      exact ⟨_, _, _, rfl, rfl, II_thr hI⟩
    · rw [if_neg c2, if_neg (show ¬ z ≤ 40 by rw [i_lt, e1] at c2; rw [i_le, e40]; omega)]
      exact ⟨_, _, _, rfl, rfl, II_thr hI⟩
