/-! replay -/
theorem i_ne1 {x : Int32} (h : 0 ≤ x.toInt) : ¬ x = -1 := fun w => by
  rw [w] at h
  exact absurd h (by decide)
theorem cnt_ne {A C H : ST} {t : Nat} (h : St t A C H) {w : Int32} (hw : 0 ≤ w.toInt ∧ w.toInt ≤ 33) : ¬ qv_count A C H w = -1 := by
  have htb := GT_b h.1.1.1
  have b1 : qin C ≤ 10000 := qcnt_le _ _
  have b2 : qah C ≤ 10000 := qcnt_le _ _
  have b3 : qv_str A 0 ≤ 6 := qcnt_le _ _
  have b4 : qv_str A 1 ≤ 6 := qcnt_le _ _
  have b5 : qv_bad A ≤ (A 1 7).toNatClampNeg := qcnt_le _ _
  have b6 := clamp_toInt (x := A 1 7) (by omega)
  obtain ⟨l, l1, l2, -⟩ := h.2.1
  obtain ⟨m, m1, m2⟩ := h.1.1.2.2.2.2
  unfold qv_count
  split
  · exact q_m1 (by omega)
  · split
    · exact q_m1 (by omega)
    · split
      · exact q_m1 (by omega)
      · split
        · exact q_m1 (by omega)
        · split
          · exact i_ne1 h.1.2.1.1.1
          · split
            · rw [l2]; exact q_m1 (by omega)
            · split
              · exact q_m1 (by omega)
              · split
                · rw [m2]; exact q_m1 (by omega)
                · split
                  · rename_i w20
                    obtain ⟨d1, d2⟩ := clamp_toInt (x := w) (by omega)
                    have hk : w.toNatClampNeg - 20 < 10 := by omega
                    refine i_ne1 ?_
                    have := h.1.1.1 (w.toNatClampNeg - 20) hk
                    obtain ⟨lo, hi, f1, f2, f3, f4⟩ := lh_tab hk
                    rw [f1, nI_toInt (by omega)] at this
                    omega
                  · obtain ⟨d1, d2⟩ := clamp_toInt (x := w) (by omega)
                    exact i_ne1 (h.2.2.2.1 w.toNatClampNeg (by omega)).1
theorem cnt_out {A C H : ST} {w : Int32} (hw : ¬ (0 ≤ w.toInt ∧ w.toInt ≤ 33)) : qv_count A C H w = -1 := by
  have e : ∀ k : Nat, k ≤ 33 → ¬ w = nI k := fun k hk z => by
    rw [z, nI_toInt (by omega)] at hw
    omega
  unfold qv_count
  rw [if_neg (show ¬ w = 10 from e 10 (by omega)), if_neg (show ¬ w = 11 from e 11 (by omega)), if_neg (show ¬ w = 12 from e 12 (by omega)), if_neg (show ¬ w = 13 from e 13 (by omega)), if_neg (show ¬ w = 15 from e 15 (by omega)), if_neg (show ¬ w = 16 from e 16 (by omega)), if_neg (show ¬ w = 18 from e 18 (by omega)), if_neg (show ¬ w = 31 from e 31 (by omega)), if_neg (by omega), if_neg (by omega)]
theorem s_replay (N : Nat) (hN : 10000 < N) (κ : Nat) : Sm_replay N (II κ) (II (κ + 1)) := by
  intro τ ρ x1 x2 x3 hI
  obtain ⟨⟨A, C, H, n1, n2, n3⟩, hr⟩ := id hI
  have hN2 : 2000 < N := by omega
  have hmx := EngC_mix n1
  have hth := RR_thr n2
  have e0 : (0 : Int32).toInt = 0 := by decide
  have e34 : (34 : Int32).toInt = 34 := by decide
  have ht1 : ∀ k, k < 10 → zUp ρ 0 0 0 9 k = lowF k ∧ zUp ρ 0 0 0 10 k = highF k := fun k hk => by rw [q_uc (by omega), q_uc (by omega)]; exact hr.2.2.1 k hk
  have hit := e_isTerm N (pE 0 0 τ) x1 x2
  have hri := r_isTerm N ht1 x1 x2
  have hte := r_tells N hN hth n3.1 x3
  have e7 : zUp ρ 0 0 0 1 7 = A 1 7 := hth.1 7 (by omega)
  have kt7 : mE_X2_term N (pE 0 0 τ) 7 = some (A 1 7, pE 0 0 τ) := by
    have := e_term N (pE 0 0 τ) (k := 7) (by omega)
    rw [← n1.1 1 (by omega)] at this
    exact this
  have hcan : mR_canReplay N (zUp ρ 0 0 0) x1 x2 = some (if isT x1 x2 ∧ (x1 = 7 → x2 = A 1 7) then 1 else 0, zUp ρ 0 0 0) := by
    rw [mR_canReplay, hri, zCall_some]
    by_cases c : isT x1 x2
    · rw [if_pos c, if_neg n10, zGet_at (i := 7) 7 rfl (by decide) (by decide), e7, mR_canReplay_26, mR_canReplay_30, mR_canReplay_31, mR_canReplay_31, zBool_0, zBool_1]
      by_cases c7 : x1 = 7
      · rw [if_pos c7]
        by_cases g : x2 = A 1 7
        · rw [if_pos g, if_pos ⟨c, fun _ => g⟩]
        · rw [if_neg g, if_neg (fun w => g (w.2 c7))]
      · rw [if_neg c7, if_pos ⟨c, fun w => absurd w c7⟩]
    · rw [if_neg c, if_pos rfl, if_neg (fun w => c w.1), mR_canReplay_30, mR_canReplay_31, zBool_0]
  by_cases c : (isT x1 x2 ∧ (x1 = 7 → x2 = A 1 7)) ∧ (0 ≤ x3.toInt ∧ x3.toInt ≤ 33)
  · obtain ⟨⟨c1, c7⟩, c3⟩ := c
    obtain ⟨d1, d2⟩ := clamp_toInt c1.1.1
    have ha : x1.toNatClampNeg < 10 := by omega
    obtain ⟨l, ρ1, ρ2, q1, q2, q3, q4, q5, q6, q7⟩ := th_start N hN2 n1 n3 hr (Kt_r τ) (fun _ _ _ => rfl) hth
    have c1' : isT (nI x1.toNatClampNeg) x2 := by rw [← d2]; exact c1
    obtain ⟨τ', ρ', A', C', H', p1, p2, p3, p4, p5, p6, p7, p8⟩ := p_replay N hN2 q3 (Tr_up q4 x1.toNatClampNeg x2) (a := x1.toNatClampNeg) (b := x1.toNatClampNeg) ha ha c1' c1' (by
      by_cases g : 7 = x1.toNatClampNeg
      · rw [if_pos g]
        exact c7 (by rw [d2, ← g]; rfl)
      · rw [if_neg g, if_neg g]) (fun k hk => by
      by_cases g1 : k = x1.toNatClampNeg
      · rw [if_pos g1, g1, q_ue rfl rfl]
      · rw [if_neg g1, if_neg g1, q_un (by omega), q5 k hk])
    rw [← d2] at p1
    obtain ⟨ρ3, z1, z2⟩ := th_end N hN2 hI (Kt_r τ) p4 q6 q7 (fun c w0 _ _ => q_uc w0)
    have kc := qc_counted N hN p3.1.2 p3.2.2.1 x3
    rw [EngC_mix p3.1] at kc
    have rt := r_tells N hN p3.2.1 p3.2.2.1 x3
    have h43 : ∀ σ : ST, σ = τ → mT_X7_replay_43 N σ x1 x2 x3 = some (qv_count A' C' H' x3, τ') := fun σ hσ => by
      rw [hσ, mT_X7_replay_43, p1, zCallu_some, zCallL_eq kc, iE_pE (by omega)]
    refine ⟨qv_count A' C' H' x3, τ', ρ3, ?_, ?_, z2⟩
    · rw [mT_X7_replay, zqE hit, if_pos c1, if_neg n10, if_neg (by rw [i_lt, e0]; omega), if_pos (by rw [i_lt, e34]; omega), zqE kt7, h43 τ rfl]
      by_cases g7 : x1 = 7
      · rw [if_pos g7, if_pos (c7 g7)]
      · rw [if_neg g7]
    · rw [mR_replay, zLet_eq, hcan, zCall_some, if_pos (show isT x1 x2 ∧ (x1 = 7 → x2 = A 1 7) from ⟨c1, c7⟩), if_neg n10, hte, zCall_some, if_neg (cnt_ne n3 c3), q1, zCallu_some, q2, zCallu_some, zSet_at x1.toNatClampNeg d2 (by omega) (by omega), p2, zCallu_some, rt, zCall_some, z1, zCallu_some]
  · refine ⟨-2147483648, τ, zUp ρ 0 0 0, ?_, ?_, II_thr hI⟩
    · rw [mT_X7_replay, zqE hit, mT_X7_replay_18]
      by_cases g1 : isT x1 x2
      · rw [if_pos g1, if_neg n10]
        by_cases g2 : x3 < 0
        · rw [if_pos g2]
        · rw [if_neg g2]
          by_cases g3 : x3 < 34
          · rw [if_pos g3, zqE kt7]
            rw [i_lt, e0] at g2
            rw [i_lt, e34] at g3
            have g4 : ¬ (x1 = 7 → x2 = A 1 7) := fun w => c ⟨⟨g1, w⟩, by omega⟩
            have g7 : x1 = 7 := by
              apply Classical.byContradiction
              intro w
              exact g4 (fun z => absurd z w)
            rw [if_pos g7, if_neg (fun w => g4 (fun _ => w))]
          · rw [if_neg g3]
      · rw [if_neg g1, if_pos rfl]
    · rw [mR_replay, zLet_eq, hcan, zCall_some]
      by_cases g1 : isT x1 x2 ∧ (x1 = 7 → x2 = A 1 7)
      · rw [if_pos g1, if_neg n10, hte, zCall_some, if_pos (cnt_out (fun w => c ⟨g1, w⟩)), mR_replay_23]
      · rw [if_neg g1, if_pos rfl, mR_replay_23]
