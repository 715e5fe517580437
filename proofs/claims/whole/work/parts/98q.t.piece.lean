/-! piece: both -/
theorem s_piece (N : Nat) (hN : 500 < N) (κ : Nat) : Sm_piece N (II κ) (II (κ + 1)) := by
  intro τ ρ x1 x2 hI
  obtain ⟨⟨A, C, H, n1, n2, n3⟩, hr⟩ := id hI
  have hmx := EngC_mix n1
  have hth := RR_thr n2
  have hu := RU_of n1
  obtain ⟨l, l1, l2, l3⟩ := hth.2.2.2.2.1
  have e22 : zUp ρ 0 0 0 1 22 = nI l := by rw [hth.2.1.2.2.1, l2]
  have em : (-1 : Int32).toInt = -1 := by decide
  have e0 : (0 : Int32).toInt = 0 := by decide
  have e1 : (1 : Int32).toInt = 1 := by decide
  have hin := r_in N (zUp ρ 0 0 0) x2 0 1 (m := 0) (n := 1) (by decide) (by decide)
  suffices hv : ∃ v, mT_X7_piece N τ x1 x2 = some (v, τ) ∧ mR_piece N ρ x1 x2 = some (v, zUp ρ 0 0 0) by
    obtain ⟨v, v1, v2⟩ := hv
    exact ⟨v, _, _, v1, v2, II_thr hI⟩
  rw [mT_X7_piece, mR_piece, zLet_eq, zLet_eq, hin, zCall_some]
  generalize zUp ρ 0 0 0 = ρ0 at *
  by_cases c2 : x2 = 0 ∨ x2 = 1
  · have c2' : 0 ≤ x2.toInt ∧ x2.toInt ≤ 1 := by
      rcases c2 with w | w
      · rw [w, e0]; omega
      · rw [w, e1]; omega
    have ec : (if x2 = 0 then mT_X7_piece_11 N τ x1 x2 else if x2 = 1 then mT_X7_piece_11 N τ x1 x2 else some (-1, τ)) = mT_X7_piece_11 N τ x1 x2 := by
      by_cases w : x2 = 0
      · rw [if_pos w]
      · rw [if_neg w, if_pos (c2.resolve_left w)]
    have hP : ∀ v, RP H l x1 x2 v → mT_X7_piece_11 N τ x1 x2 = some (v, τ) := fun v hv => by
      rw [mT_X7_piece_11, zqU (u_pieces N (by omega) hu l1 l2), zqU (u_longest N (by omega) hu l1 l2)]
      rcases hv with ⟨s, i, a1, a2, a3, a4, a5, a6, a7, a8⟩ | ⟨a1, a2⟩
      · have nm : ¬ x1 = -1 := fun w => by
          have hq : qcnt (qu_st H) s ≤ s := qcnt_le _ _
          have := i_eq.mp (w.symm.trans a6)
          rw [em, nI_toInt (by omega)] at this
          omega
        have kb := qc_blockAt N (A := A) (κ := pE 0 0 τ) n1.2.2.2 (u_lt l1 l2 (show s < l by omega)) (by omega)
        rw [hmx] at kb
        have nn : ¬ nI s = -1 := fun w => by
          have := i_eq.mp w
          rw [em, nI_toInt (by omega)] at this
          omega
        rw [if_neg nm, zqU (u_start N (by omega) hu l1 l2 x1 (s := s) (by omega) a7 (fun _ => ⟨a3, a6⟩)), if_pos (show s < l by omega), if_neg nn, zqU (u_plen N (by omega) hu l1 l2 a1 a2 a4 a5), zqE kb, mT_X7_piece_80, mT_X7_piece_80, a8]
        by_cases w : x2 = 0
        · rw [if_pos w, if_pos w]
        · rw [if_neg w, if_neg w]
      · rw [zqU (u_start N (by omega) hu l1 l2 x1 (s := l) (by omega) a1 (fun w => by omega)), if_neg (show ¬ l < l by omega), if_pos rfl, mT_X7_piece_37, mT_X7_piece_37, a2]
        by_cases w1 : x1 = -1
        · rw [if_pos w1, if_pos w1]
          by_cases w : x2 = 0
          · rw [if_pos w, if_pos w]
          · rw [if_neg w, if_neg w]
        · rw [if_neg w1, if_neg w1]
    rw [ec, if_pos c2', if_neg n10, mR_piece_33]
    by_cases c1 : x1 < -1
    · rw [if_pos c1, mR_piece_20]
      rw [i_lt, em] at c1
      refine ⟨-1, hP _ (Or.inr ⟨fun j hj _ w => ?_, ?_⟩), rfl⟩
      · have hq : qcnt (qu_st H) j ≤ j := qcnt_le _ _
        rw [w, nI_toInt (by omega)] at c1
        omega
      · rw [if_neg (fun w => by rw [w, em] at c1; omega)]
    · rw [if_neg c1]
      by_cases lz : l = 0
      · subst lz
        obtain ⟨g, rfl⟩ : ∃ g, N = g + 1 := ⟨N - 1, by omega⟩
        have := r_piece_end (g + 1) l1 e22 x1 x2 0 0 0 (zIt (mR_piece_B33 (g + 1)) (fun _ _ _ _ _ _ _ => none) g)
        rw [zIt_s]
        exact ⟨_, hP _ (Or.inr ⟨fun j hj => by omega, rfl⟩), this⟩
      · have s0 : qu_st H 0 = true := rfl
        obtain ⟨v, v1, v2⟩ := r_piece_loop N l1 e22 l3 x1 x2 N 1 0 0 (by omega) (by omega) (by omega) s0 (fun j _ _ => by omega) (fun j hj => by omega) (by rw [qcnt_s, if_pos s0]) (by rw [qu_lr, if_pos s0]; rfl) (by omega)
        exact ⟨v, hP v v2, v1⟩
  · have g0 : ¬ x2 = 0 := fun w => c2 (Or.inl w)
    have g1 : ¬ x2 = 1 := fun w => c2 (Or.inr w)
    have c2' : ¬ (0 ≤ x2.toInt ∧ x2.toInt ≤ 1) := fun w => by
      have h0 : ¬ x2.toInt = 0 := fun z => g0 (i_eq.mpr (by rw [z, e0]))
      have h1 : ¬ x2.toInt = 1 := fun z => g1 (i_eq.mpr (by rw [z, e1]))
      omega
    rw [if_neg g0, if_neg g1, if_neg c2', if_pos rfl, mR_piece_20, ite_self]
    exact ⟨_, rfl, rfl⟩
