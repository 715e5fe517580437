/-! until -/
theorem until_loop (N : Nat) {τ ρ A C H F : ST} {q : Bool} (n1 : EngC (pE 0 0 τ) A C H) (h : RR F q ρ A C H) {p : Nat} (hp : p < 6) (hn : ¬ A (12 + p) 0 = -1) (hd : ¬ (A (12 + p) 2).toInt = 0) (hd1 : -200 ≤ (A (12 + p) 2).toInt) (hd2 : (A (12 + p) 2).toInt ≤ 200) (h7 : (A 1 7).toInt ≤ 10000) (x1 : Int32) :
    ∀ (m j r : Nat) (x : Int32), 0 ≤ x.toInt → x.toInt < 10000 → (0 < (A (12 + p) 2).toInt → (r : Int) = 10000 - x.toInt) → ((A (12 + p) 2).toInt < 0 → (r : Int) = x.toInt + 1) → j + r ≤ 10000 → r < m →
    ∃ v, zIt (mT_X7_until_B30 N) (fun _ _ _ _ _ => none) m τ x1 ⟨p, hp⟩ x (nI (j + 1)) = some (v, τ) ∧ zIt (mR_until_B77 N) (fun _ _ _ _ _ _ _ _ => none) m ρ x1 (nI (542 + 12 * p)) x (A (12 + p) 2) (A (12 + p) 3 + nI j) (A (12 + p) 5) (nI j) = some (v, ρ) := by
  have hmx := EngC_mix n1
  have ep : pE 0 0 τ (12 + p) = A (12 + p) := (n1.1 (12 + p) (by omega)).symm
  have kt : mE_X2_term N (qmix A (pE 0 0 τ)) 1 = some (A 1 1, qmix A (pE 0 0 τ)) := qc_term N (A := A) (κ := pE 0 0 τ) (k := 1) (by omega)
  rw [hmx] at kt
  have e5 : nI (542 + 12 * p) + 5 = nI (542 + 12 * p + 5) := nI_add _ 5
  have e7 : nI (542 + 12 * p) + 7 = nI (542 + 12 * p + 7) := nI_add _ 7
  have w5 : ρ 1 (542 + 12 * p + 5) = A (12 + p) 4 := RR_sr h (k := 4) hp hn (by omega)
  have w7 : ρ 1 (542 + 12 * p + 7) = A (12 + p) 6 := RR_sr h (k := 6) hp hn (by omega)
  have t1 : ρ 1 1 = A 1 1 := h.1 1 (by omega)
  have e10 : (10000 : Int32).toInt = 10000 := by decide
  have e0 : (0 : Int32).toInt = 0 := by decide
  intro m
  induction m with
  | zero => intro j r x _ _ _ _ _ hm; omega
  | succ m ih =>
    intro j r x x0 x9 r1 r2 hj hm
    have ht := i_add (a := x) (b := A (12 + p) 2) (by omega) (by omega)
    have hr1 : 1 ≤ r := by omega
    have kh := qc_has N (A := A) (κ := pE 0 0 τ) (x := x + A (12 + p) 2)
    rw [hmx] at kh
    have kb := qc_beyond N (A := A) (κ := pE 0 0 τ) ⟨p, hp⟩ (x + A (12 + p) 2)
    rw [hmx] at kb
    rw [zIt_s, zIt_s]
    have nx : ∀ y : Int32, y = x + A (12 + p) 2 → 0 ≤ y.toInt → y.toInt < 10000 → _ := fun y hy y0 y9 => ih (j + 1) (if 0 < (A (12 + p) 2).toInt then (10000 - y.toInt).toNat else (y.toInt + 1).toNat) y y0 y9 (fun w => by rw [if_pos w]; omega) (fun w => by rw [if_neg (by omega)]; omega) (by subst hy; split <;> omega) (by subst hy; split <;> omega)
    generalize zIt (mT_X7_until_B30 N) (fun _ _ _ _ _ => none) m = hd1 at *
    generalize zIt (mR_until_B77 N) (fun _ _ _ _ _ _ _ _ => none) m = hd2 at *
    have g1 : ¬ (10000 : Int32) < nI (j + 1) := by rw [i_lt, e10, nI_toInt (by omega)]; omega
    rw [mT_X7_until_B30, mR_until_B77, if_neg g1]
    simp only [↓zLet_eq]
    rw [show pE 0 0 τ (12 + (⟨p, hp⟩ : Fin 6).val) = A (12 + p) from ep, zqE kh, r_isBlock N h, zCall_some]
    by_cases cb : 0 ≤ (x + A (12 + p) 2).toInt ∧ (x + A (12 + p) 2).toInt < (A 1 7).toInt
    · rw [if_pos cb, if_neg n10, if_neg n10]
      obtain ⟨v, v1, v2⟩ := nx _ rfl cb.1 (by omega)
      rw [show pE 0 0 τ (12 + (⟨p, hp⟩ : Fin 6).val) = A (12 + p) from ep, e7, zGet_nI (by omega) (by decide), w7, nI_1, Int32.add_assoc, nI_1]
      rw [zqE kt, zqE kb]
      generalize hy : x + A (12 + p) 2 = y at *
      have en : ∀ k : Int32, mR_until_136 N hd2 ρ x1 (nI (542 + 12 * p)) y (A (12 + p) 2) (A (12 + p) 3 + nI (j + 1)) (A (12 + p) 5) (nI (j + 1)) k = if A (12 + p) 4 = 0 then (if A (12 + p) 3 + nI (j + 1) < A 1 1 then some (v, ρ) else some (nI (j + 1), ρ)) else (if k = 0 then some (v, ρ) else some (nI (j + 1), ρ)) := fun k => by
        rw [mR_until_136, zLet_eq, e5, zGet_nI (by omega) (by decide), w5, zGet_at (i := 1) 1 rfl (by decide) (by decide), t1, mR_until_171, mR_until_168, v2]
      have ec : ∀ k : Int32, mT_X7_until_112 N hd1 τ x1 ⟨p, hp⟩ y (nI (j + 1)) k = if k = 0 then some (v, τ) else some (nI (j + 1), τ) := fun k => by
        rw [mT_X7_until_112, zLet_eq, nI_1, v1]
      simp only [mR_until_131, mR_until_135, mT_X7_until_107, en, ec]
      unfold qa_beyond
      by_cases c4 : A (12 + p) 4 = 0
      · simp only [if_pos c4, ite_self]
        by_cases c1 : A (12 + p) 3 + nI (j + 1) < A 1 1
        · rw [if_pos c1, if_pos trivial, if_pos c1]
          exact ⟨v, rfl, rfl⟩
        · rw [if_neg c1, if_neg n10, if_neg c1]
          exact ⟨_, rfl, rfl⟩
      · simp only [if_neg c4, if_neg n10, if_true]
        by_cases c6 : y = A (12 + p) 6
        · rw [if_pos c6, if_pos c6.symm]
          exact ⟨_, rfl, rfl⟩
        · rw [if_neg c6, if_neg (show ¬ A (12 + p) 6 = y from fun w => c6 w.symm)]
          by_cases cd : 0 < (A (12 + p) 2).toInt
          · rw [if_pos (show (0 : Int32) ≤ A (12 + p) 2 by rw [i_le, e0]; omega), if_neg (show ¬ A (12 + p) 2 ≤ 0 by rw [i_le, e0]; omega)]
            by_cases ce : y < A (12 + p) 5
            · have ce' : ¬ A (12 + p) 5 ≤ y := by rw [i_le]; rw [i_lt] at ce; omega
              rw [if_pos ce, if_pos (show decide (¬ A (12 + p) 5 ≤ y) = true from decide_eq_true ce'), if_neg n10]
              exact ⟨v, rfl, rfl⟩
            · have ce' : A (12 + p) 5 ≤ y := by rw [i_le]; rw [i_lt] at ce; omega
              rw [if_neg ce, if_neg (show ¬ decide (¬ A (12 + p) 5 ≤ y) = true from fun w => (of_decide_eq_true w) ce'), if_pos rfl]
              exact ⟨_, rfl, rfl⟩
          · rw [if_neg (show ¬ (0 : Int32) ≤ A (12 + p) 2 by rw [i_le, e0]; omega), if_pos (show A (12 + p) 2 ≤ 0 by rw [i_le, e0]; omega)]
            by_cases ce : A (12 + p) 5 < y
            · have ce' : ¬ y ≤ A (12 + p) 5 := by rw [i_le]; rw [i_lt] at ce; omega
              rw [if_pos ce, if_pos (show decide (¬ y ≤ A (12 + p) 5) = true from decide_eq_true ce'), if_neg n10]
              exact ⟨v, rfl, rfl⟩
            · have ce' : y ≤ A (12 + p) 5 := by rw [i_le]; rw [i_lt] at ce; omega
              rw [if_neg ce, if_neg (show ¬ decide (¬ y ≤ A (12 + p) 5) = true from fun w => (of_decide_eq_true w) ce'), if_pos rfl]
              exact ⟨_, rfl, rfl⟩
    · rw [if_neg cb, if_pos rfl, if_pos rfl]
      exact ⟨_, rfl, rfl⟩
theorem s_until (N : Nat) (hN : 10001 < N) (κ : Nat) : Sm_until N (II κ) (II (κ + 1)) := by
  intro τ ρ x hI
  obtain ⟨⟨A, C, H, n1, n2, n3⟩, hr⟩ := id hI
  have hth := RR_thr n2
  rw [mT_X7_until, mR_until]
  rcases strm N n1 hth x with ⟨p, hp, ex, hn, k1, k2⟩ | ⟨k1, k2⟩
  · have ep : pE 0 0 τ (12 + p) = A (12 + p) := (n1.1 (12 + p) (by omega)).symm
    have hs := n3.1.1.2.2.1 p hp hn
    have htb := GT_b n3.1.1.1
    unfold GSr at hs
    rw [zqQ k1, zLet_eq, k2, zCall_some, if_neg n10]
    subst ex
    dsimp only
    rw [r_streamAt, zCall_some]
    have a3 : nI (542 + 12 * p) + 3 = nI (542 + 12 * p + 3) := nI_add _ 3
    have a2 : nI (542 + 12 * p) + 2 = nI (542 + 12 * p + 2) := nI_add _ 2
    have a4 : nI (542 + 12 * p) + 4 = nI (542 + 12 * p + 4) := nI_add _ 4
    have a6 : nI (542 + 12 * p) + 6 = nI (542 + 12 * p + 6) := nI_add _ 6
    have w2 : zUp ρ 0 0 0 1 (542 + 12 * p + 2) = A (12 + p) 1 := RR_sr hth (k := 1) hp hn (by omega)
    have w3 : zUp ρ 0 0 0 1 (542 + 12 * p + 3) = A (12 + p) 2 := RR_sr hth (k := 2) hp hn (by omega)
    have w4 : zUp ρ 0 0 0 1 (542 + 12 * p + 4) = A (12 + p) 3 := RR_sr hth (k := 3) hp hn (by omega)
    have w6 : zUp ρ 0 0 0 1 (542 + 12 * p + 6) = A (12 + p) 5 := RR_sr hth (k := 5) hp hn (by omega)
    rw [zLet_eq, zLet_eq, zLet_eq, ep, a3, zGet_nI (by omega) (by decide), w3]
    by_cases c2 : A (12 + p) 2 = 0
    · rw [if_pos c2, if_pos c2, mT_X7_until_20, mR_until_27]
      exact ⟨_, _, _, rfl, rfl, II_thr hI⟩
    · rw [if_neg c2, if_neg c2, r_streamAt, zCall_some, zLet_eq, a2, zGet_nI (by omega) (by decide), w2, zLet_eq, a3, zGet_nI (by omega) (by decide), w3, zLet_eq, a4, zGet_nI (by omega) (by decide), w4, zLet_eq, a6, zGet_nI (by omega) (by decide), w6, mT_X7_until_30, mR_until_77]
      have c2' : ¬ (A (12 + p) 2).toInt = 0 := fun w => c2 (i_eq.mpr (by rw [w]; decide))
      obtain ⟨v, v1, v2⟩ := until_loop N n1 hth hp hn c2' hs.2.2.2.2.1 hs.2.2.2.2.2.1 htb.2.2.2.2.2.2.2.2.2.2.2.2.2.2.2.1 (nI p) N 0 (if 0 < (A (12 + p) 2).toInt then (10000 - (A (12 + p) 1).toInt).toNat else ((A (12 + p) 1).toInt + 1).toNat) (A (12 + p) 1) hs.2.2.1 (by omega) (fun w => by rw [if_pos w]; omega) (fun w => by rw [if_neg (by omega)]; omega) (by split <;> omega) (by split <;> omega)
      rw [show nI 0 = (0 : Int32) from rfl, Int32.add_zero] at v2
      exact ⟨v, _, _, v1, v2, II_thr hI⟩
  · rw [zqQ k1, zLet_eq, k2, zCall_some, if_pos rfl]
    exact ⟨_, _, _, rfl, rfl, II_thr hI⟩
