/-! THE REFERENCE: a batch -/
theorem r_isBlock (N : Nat) {F : ST} {q : Bool} {ρ A C H : ST} (h : RR F q ρ A C H) (x : Int32) : mR_isBlock N ρ x = some (if 0 ≤ x.toInt ∧ x.toInt < (A 1 7).toInt then 1 else 0, ρ) := by
  rw [pR_isBlock, h.1 7 (by omega)]
theorem plan_08 {A : ST} {b : Nat} (h0 : 0 ≤ (A 0 8).toInt) (h1 : (A 0 8).toInt < 32) : (qa_plan A b 0 8).toInt = (A 0 8).toInt + 1 := by
  unfold qa_plan
  have e0 : (0 : Int32).toInt = 0 := by decide
  have e1 : (1 : Int32).toInt = 1 := by decide
  have e32 : (32 : Int32).toInt = 32 := by decide
  rw [if_neg (show ¬ A 0 8 < 0 by rw [i_lt, e0]; omega), if_neg (show ¬ 32 ≤ A 0 8 by rw [i_le, e32]; omega), q_ue rfl rfl, i_add (by rw [e1]; omega) (by rw [e1]; omega), e1]
theorem bstep_08 {A C : ST} {t p i : Nat} {x : Int32} (h : Gd A C t) (ht : t < 1073741820) (hx : XOK C x) (hp : p < 6) (h0 : 0 ≤ (A 0 8).toInt) (h1 : (A 0 8).toInt < 32) (hm : qa_may A C (A (12 + p) 5 + A (12 + p) 2) = true) : 0 ≤ ((qa_bstep A C p x i).1 0 8).toInt ∧ ((qa_bstep A C p x i).1 0 8).toInt ≤ (A 0 8).toInt + 1 := by
  obtain ⟨m1, m2, m3⟩ := qa_may_b hm
  have eto : qa_to A p i 0 = A 0 := qa_to_c (by omega)
  unfold qa_bstep
  split
  · dsimp only
    rw [q_un (by omega), eto]
    omega
  · unfold qa_fetch
    dsimp only
    have hg := Gd_to (i := i) h hp m1 m2
    obtain ⟨r1, r2, r3, -⟩ := room_ok hg (by omega) hx
    have e0 : (qa_room (qa_to A p i) C x).1 0 = A 0 := by rw [r3 0 (by omega) (by omega) (by omega) (by omega), eto]
    unfold qa_fetched
    have e08 : zUp (zUp (qa_room (qa_to A p i) C x).1 2 5 ((qa_room (qa_to A p i) C x).1 2 5 + 1)) (12 + p) 8 ((qa_room (qa_to A p i) C x).1 (12 + p) 8 + 1) 0 8 = A 0 8 := by simp -implicitDefEqProofs (disch := first | assumption | omega) only [q_un]; rw [e0]
    rw [plan_08 (by rw [e08]; exact h0) (by rw [e08]; exact h1), e08]
    omega
theorem XIN_b {C : ST} {x : Int32} (h : XIN C x) : x = -1 ∨ ∃ b, b < 10000 ∧ x = nI b := by
  rcases h with h | ⟨b, h1, h2, -, -⟩
  · exact Or.inl h
  · exact Or.inr ⟨b, h1, h2⟩
theorem r_bloop (N : Nat) (hN : 200 < N) {F : ST} {q : Bool} {H : ST} {p : Nat} (hp : p < 6) (x : Int32) (w : Nat) (hw : w ≤ 32) : ∀ (m i : Nat) {n : Nat} {ρ A C : ST} {t : Nat}, i + m = w → m < n → RR F q ρ A C H → Gd A C t → t + 3 * m < 1073741820 → XIN C x → ¬ A (12 + p) 0 = -1 → ¬ A (12 + p) 2 = 0 → (q = true → 0 ≤ (A 0 8).toInt ∧ (A 0 8).toInt + m ≤ 32) →
    ∃ ρ', zIt (mR_batch_B77 N) (fun _ _ _ _ _ => none) n ρ (nI (542 + 12 * p)) x (nI w) (nI i) = some ρ' ∧ RR F q ρ' (qa_bloop p x m i A C).1 (qa_bloop p x m i A C).2 H := by
  intro m
  induction m with
  | zero =>
    intro i n ρ A C t hi hn h g ht hx hnn hs hq
    obtain ⟨n, rfl⟩ : ∃ k, n = k + 1 := ⟨n - 1, by omega⟩
    rw [zIt_s, mR_batch_B77]
    have e : qa_bloop p x 0 i A C = (A, C) := by rw [qa_bloop]
    simp -implicitDefEqProofs (disch := first | assumption | omega) only [zLet_eq, zCall_some, zCallu_some, q_cq, zBool_0, zBool_1, q_gn, q_gl, q_sn, q_sl, q_al, q_la, q_ml, q_lm, q_ue, q_un, q_mA, q_mK, q_uA, q_uK, q_g6, q_rm, q_dv, q_le, if_pos]
    rw [e]
    exact ⟨ρ, rfl, h⟩
  | succ m ih =>
    intro i n ρ A C t hi hn h g ht hx hnn hs hq
    obtain ⟨n, rfl⟩ : ∃ k, n = k + 1 := ⟨n - 1, by omega⟩
    rw [zIt_s, mR_batch_B77, qa_bloop]
    have htb := GT_b g.1.1
    have e6 : ρ 1 (542 + 12 * p + 6) = A (12 + p) 5 := RR_sr h (k := 5) hp hnn (by omega)
    have e3 : ρ 1 (542 + 12 * p + 3) = A (12 + p) 2 := RR_sr h (k := 2) hp hnn (by omega)
    have e7 : ρ 1 (542 + 12 * p + 7) = A (12 + p) 6 := RR_sr h (k := 6) hp hnn (by omega)
    have e0 : ρ 1 0 = A 1 0 := h.1 0 (by omega)
    simp -implicitDefEqProofs (disch := first | assumption | omega) only [zLet_eq, zCall_some, zCallu_some, q_cq, zBool_0, zBool_1, q_gn, q_gl, q_sn, q_sl, q_al, q_la, q_ml, q_lm, q_ue, q_un, q_mA, q_mK, q_uA, q_uK, q_g6, q_rm, q_dv, q_le, if_neg, e6, e3, r_isBlock N h]
    have ih' := fun (ρ1 : ST) (hR : RR F q ρ1 (qa_bstep A C p x i).1 (qa_bstep A C p x i).2 H) (hm : qa_may A C (A (12 + p) 5 + A (12 + p) 2) = true) => by
      obtain ⟨b1, b2, b3, b4, b5, b6, b7⟩ := bstep_ok (i := i) g (by omega) hx hp hnn hs hm
      exact ih (i + 1) (n := n) (ρ := ρ1) (by omega) (by omega) hR b1 (by omega) b2 (by rw [b4 p 0 hp (by omega) (by omega) (by omega) (by omega) (by omega)]; exact hnn) (by rw [b4 p 2 hp (by omega) (by omega) (by omega) (by omega) (by omega)]; exact hs) (fun hqt => by
        obtain ⟨q1, q2⟩ := hq hqt
        have := bstep_08 (i := i) g (by omega) (XIN_ok hx) hp q1 (by omega) hm
        omega)
    generalize zIt (mR_batch_B77 N) (fun _ _ _ _ _ => none) n = hd at *
    generalize hxx : A (12 + p) 5 + A (12 + p) 2 = y at *
    by_cases h1 : 0 ≤ y.toInt ∧ y.toInt < (A 1 7).toInt
    · rw [if_pos h1, if_neg (show ¬ ((1 : Int32) = 0) by decide)]
      obtain ⟨c1, c2⟩ := clamp_toInt h1.1
      generalize hbb : y.toNatClampNeg = b at c1 c2
      have hb : b < 10000 := by omega
      have hy0 : 0 ≤ y := by rw [i_le, show (0 : Int32).toInt = 0 from by decide]; exact h1.1
      have hy7 : y < A 1 7 := by rw [i_lt]; exact h1.2
      subst c2
      have e5 : ρ 5 b = (if 0 ≤ A 26 b then 0 else 1) := (h.2.2.2.2.2.2.1 b hb).2
      have h132 : (C b 0 = 1 ∨ 0 ≤ A 26 b) → ∃ ρ', mR_batch_132 N hd ρ (nI (542 + 12 * p)) x (nI w) (nI i) (nI b) = some ρ' ∧ RR F q ρ' (if qa_may A C (nI b) = true then qa_bloop p x m (i + 1) (qa_bstep A C p x i).1 (qa_bstep A C p x i).2 else (A, C)).1 (if qa_may A C (nI b) = true then qa_bloop p x m (i + 1) (qa_bstep A C p x i).1 (qa_bstep A C p x i).2 else (A, C)).2 H := fun hor => by
        rw [mR_batch_132, r_manyA N (by omega) h g]
        simp -implicitDefEqProofs (disch := first | assumption | omega) only [zLet_eq, zCall_some, zCallu_some, q_cq, zBool_0, zBool_1, q_gn, q_gl, q_sn, q_sl, q_al, q_la, q_ml, q_lm, q_ue, q_un, q_mA, q_mK, q_uA, q_uK, q_g6, q_rm, q_dv, e0, zDiv2]
        by_cases h2 : nI (qah C) < A 1 0 / 2
        · have hm : qa_may A C (nI b) = true := by
            unfold qa_may
            rw [nI_clamp (by omega)]
            rcases hor with w | w
            · simp [hy0, hy7, h2, w]
            · simp [hy0, hy7, h2, w]
          rw [if_pos h2, if_pos hm]
          have hS1 := RR_s h (p := p) (k := 5) hp (by omega) (by omega) (nI b)
          rw [show 543 + 12 * p + 5 = 542 + 12 * p + 6 by omega] at hS1
          have fin : ∀ v : Int32, v = (if i = 0 then nI b else A (12 + p) 6) → ∃ ρ', mR_batch_186 N hd (zUp ρ 1 (542 + 12 * p + 6) (nI b)) (nI (542 + 12 * p)) x (nI w) (nI i) (nI b) (nI (542 + 12 * p + 7)) v = some ρ' ∧ RR F q ρ' (qa_bloop p x m (i + 1) (qa_bstep A C p x i).1 (qa_bstep A C p x i).2).1 (qa_bloop p x m (i + 1) (qa_bstep A C p x i).1 (qa_bstep A C p x i).2).2 H := fun v hv => by
            have hS2 := RR_s hS1 (p := p) (k := 6) hp (by omega) (by omega) v
            rw [show 543 + 12 * p + 6 = 542 + 12 * p + 7 by omega] at hS2
            have eto : zUp (zUp A (12 + p) 5 (nI b)) (12 + p) 6 v = qa_to A p i := by
              unfold qa_to
              rw [hxx]
              by_cases hi0 : i = 0
              · rw [if_pos hi0, hv, if_pos hi0]
              · rw [if_neg hi0, hv, if_neg hi0]
                have := q_self (zUp A (12 + p) 5 (nI b)) (12 + p) 6
                rw [q_un (by omega)] at this
                exact this
            rw [eto] at hS2
            have hgt := Gd_to (i := i) g hp (by rw [hxx]; exact h1.1) (by rw [hxx]; exact h1.2)
            have e17 : ρ 1 17 = A 2 7 := h.2.1.1 7 17 (by unfold cmap; omega)
            rw [mR_batch_186]
            simp -implicitDefEqProofs (disch := first | assumption | omega) only [zLet_eq, zCall_some, zCallu_some, q_cq, zBool_0, zBool_1, q_gn, q_gl, q_sn, q_sl, q_al, q_la, q_ml, q_lm, q_ue, q_un, q_mA, q_mK, q_uA, q_uK, q_g6, q_rm, q_dv]
            rcases r_place N (by omega) hS2 hb with ⟨n1, n2⟩ | ⟨n1, i0, n2, n3, n4, n5⟩
            · rw [n2]
              simp -implicitDefEqProofs (disch := first | assumption | omega) only [zLet_eq, zCall_some, zCallu_some, q_cq, zBool_0, zBool_1, q_gn, q_gl, q_sn, q_sl, q_al, q_la, q_ml, q_lm, q_ue, q_un, q_mA, q_mK, q_uA, q_uK, q_g6, q_rm, q_dv, if_pos]
              obtain ⟨ρ1, f1, f2⟩ := r_fetch N hN hS2 hgt (by omega) (XIN_ok hx) (XIN_b hx) hp (by rw [qa_to_p (by omega) (by omega)]; exact hnn) hb n1 (fun hqt => by
                rw [qa_to_c (by omega)]
                have := hq hqt
                omega)
              have eb : qa_bstep A C p x i = qa_fetch (qa_to A p i) C p b x := by
                unfold qa_bstep
                rw [hxx, nI_clamp (by omega), if_neg n1]
              rw [f1, zCallu_some, mR_batch_229]
              simp -implicitDefEqProofs (disch := first | assumption | omega) only [zLet_eq, zCall_some, zCallu_some, q_cq, zBool_0, zBool_1, q_gn, q_gl, q_sn, q_sl, q_al, q_la, q_ml, q_lm, q_ue, q_un, q_mA, q_mK, q_uA, q_uK, q_g6, q_rm, q_dv]
              exact ih' ρ1 (by rw [eb]; exact f2) hm
            · rw [n5]
              simp -implicitDefEqProofs (disch := first | assumption | omega) only [zLet_eq, zCall_some, zCallu_some, q_cq, zBool_0, zBool_1, q_gn, q_gl, q_sn, q_sl, q_al, q_la, q_ml, q_lm, q_ue, q_un, q_mA, q_mK, q_uA, q_uK, q_g6, q_rm, q_dv, q_m1F, if_neg, if_false]
              have e17' : zUp (zUp ρ 1 (542 + 12 * p + 6) (nI b)) 1 (542 + 12 * p + 7) v 1 17 = A 2 7 := by simp -implicitDefEqProofs (disch := first | assumption | omega) only [q_un]; exact e17
              have hS3 := RR_sh hS2
              have ea7 : qa_to A p i 2 7 = A 2 7 := by rw [qa_to_c (by omega)]
              have eb : qa_bstep A C p x i = (zUp (qa_to A p i) 2 7 (A 2 7 + 1), C) := by
                unfold qa_bstep
                rw [hxx, nI_clamp (by omega), if_pos n1]
              rw [ea7] at hS3
              simp -implicitDefEqProofs (disch := first | assumption | omega) only [zLet_eq, zCall_some, zCallu_some, q_cq, zBool_0, zBool_1, q_gn, q_gl, q_sn, q_sl, q_al, q_la, q_ml, q_lm, q_ue, q_un, q_mA, q_mK, q_uA, q_uK, q_g6, q_rm, q_dv, e17, mR_batch_229]
              refine ih' _ ?_ hm
              rw [eb]
              have eq0 : zUp (zUp ρ 1 (542 + 12 * p + 6) (nI b)) 1 (542 + 12 * p + 7) v 0 15 = ρ 0 15 := by simp -implicitDefEqProofs (disch := first | assumption | omega) only [q_un]
              rw [eq0] at hS3
              exact hS3
          by_cases hi0 : i = 0
          · rw [if_pos (show nI i = 0 by rw [hi0]; rfl)]
            exact fin (nI b) (by rw [if_pos hi0])
          · rw [if_neg (nI_ne0 (by omega) (by omega))]
            simp -implicitDefEqProofs (disch := first | assumption | omega) only [zLet_eq, zCall_some, zCallu_some, q_cq, zBool_0, zBool_1, q_gn, q_gl, q_sn, q_sl, q_al, q_la, q_ml, q_lm, q_ue, q_un, q_mA, q_mK, q_uA, q_uK, q_g6, q_rm, q_dv, e7]
            exact fin (A (12 + p) 6) (by rw [if_neg hi0])
        · have hm : ¬ qa_may A C (nI b) = true := by
            unfold qa_may
            simp [h2]
          rw [if_neg h2, if_neg hm]
          exact ⟨ρ, rfl, h⟩
      simp -implicitDefEqProofs (disch := first | assumption | omega) only [zLet_eq, zCall_some, zCallu_some, q_cq, zBool_0, zBool_1, q_gn, q_gl, q_sn, q_sl, q_al, q_la, q_ml, q_lm, q_ue, q_un, q_mA, q_mK, q_uA, q_uK, q_g6, q_rm, q_dv, e5]
      by_cases h4 : 0 ≤ A 26 b
      · rw [if_pos h4, if_pos rfl]
        exact h132 (Or.inr h4)
      · rw [if_neg h4, if_neg (show ¬ ((1 : Int32) = 0) by decide)]
        rcases r_place N (by omega) h hb with ⟨n1, n2⟩ | ⟨n1, i0, n2, n3, n4, n5⟩
        · rw [n2]
          simp -implicitDefEqProofs (disch := first | assumption | omega) only [zLet_eq, zCall_some, zCallu_some, q_cq, zBool_0, zBool_1, q_gn, q_gl, q_sn, q_sl, q_al, q_la, q_ml, q_lm, q_ue, q_un, q_mA, q_mK, q_uA, q_uK, q_g6, q_rm, q_dv, if_pos]
          have hm : ¬ qa_may A C (nI b) = true := by
            unfold qa_may
            rw [nI_clamp (by omega)]
            simp [h4, n1]
          rw [if_neg hm]
          exact ⟨ρ, rfl, h⟩
        · rw [n5]
          simp -implicitDefEqProofs (disch := first | assumption | omega) only [zLet_eq, zCall_some, zCallu_some, q_cq, zBool_0, zBool_1, q_gn, q_gl, q_sn, q_sl, q_al, q_la, q_ml, q_lm, q_ue, q_un, q_mA, q_mK, q_uA, q_uK, q_g6, q_rm, q_dv, q_m1F, if_neg, if_false]
          exact h132 (Or.inl n1)
    · rw [if_neg h1, if_pos rfl]
      have hm : ¬ qa_may A C y = true := fun w => h1 ⟨(qa_may_b w).1, (qa_may_b w).2.1⟩
      rw [if_neg hm]
      exact ⟨ρ, rfl, h⟩
theorem r_batch (N : Nat) (hN : 200 < N) {F : ST} {q : Bool} {ρ A C H : ST} {t p : Nat} {x : Int32} (h : RR F q ρ A C H) (g : Gd A C t) (ht : t < 20000000) (hx : XIN C x) (hp : p < 6) (hnn : ¬ A (12 + p) 0 = -1) (hs : ¬ A (12 + p) 2 = 0) (hq : q = true → A 0 8 = 0) :
    ∃ ρ', mR_batch N ρ (nI (542 + 12 * p)) x = some ρ' ∧ RR F q ρ' (qa_batch A C p x).1 (qa_batch A C p x).2 H := by
  have htb := GT_b g.1.1
  have hw := g.1.2.2.1 p hp hnn
  obtain ⟨c1, c2⟩ := clamp_toInt hw.2.2.2.2.2.2.2.2.1
  have hw2 := hw.2.2.2.2.2.2.2.2.2.1
  have e19 : ρ 1 19 = A 2 9 := h.2.1.1 9 19 (by unfold cmap; omega)
  have e16 : ρ 1 16 = A 2 6 := h.2.1.1 6 16 (by unfold cmap; omega)
  have e15 : ρ 1 15 = A 2 5 := h.2.1.1 5 15 (by unfold cmap; omega)
  have e18 : ρ 1 18 = A 2 8 := h.2.1.1 8 18 (by unfold cmap; omega)
  have e5 : ρ 1 5 = A 1 5 := h.1 5 (by omega)
  have es5 : ρ 1 (542 + 12 * p + 5) = A (12 + p) 4 := RR_sr h (k := 4) hp hnn (by omega)
  have h1 := RR_n h (k := 9) (i := 19) (by unfold cmap; omega) (by omega) (by omega) (A 2 9 + 1)
  have h2 := RR_s h1 (p := p) (k := 6) hp (by omega) (by omega) (-1)
  rw [show 543 + 12 * p + 6 = 542 + 12 * p + 7 by omega, q_comm (σ := A) (c := 2) (k := 9) (d := 12 + p) (j := 6) (by omega), show zUp (zUp A (12 + p) 6 (-1)) 2 9 (A 2 9 + 1) = qa_bat0 A p from rfl] at h2
  have g0 : Gd (qa_bat0 A p) C t := by
    unfold qa_bat0
    exact Gd_o (Gd_o g (by omega)) (by omega)
  rw [mR_batch]
  simp -implicitDefEqProofs (disch := first | assumption | omega) only [zLet_eq, zCall_some, zCallu_some, q_cq, zBool_0, zBool_1, q_gn, q_gl, q_sn, q_sl, q_al, q_la, q_ml, q_lm, q_ue, q_un, q_mA, q_mK, q_uA, q_uK, q_g6, q_rm, q_dv, e19, e16, e15, e5]
  have hf := g.1.2.1 5 (by omega)
  have hwst := g.1.2.1 6 (by omega)
  have i100 : (100 : Int32).toInt = 100 := by decide
  have l100 : (100 : Int64).toInt = 100 := by decide
  have b1 : 0 ≤ (A 1 5).toInt * (A 2 5).toInt := Int.mul_nonneg (by omega) (by omega)
  have b2 : (A 1 5).toInt * (A 2 5).toInt ≤ 100 * 20000000 := Int.mul_le_mul (by omega) (by omega) (by omega) (by omega)
  have iff1 : (A 2 6 * 100 ≤ A 1 5 * A 2 5) ↔ (A 2 6).toInt * 100 ≤ (A 1 5).toInt * (A 2 5).toInt := by
    rw [i_le, i_mul (by rw [i100]; omega) (by rw [i100]; omega), i_mul (by omega) (by omega), i100]
  have lm1 : ((100 : Int64) * (A 2 6).toInt64).toInt = 100 * (A 2 6).toInt := by
    rw [l_mul (by rw [l100, l_of]; omega) (by rw [l100, l_of]; omega), l100, l_of]
  have lm2 : ((A 1 5).toInt64 * (A 2 5).toInt64).toInt = (A 1 5).toInt * (A 2 5).toInt := by
    rw [l_mul (by rw [l_of, l_of]; omega) (by rw [l_of, l_of]; omega), l_of, l_of]
  have iff2 : (lg_cmp ((100 : Int64) * (A 2 6).toInt64) ((A 1 5).toInt64 * (A 2 5).toInt64) ≤ 0) ↔ (A 2 6).toInt * 100 ≤ (A 1 5).toInt * (A 2 5).toInt := by
    have := lg_gt0 ((100 : Int64) * (A 2 6).toInt64) ((A 1 5).toInt64 * (A 2 5).toInt64)
    rw [lm1, lm2] at this
    rw [i_le]
    rw [i_lt] at this
    omega
  unfold qa_batch
  by_cases hh : A 2 6 * 100 ≤ A 1 5 * A 2 5
  · rw [if_pos (iff2.mpr (iff1.mp hh)), if_pos hh]
    have key := r_bloop N hN hp x (A (12 + p) 4).toNatClampNeg (by omega) (A (12 + p) 4).toNatClampNeg 0 (n := N) (by omega) (by omega) h2 g0 (by omega) hx (by unfold qa_bat0; simp -implicitDefEqProofs (disch := first | assumption | omega) only [q_un]; exact hnn) (by unfold qa_bat0; simp -implicitDefEqProofs (disch := first | assumption | omega) only [q_un]; exact hs) (fun hqt => by
      unfold qa_bat0
      simp -implicitDefEqProofs (disch := first | assumption | omega) only [q_un]
      rw [hq hqt, show (0 : Int32).toInt = 0 from by decide]
      omega)
    rw [← c2] at key
    simp -implicitDefEqProofs (disch := first | assumption | omega) only [zLet_eq, zCall_some, zCallu_some, q_cq, zBool_0, zBool_1, q_gn, q_gl, q_sn, q_sl, q_al, q_la, q_ml, q_lm, q_ue, q_un, q_mA, q_mK, q_uA, q_uK, q_g6, q_rm, q_dv, es5]
    exact key
  · rw [if_neg (fun w => hh (iff1.mpr (iff2.mp w))), if_neg hh]
    simp -implicitDefEqProofs (disch := first | assumption | omega) only [zLet_eq, zCall_some, zCallu_some, q_cq, zBool_0, zBool_1, q_gn, q_gl, q_sn, q_sl, q_al, q_la, q_ml, q_lm, q_ue, q_un, q_mA, q_mK, q_uA, q_uK, q_g6, q_rm, q_dv, e18]
    exact ⟨_, rfl, RR_n h2 (k := 8) (i := 18) (by unfold cmap; omega) (by omega) (by omega) (A 2 8 + 1)⟩
