/-! count, stream, ahead, cached -/
theorem r_tells (N : Nat) (hN : 10000 < N) {F : ST} {q : Bool} {ρ A C H : ST} {t : Nat} (h : RR F q ρ A C H) (g : Gd A C t) (w : Int32) : mR_tells N ρ w = some (qv_count A C H w, ρ) := by
  have htb := GT_b g.1.1
  have cm : ∀ k i, cmap k i → ρ 1 i = A 2 k := h.2.1.1
  have rd : ∀ i : Nat, i < 29 → ∀ v : Int32, ρ 1 i = v → ∀ k0 : Int32 → Option (Int32 × ST), zGet (ρ 1) 1974 (nI i) k0 = k0 v := fun i hi v hv k0 => by rw [zGet_nI (by omega) (by decide), hv]
  have vw : ∀ m : Nat, m ≤ 33 → m ≠ 10 → m ≠ 11 → m ≠ 12 → m ≠ 13 → m ≠ 15 → m ≠ 16 → m ≠ 18 → m ≠ 31 → ¬ (20 ≤ m ∧ m ≤ 29) → qv_count A C H (nI m) = A 2 m := fun m h0 h1 h2 h3 h4 h5 h6 h7 h8 h9 => by
    have ne : ∀ k : Nat, k < 40 → m ≠ k → ¬ nI m = nI k := fun k hk hne z => hne (nI_inj (by omega) (by omega) z)
    unfold qv_count
    rw [if_neg (show ¬ nI m = 10 from ne 10 (by omega) h1), if_neg (show ¬ nI m = 11 from ne 11 (by omega) h2), if_neg (show ¬ nI m = 12 from ne 12 (by omega) h3), if_neg (show ¬ nI m = 13 from ne 13 (by omega) h4), if_neg (show ¬ nI m = 15 from ne 15 (by omega) h5), if_neg (show ¬ nI m = 16 from ne 16 (by omega) h6), if_neg (show ¬ nI m = 18 from ne 18 (by omega) h7), if_neg (show ¬ nI m = 31 from ne 31 (by omega) h8), nI_toInt (by omega), nI_clamp (by omega), if_neg (by omega), if_pos (by omega)]
  rw [mR_tells]
  by_cases w10 : w = 10
  · rw [if_pos w10, r_many N (by omega) h, zCall_some, w10]; rfl
  · rw [if_neg w10]
    by_cases w11 : w = 11
    · rw [if_pos w11, r_manyA N (by omega) h g, zCall_some, w11]; rfl
    · rw [if_neg w11]
      by_cases w12 : w = 12
      · rw [if_pos w12, r_streams N (by omega) h g 0 (Or.inl rfl), zCall_some, w12]; rfl
      · rw [if_neg w12]
        by_cases w13 : w = 13
        · rw [if_pos w13, r_streams N (by omega) h g 1 (Or.inr rfl), zCall_some, w13]; rfl
        · rw [if_neg w13]
          by_cases w14 : w = 14
          · rw [if_pos w14, show (20 : Int32) = nI 20 from rfl, rd 20 (by omega) _ (cm 14 20 (by unfold cmap; omega)), w14, show (14 : Int32) = nI 14 from rfl, vw 14 (by omega) (by omega) (by omega) (by omega) (by omega) (by omega) (by omega) (by omega) (by omega) (by omega)]
          · rw [if_neg w14]
            by_cases w15 : w = 15
            · rw [if_pos w15, show (21 : Int32) = nI 21 from rfl, rd 21 (by omega) _ h.2.1.2.1, w15]; rfl
            · rw [if_neg w15]
              by_cases w16 : w = 16
              · rw [if_pos w16, show (22 : Int32) = nI 22 from rfl, rd 22 (by omega) _ h.2.1.2.2.1, w16]; rfl
              · rw [if_neg w16]
                by_cases w17 : w = 17
                · rw [if_pos w17, show (23 : Int32) = nI 23 from rfl, rd 23 (by omega) _ (cm 17 23 (by unfold cmap; omega)), w17, show (17 : Int32) = nI 17 from rfl, vw 17 (by omega) (by omega) (by omega) (by omega) (by omega) (by omega) (by omega) (by omega) (by omega) (by omega)]
                · rw [if_neg w17]
                  by_cases w18 : w = 18
                  · obtain ⟨c1, c2⟩ := clamp_toInt (x := A 1 7) (by omega)
                    rw [if_pos w18, r_badB N hN h (s := (A 1 7).toNatClampNeg) (by omega) c2, zCall_some, w18]; rfl
                  · rw [if_neg w18]
                    by_cases w19 : w = 19
                    · rw [if_pos w19, show (24 : Int32) = nI 24 from rfl, rd 24 (by omega) _ (cm 19 24 (by unfold cmap; omega)), w19, show (19 : Int32) = nI 19 from rfl, vw 19 (by omega) (by omega) (by omega) (by omega) (by omega) (by omega) (by omega) (by omega) (by omega) (by omega)]
                    · rw [if_neg w19]
                      by_cases w30 : w = 30
                      · rw [if_pos w30, show (25 : Int32) = nI 25 from rfl, rd 25 (by omega) _ (cm 30 25 (by unfold cmap; omega)), w30, show (30 : Int32) = nI 30 from rfl, vw 30 (by omega) (by omega) (by omega) (by omega) (by omega) (by omega) (by omega) (by omega) (by omega) (by omega)]
                      · rw [if_neg w30]
                        by_cases w31 : w = 31
                        · rw [if_pos w31, show (26 : Int32) = nI 26 from rfl, rd 26 (by omega) _ h.2.1.2.2.2, w31]; rfl
                        · rw [if_neg w31]
                          by_cases w32 : w = 32
                          · rw [if_pos w32, show (27 : Int32) = nI 27 from rfl, rd 27 (by omega) _ (cm 32 27 (by unfold cmap; omega)), w32, show (32 : Int32) = nI 32 from rfl, vw 32 (by omega) (by omega) (by omega) (by omega) (by omega) (by omega) (by omega) (by omega) (by omega) (by omega)]
                          · rw [if_neg w32]
                            by_cases w33 : w = 33
                            · rw [if_pos w33, show (28 : Int32) = nI 28 from rfl, rd 28 (by omega) _ (cm 33 28 (by unfold cmap; omega)), w33, show (33 : Int32) = nI 33 from rfl, vw 33 (by omega) (by omega) (by omega) (by omega) (by omega) (by omega) (by omega) (by omega) (by omega) (by omega)]
                            · rw [if_neg w33, zLet_eq, r_in N _ w 0 9 (m := 0) (n := 9) (by decide) (by decide), zCall_some]
                              by_cases c1 : 0 ≤ w.toInt ∧ w.toInt ≤ 9
                              · rw [if_pos c1, if_neg n10]
                                obtain ⟨d1, d2⟩ := clamp_toInt c1.1
                                generalize w.toNatClampNeg = j at *
                                subst d2
                                rw [zLet_eq, show (10 : Int32) + nI j = nI (10 + j) from nI_add 10 j, rd (10 + j) (by omega) _ (cm j (10 + j) (by unfold cmap; omega)), vw j (by omega) (by omega) (by omega) (by omega) (by omega) (by omega) (by omega) (by omega) (by omega) (by omega)]
                                rfl
                              · rw [if_neg c1, if_pos rfl, zLet_eq, r_in N _ w 20 29 (m := 20) (n := 29) (by decide) (by decide), zCall_some]
                                unfold qv_count
                                rw [if_neg w10, if_neg w11, if_neg w12, if_neg w13, if_neg w15, if_neg w16, if_neg w18, if_neg w31]
                                by_cases c2 : 20 ≤ w.toInt ∧ w.toInt ≤ 29
                                · rw [if_pos c2, if_neg n10, if_pos c2]
                                  obtain ⟨d1, d2⟩ := clamp_toInt (x := w) (by omega)
                                  generalize w.toNatClampNeg = j at *
                                  subst d2
                                  rw [zLet_eq, show nI j - 20 = nI (j - 20) from pk_sub (a := j) (b := 20) (by omega), rd (j - 20) (by omega) _ (h.1 (j - 20) (by omega))]
                                  rfl
                                · have ne : ∀ k : Nat, k < 40 → ¬ w = nI k → w.toInt ≠ k := fun k hk hne z => hne (i_eq.mpr (by rw [z, nI_toInt (by omega)]))
                                  have f10 := ne 10 (by omega) w10
                                  have f11 := ne 11 (by omega) w11
                                  have f12 := ne 12 (by omega) w12
                                  have f13 := ne 13 (by omega) w13
                                  have f14 := ne 14 (by omega) w14
                                  have f15 := ne 15 (by omega) w15
                                  have f16 := ne 16 (by omega) w16
                                  have f17 := ne 17 (by omega) w17
                                  have f18 := ne 18 (by omega) w18
                                  have f19 := ne 19 (by omega) w19
                                  have f30 := ne 30 (by omega) w30
                                  have f31 := ne 31 (by omega) w31
                                  have f32 := ne 32 (by omega) w32
                                  have f33 := ne 33 (by omega) w33
                                  rw [if_neg c2, if_pos rfl, if_neg c2, if_neg (show ¬ (0 ≤ w.toInt ∧ w.toInt ≤ 33) by omega)]
                                  rfl
theorem s_count (N : Nat) (hN : 10000 < N) (κ : Nat) : Sm_count N (II κ) (II (κ + 1)) := by
  intro τ ρ w hI
  obtain ⟨⟨A, C, H, n1, n2, n3⟩, hr⟩ := id hI
  have hmx := EngC_mix n1
  have k := qc_counted N hN n1.2 n3.1 w
  rw [hmx] at k
  refine ⟨qv_count A C H w, τ, zUp ρ 0 0 0, ?_, ?_, II_thr hI⟩
  · rw [mT_X7_count, zqE k]
  · rw [mR_count, zLet_eq, r_tells N hN (RR_thr n2) n3.1, zCall_some]
/-- of so many slots or places -/
def qv_for (C : ST) (num : Int32) : Nat := qcnt (fun b => decide (C b 0 = 1) && (decide (C b 5 = 1) && decide (C b 3 = num))) 10000
theorem qc_waitFor (N : Nat) (hN : 64 < N) {A κ C : ST} (h : RKc κ C) (num : Int32) : mE_X0_waitingFor N (qmix A κ) num = some (nI (qv_for C num), qmix A κ) := by
  obtain ⟨e9, e8, n, hn, e7, hR⟩ := h
  have e := RKs_cnt hR hn (fun b => decide (C b 5 = 1) && decide (C b 3 = num))
  unfold qv_for
  rw [← e]
  have key : ∀ m j : Nat, j ≤ n → n - j < m → zIt (mE_X0_waitingFor_B4 N) (fun _ _ _ _ => none) m (qmix A κ) num (nI (qcnt (fun s => decide (C (κ 4 s).toNatClampNeg 5 = 1) && decide (C (κ 4 s).toNatClampNeg 3 = num)) j)) (nI j) = some (nI (qcnt (fun s => decide (C (κ 4 s).toNatClampNeg 5 = 1) && decide (C (κ 4 s).toNatClampNeg 3 = num)) n), qmix A κ) := by
    intro m
    induction m with
    | zero => intro j h1 h2; omega
    | succ m ih =>
      intro j hj hm
      rw [zIt_s, mE_X0_waitingFor_B4]
      by_cases ej : j = n
      · subst ej
        simp -implicitDefEqProofs (disch := first | assumption | omega) only [zLet_eq, zCall_some, zCallu_some, q_cq, zBool_0, zBool_1, q_gn, q_gl, q_sn, q_sl, q_al, q_la, q_ml, q_lm, q_ue, q_un, q_mA, q_mK, q_uA, q_uK, q_g6, q_rm, q_dv, e7, q_le, if_pos]
      · have ihj := ih (j + 1) (by omega) (by omega)
        rw [qcnt_s] at ihj
        generalize zIt (mE_X0_waitingFor_B4 N) (fun _ _ _ _ => none) m = hd at *
        obtain ⟨b, hb, hc, f10, f4, f5, f6, f7, f8, f9, f⟩ := hR.1 j (by omega)
        have ecl : (κ 4 j).toNatClampNeg = b := by rw [f4]; exact nI_clamp (by omega)
        rw [ecl] at ihj
        have kw : mE_X0_isWaitingFor N (qmix A κ) (nI j) num = some (if C b 5 = 1 ∧ C b 3 = num then 1 else 0, qmix A κ) := by
          rw [mE_X0_isWaitingFor]
          rcases f with w | w
          · rw [w] at f9
            simp -implicitDefEqProofs (disch := first | assumption | omega) only [zLet_eq, zCall_some, zCallu_some, q_cq, zBool_0, zBool_1, q_gn, q_gl, q_sn, q_sl, q_al, q_la, q_ml, q_lm, q_ue, q_un, q_mA, q_mK, q_uA, q_uK, q_g6, q_rm, q_dv, q_ltl, q_le, if_neg, if_true, e7, f9, mE_X0_isWaitingFor_35, mE_X0_isWaitingFor_36]
            rw [if_neg (show ¬ (C b 5 = 1 ∧ C b 3 = num) from fun z => by rw [w] at z; exact absurd z.1 (by decide))]
          · rw [w] at f9
            by_cases w3 : C b 3 = num
            · rw [w3] at f7
              rw [if_pos (show C b 5 = 1 ∧ C b 3 = num from ⟨w, w3⟩)]
              simp -implicitDefEqProofs (disch := first | assumption | omega) only [zLet_eq, zCall_some, zCallu_some, q_cq, zBool_0, zBool_1, q_gn, q_gl, q_sn, q_sl, q_al, q_la, q_ml, q_lm, q_ue, q_un, q_mA, q_mK, q_uA, q_uK, q_g6, q_rm, q_dv, q_ltl, q_le, if_neg, if_true, if_false, n10, e7, f9, f7, mE_X0_isWaitingFor_36]
            · rw [if_neg (show ¬ (C b 5 = 1 ∧ C b 3 = num) from fun z => w3 z.2)]
              simp -implicitDefEqProofs (disch := first | assumption | omega) only [zLet_eq, zCall_some, zCallu_some, q_cq, zBool_0, zBool_1, q_gn, q_gl, q_sn, q_sl, q_al, q_la, q_ml, q_lm, q_ue, q_un, q_mA, q_mK, q_uA, q_uK, q_g6, q_rm, q_dv, q_ltl, q_le, if_neg, if_false, n10, e7, f9, f7, mE_X0_isWaitingFor_35, mE_X0_isWaitingFor_36]
        simp -implicitDefEqProofs (disch := first | assumption | omega) only [zLet_eq, zCall_some, zCallu_some, q_cq, zBool_0, zBool_1, q_gn, q_gl, q_sn, q_sl, q_al, q_la, q_ml, q_lm, q_ue, q_un, q_mA, q_mK, q_uA, q_uK, q_g6, q_rm, q_dv, e7, q_le, if_neg, kw]
        by_cases cc : C b 5 = 1 ∧ C b 3 = num
        · rw [if_pos (show (decide (C b 5 = 1) && decide (C b 3 = num)) = true by simp [cc.1, cc.2])] at ihj
          rw [if_pos cc, if_neg n10, mE_X0_waitingFor_24]
          simp -implicitDefEqProofs (disch := first | assumption | omega) only [zLet_eq, zCall_some, zCallu_some, q_cq, zBool_0, zBool_1, q_gn, q_gl, q_sn, q_sl, q_al, q_la, q_ml, q_lm, q_ue, q_un, q_mA, q_mK, q_uA, q_uK, q_g6, q_rm, q_dv]
          exact ihj
        · rw [if_neg (show ¬ (decide (C b 5 = 1) && decide (C b 3 = num)) = true by simp; exact fun z1 z2 => cc ⟨z1, z2⟩), Nat.add_zero] at ihj
          rw [if_neg cc, if_pos rfl, mE_X0_waitingFor_24]
          simp -implicitDefEqProofs (disch := first | assumption | omega) only [zLet_eq, zCall_some, zCallu_some, q_cq, zBool_0, zBool_1, q_gn, q_gl, q_sn, q_sl, q_al, q_la, q_ml, q_lm, q_ue, q_un, q_mA, q_mK, q_uA, q_uK, q_g6, q_rm, q_dv]
          exact ihj
  exact key N 0 (by omega) (by omega)
theorem r_for (N : Nat) (hN : 64 < N) {F : ST} {q : Bool} {ρ A C H : ST} {p : Nat} (h : RR F q ρ A C H) (hp : p < 6) (hn : ¬ A (12 + p) 0 = -1) : mR_aheadFor N ρ (nI (542 + 12 * p)) = some (nI (qv_for C (A (12 + p) 0)), ρ) := by
  obtain ⟨r, r1, r2, r3, r4, r5⟩ := h.2.2.2.2.2.1
  have e0 : ρ 1 0 = nI r := by rw [h.1 0 (by omega), r2]
  have es1 : ρ 1 (542 + 12 * p + 1) = A (12 + p) 0 := RR_sr h (k := 0) hp hn (by omega)
  have e := RRc_cnt r1 r3 r4 r5 (fun b => decide (C b 5 = 1) && decide (C b 3 = A (12 + p) 0))
  unfold qv_for
  rw [← e]
  have key : ∀ m j : Nat, j ≤ r → r - j < m → zIt (mR_aheadFor_B4 N) (fun _ _ _ _ => none) m ρ (nI (542 + 12 * p)) (nI (qcnt (fun i => decide (¬ ρ 1 (30 + 8 * i) = 0) && (decide (C ((ρ 1 (30 + 8 * i)).toNatClampNeg - 1) 5 = 1) && decide (C ((ρ 1 (30 + 8 * i)).toNatClampNeg - 1) 3 = A (12 + p) 0))) j)) (nI j) = some (nI (qcnt (fun i => decide (¬ ρ 1 (30 + 8 * i) = 0) && (decide (C ((ρ 1 (30 + 8 * i)).toNatClampNeg - 1) 5 = 1) && decide (C ((ρ 1 (30 + 8 * i)).toNatClampNeg - 1) 3 = A (12 + p) 0))) r), ρ) := by
    intro m
    induction m with
    | zero => intro j h1 h2; omega
    | succ m ih =>
      intro j hj hm
      rw [zIt_s, mR_aheadFor_B4]
      by_cases ej : j = r
      · subst ej
        simp -implicitDefEqProofs (disch := first | assumption | omega) only [zLet_eq, zCall_some, zCallu_some, q_cq, zBool_0, zBool_1, q_gn, q_gl, q_sn, q_sl, q_al, q_la, q_ml, q_lm, q_ue, q_un, q_mA, q_mK, q_uA, q_uK, q_g6, q_rm, q_dv, e0, q_le, if_pos]
      · have ihj := ih (j + 1) (by omega) (by omega)
        rw [qcnt_s] at ihj
        generalize zIt (mR_aheadFor_B4 N) (fun _ _ _ _ => none) m = hd at *
        generalize qcnt (fun i => decide (¬ ρ 1 (30 + 8 * i) = 0) && (decide (C ((ρ 1 (30 + 8 * i)).toNatClampNeg - 1) 5 = 1) && decide (C ((ρ 1 (30 + 8 * i)).toNatClampNeg - 1) 3 = A (12 + p) 0))) j = a at *
        rcases r3 j (by omega) with z | ⟨b, hb, z⟩
        · have z2 : ρ 1 (30 + 8 * j) ≤ 0 := by rw [z]; decide
          rw [if_neg (show ¬ (decide (¬ ρ 1 (30 + 8 * j) = 0) && (decide (C ((ρ 1 (30 + 8 * j)).toNatClampNeg - 1) 5 = 1) && decide (C ((ρ 1 (30 + 8 * j)).toNatClampNeg - 1) 3 = A (12 + p) 0))) = true by simp [z]), Nat.add_zero] at ihj
          simp -implicitDefEqProofs (disch := first | assumption | omega) only [zLet_eq, zCall_some, zCallu_some, q_cq, zBool_0, zBool_1, q_gn, q_gl, q_sn, q_sl, q_al, q_la, q_ml, q_lm, q_ue, q_un, q_mA, q_mK, q_uA, q_uK, q_g6, q_rm, q_dv, e0, q_le, if_neg, if_pos, pR_cacheAt, mR_aheadFor_70, mR_aheadFor_71, Nat.add_zero]
          exact ihj
        · have z2 : ¬ ρ 1 (30 + 8 * j) ≤ 0 := by rw [z.1]; exact nI_nle (by omega) (by omega)
          have z3 : ¬ ρ 1 (30 + 8 * j) = 0 := by rw [z.1]; exact nI_ne0 (by omega) (by omega)
          have ecl : (ρ 1 (30 + 8 * j)).toNatClampNeg - 1 = b := by rw [z.1, nI_clamp (by omega)]; omega
          have e33 : ρ 1 (30 + 8 * j + 3) = C b 5 := by rw [show 30 + 8 * j + 3 = 33 + 8 * j by omega]; exact z.2.2.2.2.1
          have e34 : ρ 1 (30 + 8 * j + 4) = C b 3 + 1 := by rw [show 30 + 8 * j + 4 = 34 + 8 * j by omega]; exact z.2.2.2.2.2.1
          rw [ecl] at ihj
          by_cases c5 : C b 5 = 1
          · rw [c5] at e33
            by_cases c3 : C b 3 = A (12 + p) 0
            · rw [if_pos (show (decide (¬ ρ 1 (30 + 8 * j) = 0) && (decide (C b 5 = 1) && decide (C b 3 = A (12 + p) 0))) = true by simp [z3, c5, c3])] at ihj
              simp -implicitDefEqProofs (disch := first | assumption | omega) only [zLet_eq, zCall_some, zCallu_some, q_cq, zBool_0, zBool_1, q_gn, q_gl, q_sn, q_sl, q_al, q_la, q_ml, q_lm, q_ue, q_un, q_mA, q_mK, q_uA, q_uK, q_g6, q_rm, q_dv, e0, q_le, if_neg, if_true, pR_cacheAt, e33, e34, i_add1sub1, es1, c3, mR_aheadFor_71]
              exact ihj
            · rw [if_neg (show ¬ (decide (¬ ρ 1 (30 + 8 * j) = 0) && (decide (C b 5 = 1) && decide (C b 3 = A (12 + p) 0))) = true by simp [c3]), Nat.add_zero] at ihj
              simp -implicitDefEqProofs (disch := first | assumption | omega) only [zLet_eq, zCall_some, zCallu_some, q_cq, zBool_0, zBool_1, q_gn, q_gl, q_sn, q_sl, q_al, q_la, q_ml, q_lm, q_ue, q_un, q_mA, q_mK, q_uA, q_uK, q_g6, q_rm, q_dv, e0, q_le, if_neg, if_true, pR_cacheAt, e33, e34, i_add1sub1, es1, mR_aheadFor_70, mR_aheadFor_71, Nat.add_zero]
              exact ihj
          · rw [if_neg (show ¬ (decide (¬ ρ 1 (30 + 8 * j) = 0) && (decide (C b 5 = 1) && decide (C b 3 = A (12 + p) 0))) = true by simp [c5]), Nat.add_zero] at ihj
            simp -implicitDefEqProofs (disch := first | assumption | omega) only [zLet_eq, zCall_some, zCallu_some, q_cq, zBool_0, zBool_1, q_gn, q_gl, q_sn, q_sl, q_al, q_la, q_ml, q_lm, q_ue, q_un, q_mA, q_mK, q_uA, q_uK, q_g6, q_rm, q_dv, e0, q_le, if_neg, pR_cacheAt, e33, mR_aheadFor_70, mR_aheadFor_71, Nat.add_zero]
            exact ihj
  exact key N 0 (by omega) (by omega)
