/-! drop, block -/
theorem qc_slotOf_no (N : Nat) {A κ : ST} {x : Int32} (h : ¬ (0 ≤ x.toInt ∧ x.toInt < 10000)) : mE_X0_slotOf N (qmix A κ) x = some (-1, qmix A κ) := by
  have e0 : (0 : Int32).toInt = 0 := by decide
  have e1 : (10000 : Int32).toInt = 10000 := nI_toInt (n := 10000) (by decide)
  rw [mE_X0_slotOf]
  by_cases c : x < 0
  · rw [if_pos c]; rfl
  · rw [if_neg c, if_neg (show ¬ x < 10000 by rw [i_lt, e1]; rw [i_lt, e0] at c; omega)]
    rfl
theorem drop_ok {t b : Nat} {A C H : ST} (h : St t A C H) (ht : t < 8000000) (hb : b < 10000) (hc : C b 0 = 1) : St (t + 1) (if C b 5 = 1 then qa_waste A (C b 3) else A) (zUp C b 0 0) H := by
  have hx := GX_drop (b := b) h.2.2.2 h.1 (by omega)
  by_cases e : C b 5 = 1
  · rw [if_pos e] at hx ⊢
    exact ⟨Gd_out (Gd_waste h.1 (by omega) hb hc) hb hc, GH_A h.2.1 (qa_waste_c (by omega) (by omega) (by omega) (by omega)), fun c hcc => by rw [qa_waste_c (by omega) (by omega) (by omega) (by omega)]; exact h.2.2.1 c hcc, hx⟩
  · rw [if_neg e] at hx ⊢
    exact ⟨Gd_mono (Gd_out h.1 hb hc) (by omega), h.2.1, h.2.2.1, hx⟩
theorem s_drop (N : Nat) (hN : 200 < N) (κ : Nat) (hκ : κ < 512) : Sm_drop N (II κ) (II (κ + 1)) := by
  intro τ ρ x hI
  obtain ⟨⟨A, C, H, n1, n2, n3⟩, hr⟩ := id hI
  have hmx := EngC_mix n1
  have hth := RR_thr n2
  have htb := GT_b n3.1.1.1
  rw [mT_X7_drop, mR_drop, zLet_eq, r_isBlock N hth, zCall_some]
  have no : ¬ (0 ≤ x.toInt ∧ x.toInt < (A 1 7).toInt) → mE_X0_slotOf N (pE 0 0 τ) x = some (-1, pE 0 0 τ) := fun hv => by
    by_cases hx : 0 ≤ x.toInt ∧ x.toInt < 10000
    · obtain ⟨c1, c2⟩ := clamp_toInt hx.1
      generalize x.toNatClampNeg = b at c1 c2
      subst c2
      have hb : b < 10000 := by omega
      have hc : ¬ C b 0 = 1 := fun w => by
        have := (n3.1.2.1.2.1 b hb w).2.2.2.2.2.2.2.2
        omega
      have k := qc_slotOf N (A := A) (κ := pE 0 0 τ) hb
      rw [hmx, (slot_m1 n1.2.2.1 hb).mpr hc] at k
      exact k
    · have k := qc_slotOf_no N (A := A) (κ := pE 0 0 τ) hx
      rw [hmx] at k
      exact k
  by_cases hv : 0 ≤ x.toInt ∧ x.toInt < (A 1 7).toInt
  · obtain ⟨c1, c2⟩ := clamp_toInt hv.1
    generalize x.toNatClampNeg = b at c1 c2
    subst c2
    have hb : b < 10000 := by omega
    have k := qc_slotOf N (A := A) (κ := pE 0 0 τ) hb
    rw [hmx] at k
    rw [if_pos hv, if_neg n10, zqE k]
    rcases r_place N (by omega) hth hb with ⟨m1, m2⟩ | ⟨m1, i, m2, m3, m4, m5⟩
    · rw [m2, zCall_some, if_pos ((slot_m1 n1.2.2.1 hb).mpr m1), mR_drop_22, if_pos rfl]
      exact ⟨_, _, _, rfl, rfl, II_thr hI⟩
    · obtain ⟨e9, e8, n, hn, e7, hR⟩ := n1.2.2.1
      obtain ⟨s, hs, g10, -⟩ := RKs_at hR hb m1
      obtain ⟨κ1, t1, t2, t3⟩ := qc_takeOut N (A := A) n1.2.2.1 hb m1 g10 (by omega)
      obtain ⟨ρ1, o1, o2⟩ := r_goes N hN hth n3.1 m2 m3 hb m4
      rw [hmx] at t1
      have hst := drop_ok n3 (by omega) hb m1
      have hR1 : Rp κ1 A (zUp C b 0 0) H := Rp_c n1.2 t2 t3
      rw [m5, zCall_some, if_neg (fun w => (slot_m1 n1.2.2.1 hb).mp w m1), mR_drop_22, if_neg (q_m1 (by omega)), o1, zCallu_some, g10, nI_pred, zCallL_eq t1]
      have fr : ∀ c, c = 3 ∨ c = 6 ∨ c = 7 ∨ c = 8 ∨ c = 9 ∨ c = 10 → ρ1 c = ρ c := fun c hc => by
        rw [o2.2.2.2.2.2.2.2.1.1 c (by omega) (by omega) (by omega), q_uc (by omega)]
      by_cases c5 : C b 5 = 1
      · have hno := (n3.1.2.1.2.1 b hb m1).2.2.2.2.2.2.2.1 c5
        rw [if_pos c5] at o2 hst ⊢
        rw [if_neg hno]
        obtain ⟨κ2, w1, w2⟩ := qc_waste N (by omega) hR1 (C b 3)
        have hm2 := EngC_mix (EngC_i (k := 0) (d := 0) (τ := τ) (by omega) hR1)
        have w1' : ∃ κ3, mE_X2_waste N (pE 0 0 (iE 0 0 τ (qmix A κ1))) (C b 3) = some (qmix (qa_waste A (C b 3)) κ3) ∧ Rp κ3 (qa_waste A (C b 3)) (zUp C b 0 0) H := by
          obtain ⟨κ3, v1, v2⟩ := qc_waste N (A := A) (κ := pE 0 0 (iE 0 0 τ (qmix A κ1))) (by omega) (EngC_i (k := 0) (d := 0) (τ := τ) (by omega) hR1).2 (C b 3)
          rw [hm2] at v1
          exact ⟨κ3, v1, v2⟩
        obtain ⟨κ3, v1, v2⟩ := w1'
        rw [zCallLu_eq v1, mT_X7_drop_44]
        refine ⟨_, _, _, rfl, rfl, ?_⟩
        have hst2 := II_e hI (t := 4100 * κ + 1) (by omega) v2 (RR_self o2) hst fr
        refine ⟨⟨_, _, _, EngC_i (by omega) v2, RR_self o2, St_mono hst (by omega)⟩, ?_⟩
        exact Rs_k (Rs_mono hr (by omega)) (fun c c1 c2 c3 _ _ _ _ => by rw [iE_o (by omega) (by omega) (by omega), iE_o (by omega) (by omega) (by omega)]) fr (RR_13 o2)
      · rw [if_neg c5] at o2 hst ⊢
        rw [if_pos rfl, mT_X7_drop_44]
        exact ⟨_, _, _, rfl, rfl, II_e hI (t := 4100 * κ + 1) (by omega) hR1 (RR_self o2) hst fr⟩
  · rw [if_neg hv, if_pos rfl, zqE (no hv), if_pos rfl, mR_drop_22, if_pos rfl]
    exact ⟨_, _, _, rfl, rfl, II_thr hI⟩
theorem qc_term (N : Nat) {A κ : ST} {k : Nat} (hk : k < 10) : mE_X2_term N (qmix A κ) (nI k) = some (A 1 k, qmix A κ) := by
  rw [mE_X2_term]
  simp -implicitDefEqProofs (disch := first | assumption | omega) only [zLet_eq, zCall_some, zCallu_some, q_cq, zBool_0, zBool_1, q_gn, q_gl, q_sn, q_sl, q_al, q_la, q_ml, q_lm, q_ue, q_un, q_mA, q_mK, q_uA, q_uK, q_g6, q_rm, q_dv, q_ltl, if_pos, if_neg, mE_X2_term_20]
theorem r_toCome (N : Nat) {F : ST} {q : Bool} {ρ A C H : ST} (h : RR F q ρ A C H) {i b : Nat} (hi : i < 64) (he : RRe ρ A C i b) : mR_toCome N ρ (nI (30 + 8 * i)) = some (qa_left A C b (A 2 0), ρ) := by
  obtain ⟨z0, z1, z2, z3, z4, z5, z6, z7, z8⟩ := he
  have e37 : ρ 1 (30 + 8 * i + 7) = (if C b 3 = -1 then 0 else 1) := by rw [show 30 + 8 * i + 7 = 37 + 8 * i by omega]; exact z8
  have e36 : ρ 1 (30 + 8 * i + 6) = C b 4 := by rw [show 30 + 8 * i + 6 = 36 + 8 * i by omega]; exact z7
  have e10 : ρ 1 10 = A 2 0 := h.2.1.1 0 10 (by unfold cmap; omega)
  have e9 : ρ 1 9 = A 1 9 := h.1 9 (by omega)
  rw [mR_toCome]
  unfold qa_left
  simp -implicitDefEqProofs (disch := first | assumption | omega) only [zLet_eq, zCall_some, zCallu_some, q_cq, zBool_0, zBool_1, q_gn, q_gl, q_sn, q_sl, q_al, q_la, q_ml, q_lm, q_ue, q_un, q_mA, q_mK, q_uA, q_uK, q_g6, q_rm, q_dv, e37]
  by_cases c3 : C b 3 = -1
  · rw [if_pos c3, if_neg (show ¬ ((0 : Int32) = 1) by decide), if_pos c3, mR_toCome_42, if_pos (by decide)]
    rfl
  · rw [if_neg c3, if_pos rfl, if_neg c3]
    simp -implicitDefEqProofs (disch := first | assumption | omega) only [zLet_eq, zCall_some, zCallu_some, q_cq, zBool_0, zBool_1, q_gn, q_gl, q_sn, q_sl, q_al, q_la, q_ml, q_lm, q_ue, q_un, q_mA, q_mK, q_uA, q_uK, q_g6, q_rm, q_dv, e9, e10, e36, mR_toCome_42, mR_toCome_52]
    by_cases c : 0 < A 1 9 - (A 2 0 - C b 4)
    · rw [if_pos c, if_neg (show ¬ A 1 9 - (A 2 0 - C b 4) ≤ 0 by rw [i_lt] at c; rw [i_le]; omega)]
    · rw [if_neg c, if_pos (show A 1 9 - (A 2 0 - C b 4) ≤ 0 by rw [i_lt] at c; rw [i_le]; omega)]
def qv_block (A C : ST) (b : Nat) (w : Int32) : Int32 := if w = 0 then contF (A 26 b) else if w = 5 then (if 0 ≤ A 26 b then 0 else 1) else if ¬ C b 0 = 1 then -1 else if w = 1 then contF (A 26 b) else if w = 2 then C b 1 else if w = 3 then C b 5 else if w = 4 then C b 3 else if w = 6 then C b 2 else if w = 7 then qa_left A C b (A 2 0) else -1
theorem s_block (N : Nat) (hN : 200 < N) (κ : Nat) : Sm_block N (II κ) (II (κ + 1)) := by
  intro τ ρ x w hI
  obtain ⟨⟨A, C, H, n1, n2, n3⟩, hr⟩ := id hI
  have hmx := EngC_mix n1
  have hth := RR_thr n2
  have htb := GT_b n3.1.1.1
  have hb1 := qc_has N (A := A) (κ := pE 0 0 τ) (x := x)
  rw [hmx] at hb1
  by_cases hv : 0 ≤ x.toInt ∧ x.toInt < (A 1 7).toInt
  · obtain ⟨c1, c2⟩ := clamp_toInt hv.1
    generalize x.toNatClampNeg = b at c1 c2
    subst c2
    have hb : b < 10000 := by omega
    refine ⟨qv_block A C b w, τ, zUp ρ 0 0 0, ?_, ?_, II_thr hI⟩
    · have kc := qc_content N (A := A) (κ := pE 0 0 τ) hb
      have kb := qc_bad N (A := A) (κ := pE 0 0 τ) hb
      have ks := qc_slotOf N (A := A) (κ := pE 0 0 τ) hb
      have kt : mE_X2_term N (qmix A (pE 0 0 τ)) 9 = some (A 1 9, qmix A (pE 0 0 τ)) := qc_term N (A := A) (κ := pE 0 0 τ) (k := 9) (by omega)
      rw [hmx] at kc kb ks kt
      unfold qv_block
      rw [mT_X7_block, zqE hb1, if_pos hv, if_neg n10]
      by_cases w0 : w = 0
      · rw [if_pos w0, if_pos w0, zqE kc]
      · rw [if_neg w0, if_neg w0]
        by_cases w5 : w = 5
        · rw [if_pos w5, if_pos w5, zqE kb]
          by_cases c : 0 ≤ A 26 b
          · rw [if_pos c, if_pos rfl]; rfl
          · rw [if_neg c, if_neg n10]; rfl
        · rw [if_neg w5, if_neg w5, zqE ks]
          by_cases hc : C b 0 = 1
          · rw [if_neg (fun z => (slot_m1 n1.2.2.1 hb).mp z hc), if_neg (show ¬ ¬ C b 0 = 1 from fun z => z hc)]
            obtain ⟨e9, e8, n, hn, e7, hR⟩ := n1.2.2.1
            obtain ⟨s, hs, g10, g4, g5, g6, g7, g8, g9, gg⟩ := RKs_at hR hb hc
            have tc : ∀ c, c < 25 → pE 0 0 τ c = τ c := fun c hc => by unfold pE; rw [if_pos hc, show 100 * 0 + c = c by omega]
            rw [tc 5 (by omega)] at g5
            rw [tc 6 (by omega)] at g6
            rw [tc 7 (by omega)] at g7
            rw [tc 9 (by omega)] at g9
            have ktc := qc_toCome N (A := A) n1.2.2.1 hb hc g10 (by omega) (A 2 0) (A 1 9)
            rw [hmx] at ktc
            have e2 : τ 2 = A 2 := tau_c n1 (by omega)
            rw [g10, nI_pred]
            by_cases w1 : w = 1
            · rw [if_pos w1, if_pos w1, zqE kc]
            · rw [if_neg w1, if_neg w1]
              by_cases w2 : w = 2
              · rw [if_pos w2, if_pos w2, zGet_nI (by omega) (by decide), g5]
              · rw [if_neg w2, if_neg w2]
                by_cases w3 : w = 3
                · rw [if_pos w3, if_pos w3, zGet_nI (by omega) (by decide), g9]
                  rcases gg with z | z
                  · rw [z, if_pos rfl]; rfl
                  · rw [z, if_neg n10]; rfl
                · rw [if_neg w3, if_neg w3]
                  by_cases w4 : w = 4
                  · rw [if_pos w4, if_pos w4, zGet_nI (by omega) (by decide), g7]
                  · rw [if_neg w4, if_neg w4]
                    by_cases w6 : w = 6
                    · rw [if_pos w6, if_pos w6, zGet_nI (by omega) (by decide), g6]
                    · rw [if_neg w6, if_neg w6]
                      by_cases w7 : w = 7
                      · rw [if_pos w7, if_pos w7, zGet_at (i := 0) 0 rfl (by decide) (by decide), zqE kt, e2, zqE ktc]
                        rfl
                      · rw [if_neg w7, if_neg w7]
          · rw [if_pos ((slot_m1 n1.2.2.1 hb).mpr hc), if_pos hc]
    · have e4 : zUp ρ 0 0 0 4 b = contF (A 26 b) := (hth.2.2.2.2.2.2.1 b hb).1
      have e5 : zUp ρ 0 0 0 5 b = (if 0 ≤ A 26 b then 0 else 1) := (hth.2.2.2.2.2.2.1 b hb).2
      rw [mR_block, zLet_eq, r_isBlock N hth, zCall_some, if_pos hv, if_neg n10, zLet_eq, r_in N _ w 0 7 (m := 0) (n := 7) (by decide) (by decide), zCall_some]
      generalize zUp ρ 0 0 0 = ρ0 at *
      unfold qv_block
      by_cases cw : 0 ≤ w.toInt ∧ w.toInt ≤ 7
      · rw [if_pos cw, if_neg n10]
        by_cases w0 : w = 0
        · rw [if_pos w0, if_pos w0, zGet_nI hb (by decide), e4]
        · rw [if_neg w0, if_neg w0]
          by_cases w5 : w = 5
          · rw [if_pos w5, if_pos w5, zGet_nI hb (by decide), e5]
            by_cases c : 0 ≤ A 26 b
            · rw [if_pos c, if_pos rfl]; rfl
            · rw [if_neg c, if_neg n10]; rfl
          · rw [if_neg w5, if_neg w5]
            rcases r_place N (by omega) hth hb with ⟨m1, m2⟩ | ⟨m1, i, m2, m3, m4, m5⟩
            · rw [m2, zCall_some, if_pos rfl, if_pos m1]
            · have htc := r_toCome N hth m2 m4
              obtain ⟨z0, z1, z2, z3, z4, z5, z6, z7, z8⟩ := m4
              rw [m5, zCall_some, if_neg (q_m1 (by omega)), if_neg (show ¬ ¬ C b 0 = 1 from fun z => z m1)]
              by_cases w1 : w = 1
              · rw [if_pos w1, if_pos w1]
                simp -implicitDefEqProofs (disch := first | assumption | omega) only [zLet_eq, zCall_some, zCallu_some, q_cq, zBool_0, zBool_1, q_gn, q_gl, q_sn, q_sl, q_al, q_la, q_ml, q_lm, q_ue, q_un, q_mA, q_mK, q_uA, q_uK, q_g6, q_rm, q_dv]
                rw [show 30 + 8 * i + 1 = 31 + 8 * i by omega, z2]
              · rw [if_neg w1, if_neg w1]
                by_cases w2 : w = 2
                · rw [if_pos w2, if_pos w2]
                  simp -implicitDefEqProofs (disch := first | assumption | omega) only [zLet_eq, zCall_some, zCallu_some, q_cq, zBool_0, zBool_1, q_gn, q_gl, q_sn, q_sl, q_al, q_la, q_ml, q_lm, q_ue, q_un, q_mA, q_mK, q_uA, q_uK, q_g6, q_rm, q_dv]
                  rw [show 30 + 8 * i + 2 = 32 + 8 * i by omega, z3]
                · rw [if_neg w2, if_neg w2]
                  by_cases w3 : w = 3
                  · rw [if_pos w3, if_pos w3]
                    simp -implicitDefEqProofs (disch := first | assumption | omega) only [zLet_eq, zCall_some, zCallu_some, q_cq, zBool_0, zBool_1, q_gn, q_gl, q_sn, q_sl, q_al, q_la, q_ml, q_lm, q_ue, q_un, q_mA, q_mK, q_uA, q_uK, q_g6, q_rm, q_dv]
                    rw [show 30 + 8 * i + 3 = 33 + 8 * i by omega, z4]
                  · rw [if_neg w3, if_neg w3]
                    by_cases w4 : w = 4
                    · rw [if_pos w4, if_pos w4]
                      simp -implicitDefEqProofs (disch := first | assumption | omega) only [zLet_eq, zCall_some, zCallu_some, q_cq, zBool_0, zBool_1, q_gn, q_gl, q_sn, q_sl, q_al, q_la, q_ml, q_lm, q_ue, q_un, q_mA, q_mK, q_uA, q_uK, q_g6, q_rm, q_dv]
                      rw [show 30 + 8 * i + 4 = 34 + 8 * i by omega, z5, i_add1sub1]
                    · rw [if_neg w4, if_neg w4]
                      by_cases w6 : w = 6
                      · rw [if_pos w6, if_pos w6]
                        simp -implicitDefEqProofs (disch := first | assumption | omega) only [zLet_eq, zCall_some, zCallu_some, q_cq, zBool_0, zBool_1, q_gn, q_gl, q_sn, q_sl, q_al, q_la, q_ml, q_lm, q_ue, q_un, q_mA, q_mK, q_uA, q_uK, q_g6, q_rm, q_dv]
                        rw [show 30 + 8 * i + 5 = 35 + 8 * i by omega, z6]
                      · rw [if_neg w6, if_neg w6]
                        have w7 : w = 7 := by
                          have f0 : w.toInt ≠ 0 := fun z => w0 (i_eq.mpr (by rw [z]; decide))
                          have f1 : w.toInt ≠ 1 := fun z => w1 (i_eq.mpr (by rw [z]; decide))
                          have f2 : w.toInt ≠ 2 := fun z => w2 (i_eq.mpr (by rw [z]; decide))
                          have f3 : w.toInt ≠ 3 := fun z => w3 (i_eq.mpr (by rw [z]; decide))
                          have f4 : w.toInt ≠ 4 := fun z => w4 (i_eq.mpr (by rw [z]; decide))
                          have f5 : w.toInt ≠ 5 := fun z => w5 (i_eq.mpr (by rw [z]; decide))
                          have f6 : w.toInt ≠ 6 := fun z => w6 (i_eq.mpr (by rw [z]; decide))
                          have e7 : (7 : Int32).toInt = 7 := by decide
                          exact i_eq.mpr (by omega)
                        rw [if_pos w7, htc, zCall_some]
      · have nw : ∀ k : Nat, k ≤ 7 → ¬ w = nI k := fun k hk z => cw (by rw [z, nI_toInt (by omega)]; omega)
        rw [if_neg cw, if_pos rfl, if_neg (show ¬ w = 0 from nw 0 (by omega)), if_neg (show ¬ w = 5 from nw 5 (by omega)), if_neg (show ¬ w = 1 from nw 1 (by omega)), if_neg (show ¬ w = 2 from nw 2 (by omega)), if_neg (show ¬ w = 3 from nw 3 (by omega)), if_neg (show ¬ w = 4 from nw 4 (by omega)), if_neg (show ¬ w = 6 from nw 6 (by omega)), if_neg (show ¬ w = 7 from nw 7 (by omega)), mR_block_25]
        by_cases hc : C b 0 = 1
        · rw [if_neg (show ¬ ¬ C b 0 = 1 from fun z => z hc)]
        · rw [if_pos hc]
  · refine ⟨-1, τ, zUp ρ 0 0 0, ?_, ?_, II_thr hI⟩
    · rw [mT_X7_block, zqE hb1, if_neg hv, if_pos rfl]
    · rw [mR_block, zLet_eq, r_isBlock N hth, zCall_some, if_neg hv, if_pos rfl]
      rfl
