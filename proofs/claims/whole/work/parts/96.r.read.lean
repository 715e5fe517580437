/-! THE REFERENCE: finds, joins, traces, hits -/
theorem r_fin198 (N : Nat) {F : ST} {q : Bool} {ρ A C H : ST} {p : Nat} {hw x : Int32} (h : RR (Fr F hw (nI (542 + 12 * p))) q ρ A C H) (hp : p < 6) : ∃ ρ', mR_finds_198 N ρ x = some ρ' ∧ RR (Fr F hw (nI (542 + 12 * p))) q ρ' (zUp A (12 + p) 7 (C 10000 0)) C H := by
  have e12 := (RR_11 h).2
  have e21 : ρ 1 21 = C 10000 0 := h.2.1.2.1
  rw [mR_finds_198]
  have hs := RR_s h (p := p) (k := 7) hp (by omega) (by omega) (C 10000 0)
  rw [show 543 + 12 * p + 7 = 542 + 12 * p + 8 by omega] at hs
  simp -implicitDefEqProofs (disch := first | assumption | omega) only [zLet_eq, zCall_some, zCallu_some, q_cq, zBool_0, zBool_1, q_gn, q_gl, q_sn, q_sl, q_al, q_la, q_ml, q_lm, q_ue, q_un, q_mA, q_mK, q_uA, q_uK, q_g6, q_rm, q_dv, e12, e21]
  exact ⟨_, rfl, hs⟩
theorem r_fin177 (N : Nat) (hN : 200 < N) {F : ST} {q : Bool} {ρ A C H : ST} {t p : Nat} {hw x : Int32} (h : RR (Fr F hw (nI (542 + 12 * p))) q ρ A C H) (hp : p < 6) (hnn : ¬ A (12 + p) 0 = -1) (hs : ¬ A (12 + p) 2 = 0) (g : Gd (zUp A (12 + p) 1 x) C t) (ht : t < 20000000) (hx : XIN C x) (hq : q = true → A 0 8 = 0) : ∃ ρ', mR_finds_177 N ρ x = some ρ' ∧ RR (Fr F hw (nI (542 + 12 * p))) q ρ' (zUp (qa_goes (zUp A (12 + p) 1 x) C p x).1 (12 + p) 7 ((qa_goes (zUp A (12 + p) 1 x) C p x).2 10000 0)) (qa_goes (zUp A (12 + p) 1 x) C p x).2 H := by
  have e12 := (RR_11 h).2
  have h1 := RR_s h (p := p) (k := 1) hp (by omega) (by omega) x
  rw [show 543 + 12 * p + 1 = 542 + 12 * p + 2 by omega] at h1
  rw [mR_finds_177]
  simp -implicitDefEqProofs (disch := first | assumption | omega) only [zLet_eq, zCall_some, zCallu_some, q_cq, zBool_0, zBool_1, q_gn, q_gl, q_sn, q_sl, q_al, q_la, q_ml, q_lm, q_ue, q_un, q_mA, q_mK, q_uA, q_uK, q_g6, q_rm, q_dv, e12]
  obtain ⟨ρ1, o1, o2⟩ := r_goesOn N hN h1 g ht hx hp (by simp -implicitDefEqProofs (disch := first | assumption | omega) only [q_un]; exact hnn) (by simp -implicitDefEqProofs (disch := first | assumption | omega) only [q_un]; exact hs) (by simp -implicitDefEqProofs (disch := first | assumption | omega) only [q_ue]) (fun w => by simp -implicitDefEqProofs (disch := first | assumption | omega) only [q_un]; exact hq w)
  rw [o1, zCallu_some]
  exact r_fin198 N o2 hp
theorem r_finds (N : Nat) (hN : 200 < N) {F : ST} {q : Bool} {ρ A C H : ST} {t b : Nat} (h : RR F q ρ A C H) (g : Gd A C t) (ht : t < 10000000) (hb : b < 10000) (h2 : (b : Int) < (A 1 7).toInt) (hx : XIN C (nI b)) (hq : q = true → A 0 8 = 0) :
    ∃ ρ', mR_finds N ρ (nI b) = some ρ' ∧ RR (Fr F (qa_find A (nI b)).1 (nI (542 + 12 * (qa_find A (nI b)).2.1))) q ρ' (zUp (if (qa_find A (nI b)).1 = 1 ∨ (qa_find A (nI b)).1 = 3 then qa_goes (qa_find A (nI b)).2.2 C (qa_find A (nI b)).2.1 (nI b) else ((qa_find A (nI b)).2.2, C)).1 (12 + (qa_find A (nI b)).2.1) 7 ((if (qa_find A (nI b)).1 = 1 ∨ (qa_find A (nI b)).1 = 3 then qa_goes (qa_find A (nI b)).2.2 C (qa_find A (nI b)).2.1 (nI b) else ((qa_find A (nI b)).2.2, C)).2 10000 0)) (if (qa_find A (nI b)).1 = 1 ∨ (qa_find A (nI b)).1 = 3 then qa_goes (qa_find A (nI b)).2.2 C (qa_find A (nI b)).2.1 (nI b) else ((qa_find A (nI b)).2.2, C)).2 H := by
  obtain ⟨f1, f2, f3, f4, f5, f6, f7, f8⟩ := find_ok g (by omega) hb h2
  have htb := GT_b g.1.1
  have h0 : RR (Fr F (F 0 11) (F 0 12)) q ρ A C H := by rw [Fr_self]; exact h
  have n31 : ¬ (3 : Int32) = 1 := by decide
  have n21 : ¬ (2 : Int32) = 1 := by decide
  have n23 : ¬ (2 : Int32) = 3 := by decide
  have n13 : ¬ (1 : Int32) = 3 := by decide
  have n41 : ¬ (4 : Int32) = 1 := by decide
  have n43 : ¬ (4 : Int32) = 3 := by decide
  have es := r_stepped N (by omega) h (nI b)
  have ha1 := RR_how (RR_its h0 (qa_eR (qa_stepping A (nI b) 6 0 none))) 1
  have el := r_lastAt N (by omega) ha1 (nI b)
  have ha2 := RR_how (RR_its ha1 (qa_eR (qa_lastAt A (nI b)))) 2
  have ep := r_paired N (by omega) ha2 (nI b)
  have ha3 := RR_how (RR_its ha2 (qa_eR (qa_pairing A (nI b) 6 0 none (A 1 4 + 1)))) 3
  have sx : ∀ (s : ST) (v w : Int32), zUp (zUp s 0 12 v) 0 11 w 0 12 = v := fun s v w => by rw [q_un (by omega), q_ue rfl rfl]
  have sh : ∀ (s : ST) (v w : Int32), zUp (zUp s 0 12 v) 0 11 w 0 11 = w := fun s v w => by rw [q_ue rfl rfl]
  rw [mR_finds, es]
  simp -implicitDefEqProofs (disch := first | assumption | omega) only [zLet_eq, zCall_some, zCallu_some, q_cq, zBool_0, zBool_1, q_gn, q_gl, q_sn, q_sl, q_al, q_la, q_ml, q_lm, q_ue, q_un, q_mA, q_mK, q_uA, q_uK, q_g6, q_rm, q_dv]
  unfold qa_find at *
  cases h1 : qa_stepping A (nI b) 6 0 none with
  | some p =>
    rw [h1] at f1 f2 f3 f4 f5 f6 f7 f8 ha1
    dsimp only at f1 f2 f3 f4 f5 f6 f7 f8 ⊢
    rw [show qa_eR (some p) = nI (542 + 12 * p) from rfl] at ha1 ⊢
    obtain ⟨a1, a2, a3, a4⟩ := qa_stepping_some (f := none) (fun p q => by cases q) (by omega) h1
    rw [if_neg (q_m1 (by omega)), mR_finds_36, zLet_eq, sx, if_neg (q_m1 (by omega)), mR_finds_58, zLet_eq, sx, if_neg (q_m1 (by omega)), mR_finds_80, zLet_eq, sh, if_pos rfl]
    have es4 : ρ 1 (542 + 12 * p + 4) = A (12 + p) 3 := RR_sr h (k := 3) a1 a2 (by omega)
    rw [if_pos (show ((1 : Int32) = 1 ∨ (1 : Int32) = 3) from Or.inl rfl)]
    simp -implicitDefEqProofs (disch := first | assumption | omega) only [zLet_eq, zCall_some, zCallu_some, q_cq, zBool_0, zBool_1, q_gn, q_gl, q_sn, q_sl, q_al, q_la, q_ml, q_lm, q_ue, q_un, q_mA, q_mK, q_uA, q_uK, q_g6, q_rm, q_dv, es4, pR_lesser]
    have hs1 := RR_s ha1 (p := p) (k := 3) a1 (by omega) (by omega) (if (99 : Int32) < A (12 + p) 3 + 1 then 99 else A (12 + p) 3 + 1)
    rw [show 543 + 12 * p + 3 = 542 + 12 * p + 4 by omega] at hs1
    rw [mR_finds_117, zLet_eq, (RR_11 hs1).1, if_neg n13, mR_finds_161, zLet_eq, (RR_11 hs1).1, if_pos rfl]
    have emin : (if (99 : Int32) < A (12 + p) 3 + 1 then 99 else A (12 + p) 3 + 1) = (if A (12 + p) 3 + 1 < 99 then A (12 + p) 3 + 1 else 99) := by
      by_cases c1 : (99 : Int32) < A (12 + p) 3 + 1
      · rw [if_pos c1, if_neg (show ¬ A (12 + p) 3 + 1 < 99 by rw [i_lt] at *; omega)]
      · rw [if_neg c1]
        by_cases c2 : A (12 + p) 3 + 1 < 99
        · rw [if_pos c2]
        · rw [if_neg c2]
          rw [i_lt] at c1 c2
          exact i_eq.mpr (by omega)
    rw [emin] at hs1 ⊢
    have hs2 := RR_09 hs1 (nI p)
    have hAe : zUp (zUp (zUp A (12 + p) 3 (if A (12 + p) 3 + 1 < 99 then A (12 + p) 3 + 1 else 99)) 0 9 (nI p)) (12 + p) 1 (nI b) = qa_stepA (zUp A 0 9 (nI p)) p (nI b) := by
      unfold qa_stepA
      rw [q_un (by omega)]
      rw [q_comm (σ := A) (c := 12 + p) (k := 3) (d := 0) (j := 9) (by omega), q_comm (c := 12 + p) (k := 3) (d := 12 + p) (j := 1) (by omega)]
    have key := r_fin177 N hN (x := nI b) hs2 a1 (by simp -implicitDefEqProofs (disch := first | assumption | omega) only [q_un]; exact a2) (by simp -implicitDefEqProofs (disch := first | assumption | omega) only [q_un]; exact a3) (by rw [hAe]; exact f1) (by omega) hx (fun w => by simp -implicitDefEqProofs (disch := first | assumption | omega) only [q_un]; exact hq w)
    rw [hAe] at key
    exact key
  | none =>
    rw [h1] at f1 f2 f3 f4 f5 f6 f7 f8 ha1 el ha2 ep ha3
    dsimp only at f1 f2 f3 f4 f5 f6 f7 f8 ⊢
    rw [show qa_eR none = (-1 : Int32) from rfl] at ha1 el ha2 ep ha3 ⊢
    rw [if_pos rfl, el]
    simp -implicitDefEqProofs (disch := first | assumption | omega) only [zLet_eq, zCall_some, zCallu_some, q_cq, zBool_0, zBool_1, q_gn, q_gl, q_sn, q_sl, q_al, q_la, q_ml, q_lm, q_ue, q_un, q_mA, q_mK, q_uA, q_uK, q_g6, q_rm, q_dv]
    cases h2' : qa_lastAt A (nI b) with
    | some p =>
      rw [h2'] at f1 f2 f3 f4 f5 f6 f7 f8 ha2
      dsimp only at f1 f2 f3 f4 f5 f6 f7 f8 ⊢
      rw [show qa_eR (some p) = nI (542 + 12 * p) from rfl] at ha2 ⊢
      obtain ⟨-, a1, a3⟩ := qa_first_some h2'
      rw [mR_finds_36, zLet_eq, sx, if_neg (q_m1 (by omega)), mR_finds_58, zLet_eq, sx, if_neg (q_m1 (by omega)), mR_finds_80, zLet_eq, sh, if_neg n21, mR_finds_117, zLet_eq, sh, if_neg n23, mR_finds_161, zLet_eq, sh, if_neg n21, zLet_eq, if_neg n23]
      rw [if_neg (show ¬ ((2 : Int32) = 1 ∨ (2 : Int32) = 3) from fun w => by rcases w with w | w; exact n21 w; exact n23 w)]
      exact r_fin198 N (RR_09 ha2 (nI p)) (by omega)
    | none =>
      rw [h2'] at f1 f2 f3 f4 f5 f6 f7 f8 ha2 ep ha3
      dsimp only at f1 f2 f3 f4 f5 f6 f7 f8 ⊢
      rw [show qa_eR none = (-1 : Int32) from rfl] at ha2 ep ha3 ⊢
      rw [mR_finds_36, zLet_eq, sx, if_pos rfl, ep]
      simp -implicitDefEqProofs (disch := first | assumption | omega) only [zLet_eq, zCall_some, zCallu_some, q_cq, zBool_0, zBool_1, q_gn, q_gl, q_sn, q_sl, q_al, q_la, q_ml, q_lm, q_ue, q_un, q_mA, q_mK, q_uA, q_uK, q_g6, q_rm, q_dv]
      cases h3' : qa_pairing A (nI b) 6 0 none (A 1 4 + 1) with
      | some p =>
        rw [h3'] at f1 f2 f3 f4 f5 f6 f7 f8 ha3
        dsimp only at f1 f2 f3 f4 f5 f6 f7 f8 ⊢
        rw [show qa_eR (some p) = nI (542 + 12 * p) from rfl] at ha3 ⊢
        obtain ⟨a1, a2, a3, a4⟩ := qa_pairing_some (f := none) (fun p q => by cases q) (by rw [i_le]; omega) (by omega) h3'
        have es2 : ρ 1 (542 + 12 * p + 2) = A (12 + p) 1 := RR_sr h (k := 1) a1 a2 (by omega)
        rw [if_pos (show ((3 : Int32) = 1 ∨ (3 : Int32) = 3) from Or.inr rfl)]
        rw [mR_finds_58, zLet_eq, sx, if_neg (q_m1 (by omega)), mR_finds_80, zLet_eq, sh, if_neg n31, mR_finds_117, zLet_eq, sh, if_pos rfl]
        have hs1 := RR_s ha3 (p := p) (k := 2) a1 (by omega) (by omega) (nI b - A (12 + p) 1)
        rw [show 543 + 12 * p + 2 = 542 + 12 * p + 3 by omega] at hs1
        have hs2 := RR_s hs1 (p := p) (k := 3) a1 (by omega) (by omega) 1
        rw [show 543 + 12 * p + 3 = 542 + 12 * p + 4 by omega] at hs2
        simp -implicitDefEqProofs (disch := first | assumption | omega) only [zLet_eq, zCall_some, zCallu_some, q_cq, zBool_0, zBool_1, q_gn, q_gl, q_sn, q_sl, q_al, q_la, q_ml, q_lm, q_ue, q_un, q_mA, q_mK, q_uA, q_uK, q_g6, q_rm, q_dv, es2]
        rw [mR_finds_161, zLet_eq, (RR_11 hs2).1, if_neg n31, zLet_eq, if_pos rfl]
        have hs3 := RR_09 hs2 (nI p)
        have hAe : zUp (zUp (zUp (zUp A (12 + p) 2 (nI b - A (12 + p) 1)) (12 + p) 3 1) 0 9 (nI p)) (12 + p) 1 (nI b) = qa_pairA (zUp A 0 9 (nI p)) p (nI b) := by
          unfold qa_pairA
          rw [q_un (by omega), q_comm (c := 12 + p) (k := 3) (d := 0) (j := 9) (by omega), q_comm (σ := A) (c := 12 + p) (k := 2) (d := 0) (j := 9) (by omega)]
        have hst := f5 (Or.inr rfl)
        have key := r_fin177 N hN (x := nI b) hs3 a1 (by simp -implicitDefEqProofs (disch := first | assumption | omega) only [q_un]; exact a2) (by
          have e : zUp (zUp (zUp A (12 + p) 2 (nI b - A (12 + p) 1)) (12 + p) 3 1) 0 9 (nI p) (12 + p) 2 = qa_pairA (zUp A 0 9 (nI p)) p (nI b) (12 + p) 2 := by
            rw [← hAe]
            simp -implicitDefEqProofs (disch := first | assumption | omega) only [q_un, q_ue]
          rw [e]
          exact hst) (by rw [hAe]; exact f1) (by omega) hx (fun w => by simp -implicitDefEqProofs (disch := first | assumption | omega) only [q_un]; exact hq w)
        rw [hAe] at key
        exact key
      | none =>
        rw [h3'] at f1 f2 f3 f4 f5 f6 f7 f8 ha3
        dsimp only at f1 f2 f3 f4 f5 f6 f7 f8 ⊢
        rw [show qa_eR none = (-1 : Int32) from rfl] at ha3 ⊢
        obtain ⟨ρ1, o1, o2⟩ := r_comes N hN ha3 g (nI b)
        rw [mR_finds_58, zLet_eq, sx, if_pos rfl, o1]
        have ha4 := RR_how (RR_its o2 (nI (542 + 12 * qa_open A (A 1 6).toNatClampNeg 0 0))) 4
        simp -implicitDefEqProofs (disch := first | assumption | omega) only [zLet_eq, zCall_some, zCallu_some, q_cq, zBool_0, zBool_1, q_gn, q_gl, q_sn, q_sl, q_al, q_la, q_ml, q_lm, q_ue, q_un, q_mA, q_mK, q_uA, q_uK, q_g6, q_rm, q_dv]
        rw [mR_finds_80, zLet_eq, sh, if_neg n41, mR_finds_117, zLet_eq, sh, if_neg n43, mR_finds_161, zLet_eq, sh, if_neg n41, zLet_eq, if_neg n43]
        rw [if_neg (show ¬ ((4 : Int32) = 1 ∨ (4 : Int32) = 3) from fun w => by rcases w with w | w; exact n41 w; exact n43 w)]
        have hAe : qa_begin (zUp A 0 9 (nI (qa_open A (A 1 6).toNatClampNeg 0 0))) (qa_open A (A 1 6).toNatClampNeg 0 0) (nI b) = zUp (qa_begin A (qa_open A (A 1 6).toNatClampNeg 0 0) (nI b)) 0 9 (nI (qa_open A (A 1 6).toNatClampNeg 0 0)) := by
          generalize qa_open A (A 1 6).toNatClampNeg 0 0 = p
          funext c k
          rw [q_get]
          by_cases c3 : c = 0 ∧ k = 9
          · rw [if_pos c3, begin_q (by omega) (by omega), q_ue c3.1 c3.2]
          · rw [if_neg c3]
            by_cases c1 : c = 12 + p
            · subst c1
              rw [begin_p, begin_p, q_un (by omega), q_un (by omega)]
            · by_cases c2 : c = 2
              · subst c2
                by_cases c4 : k = 14
                · subst c4
                  rw [begin_14, begin_14, q_un (by omega)]
                · rw [begin_2 c4, begin_2 c4, q_un (by omega)]
              · rw [begin_q c1 c2, begin_q c1 c2, q_un (by omega)]
        rw [hAe]
        exact r_fin198 N (RR_09 ha4 _) f2
