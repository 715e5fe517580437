/-! THE REFERENCE: windows, what goes -/
def r_shf (ρ : ST) (j e d : Nat) : ST := fun c k => if c = 1 ∧ j ≤ k ∧ k < e then ρ 1 (k + d) else ρ c k
theorem r_shf_e {ρ : ST} {j d : Nat} : r_shf ρ j j d = ρ := by
  funext c k
  unfold r_shf
  rw [if_neg (by omega)]
theorem r_shf_s {ρ : ST} {j e d : Nat} (h : j < e) (hd : 0 < d) : r_shf (zUp ρ 1 j (ρ 1 (j + d))) (j + 1) e d = r_shf ρ j e d := by
  funext c k
  unfold r_shf
  by_cases h1 : c = 1 ∧ j + 1 ≤ k ∧ k < e
  · rw [if_pos h1, if_pos (by omega), q_un (by omega)]
  · rw [if_neg h1]
    by_cases h2 : c = 1 ∧ k = j
    · rw [if_pos (by omega), q_ue h2.1 h2.2, h2.2]
    · rw [if_neg (by omega), q_un (by omega)]
theorem r_wshift (N : Nat) (x1 x2 x3 : Int32) : ∀ (m j : Nat) (ρ : ST), 614 ≤ j → j ≤ 770 → 770 - j < m → ρ 1 26 = nI 39 → zIt (mR_widens_B43 N) (fun _ _ _ _ _ => none) m ρ x1 x2 x3 (nI j) = mR_widens_83 N (r_shf ρ j 770 4) x1 x2 x3 := by
  intro m
  induction m with
  | zero => intro j ρ h1 h2 h3; omega
  | succ m ih =>
    intro j ρ h1 h2 h3 h4
    rw [zIt_s, mR_widens_B43]
    by_cases e : j = 770
    · subst e
      simp -implicitDefEqProofs (disch := first | assumption | omega) only [zLet_eq, zCall_some, zCallu_some, q_cq, zBool_0, zBool_1, q_gn, q_gl, q_sn, q_sl, q_al, q_la, q_ml, q_lm, q_ue, q_un, q_mA, q_mK, q_uA, q_uK, q_g6, q_rm, q_dv, q_ltl, q_lel, q_llt, q_lle, q_eql, q_lt, q_le, q_eq, q_m1F, if_pos, if_neg, if_true, if_false, h4]
      rw [r_shf_e]
    · simp -implicitDefEqProofs (disch := first | assumption | omega) only [zLet_eq, zCall_some, zCallu_some, q_cq, zBool_0, zBool_1, q_gn, q_gl, q_sn, q_sl, q_al, q_la, q_ml, q_lm, q_ue, q_un, q_mA, q_mK, q_uA, q_uK, q_g6, q_rm, q_dv, q_ltl, q_lel, q_llt, q_lle, q_eql, q_lt, q_le, q_eq, q_m1F, if_pos, if_neg, if_true, if_false, h4]
      rw [ih (j + 1) _ (by omega) (by omega) (by omega) (by rw [q_un (by omega)]; exact h4), r_shf_s (by omega) (by omega)]
theorem r_w83 (N : Nat) {F : ST} {q : Bool} {ρ ρ1 A C H : ST} (h : RR F q ρ A C H) {p l : Nat} (hp : p < 6) (hn : ¬ A (12 + p) 0 = -1) (hl : l < 40) (h26 : ρ1 1 26 = nI l) (hc : ∀ c, c ≠ 1 → ρ1 c = ρ c) (hk : ∀ k, k ≠ 26 → (k < 614 ∨ 774 ≤ k) → ρ1 1 k = ρ 1 k) (w : Int32) (h22 : qa_log A (A 2 0) (A (12 + p) 0) (A (12 + p) 4) w 22 2 = nI (l + 1)) (h23 : ∀ k, k < 4 * l → ρ1 1 (614 + k) = qa_log A (A 2 0) (A (12 + p) 0) (A (12 + p) 4) w 23 k) (g0 : qa_log A (A 2 0) (A (12 + p) 0) (A (12 + p) 4) w 23 (4 * l) = A 2 0) (g1 : qa_log A (A 2 0) (A (12 + p) 0) (A (12 + p) 4) w 23 (4 * l + 1) = A (12 + p) 0) (g2 : qa_log A (A 2 0) (A (12 + p) 0) (A (12 + p) 4) w 23 (4 * l + 2) = A (12 + p) 4) (g3 : qa_log A (A 2 0) (A (12 + p) 0) (A (12 + p) 4) w 23 (4 * l + 3) = w) :
    ∃ ρ', mR_widens_83 N ρ1 (nI (542 + 12 * p)) w (A (12 + p) 4) = some ρ' ∧ RR F q ρ' (zUp (zUp (qa_log A (A 2 0) (A (12 + p) 0) (A (12 + p) 4) w) (12 + p) 4 w) 2 17 (if A 2 17 < w then w else A 2 17)) C H ∧ ∀ k, 30 ≤ k → k < 542 → ρ' 1 k = ρ 1 k := by
  have e10 : ρ1 1 10 = A 2 0 := by rw [hk 10 (by omega) (by omega)]; exact h.2.1.1 0 10 (by unfold cmap; omega)
  have e23 : ρ1 1 23 = A 2 17 := by rw [hk 23 (by omega) (by omega)]; exact h.2.1.1 17 23 (by unfold cmap; omega)
  have es1 : ρ1 1 (542 + 12 * p + 1) = A (12 + p) 0 := by rw [hk _ (by omega) (by omega)]; exact RR_sr h (k := 0) hp hn (by omega)
  rw [mR_widens_83]
  simp -implicitDefEqProofs (disch := first | assumption | omega) only [zLet_eq, zCall_some, zCallu_some, q_cq, zBool_0, zBool_1, q_gn, q_gl, q_sn, q_sl, q_al, q_la, q_ml, q_lm, q_ue, q_un, q_mA, q_mK, q_uA, q_uK, q_g6, q_rm, q_dv, h26, e10, e23, es1, mR_widens_197]
  generalize hL : qa_log A (A 2 0) (A (12 + p) 0) (A (12 + p) 4) w = L at *
  have hR : RR F q (zUp (zUp (zUp (zUp (zUp ρ1 1 (614 + 4 * l) (A 2 0)) 1 (614 + 4 * l + 1) (A (12 + p) 0)) 1 (614 + 4 * l + 2) (A (12 + p) 4)) 1 (614 + 4 * l + 3) w) 1 26 (nI (l + 1))) L C H := by
    refine RR_l h ?_ ?_ ?_ ⟨l + 1, by omega, h22, q_ue rfl rfl, ?_⟩
    · intro c hc1
      simp -implicitDefEqProofs (disch := first | assumption | omega) only [q_uc]
      exact hc c hc1
    · intro k k1 k2
      simp -implicitDefEqProofs (disch := first | assumption | omega) only [q_un]
      exact hk k k1 k2
    · intro c c1 c2
      rw [← hL]
      exact qa_log_c c1 c2
    · intro k hk4
      rcases (show k < 4 * l ∨ k = 4 * l ∨ k = 4 * l + 1 ∨ k = 4 * l + 2 ∨ k = 4 * l + 3 by omega) with e | e | e | e | e
      · simp -implicitDefEqProofs (disch := first | assumption | omega) only [q_un]
        exact h23 k e
      · subst e; simp -implicitDefEqProofs (disch := first | assumption | omega) only [q_un, q_ue]; exact g0.symm
      · subst e; simp -implicitDefEqProofs (disch := first | assumption | omega) only [q_un, q_ue]; exact g1.symm
      · subst e; simp -implicitDefEqProofs (disch := first | assumption | omega) only [q_un, q_ue]; exact g2.symm
      · subst e; simp -implicitDefEqProofs (disch := first | assumption | omega) only [q_un, q_ue]; exact g3.symm
  have hS := RR_s hR (p := p) (k := 4) hp (by omega) (by omega) w
  rw [show 543 + 12 * p + 4 = 542 + 12 * p + 5 by omega] at hS
  by_cases e : A 2 17 < w
  · rw [if_pos e, if_neg (show ¬ w ≤ A 2 17 by rw [i_le]; rw [i_lt] at e; omega)]
    exact ⟨_, rfl, RR_n hS (k := 17) (i := 23) (by unfold cmap; omega) (by omega) (by omega) w, fun k k1 k2 => by simp -implicitDefEqProofs (disch := first | assumption | omega) only [q_un]; exact hk k (by omega) (by omega)⟩
  · rw [if_neg e, if_pos (show w ≤ A 2 17 by rw [i_le]; rw [i_lt] at e; omega)]
    exact ⟨_, rfl, RR_n hS (k := 17) (i := 23) (by unfold cmap; omega) (by omega) (by omega) (A 2 17), fun k k1 k2 => by simp -implicitDefEqProofs (disch := first | assumption | omega) only [q_un]; exact hk k (by omega) (by omega)⟩
theorem r_widens (N : Nat) (hN : 200 < N) {F : ST} {q : Bool} {ρ A C H : ST} (h : RR F q ρ A C H) {p : Nat} (hp : p < 6) (hn : ¬ A (12 + p) 0 = -1) (w : Int32) : ∃ ρ', mR_widens N ρ (nI (542 + 12 * p)) w = some ρ' ∧ RR F q ρ' (qa_widen A p w) C H ∧ ∀ k, 30 ≤ k → k < 542 → ρ' 1 k = ρ 1 k := by
  have e5 : ρ 1 (542 + 12 * p + 5) = A (12 + p) 4 := RR_sr h (k := 4) hp hn (by omega)
  obtain ⟨l, l1, l2, l3⟩ := h.2.2.2.1
  have e26 : ρ 1 26 = nI l := by rw [h.2.1.2.2.2, l2]
  rw [mR_widens]
  simp -implicitDefEqProofs (disch := first | assumption | omega) only [zLet_eq, zCall_some, zCallu_some, q_cq, zBool_0, zBool_1, q_gn, q_gl, q_sn, q_sl, q_al, q_la, q_ml, q_lm, q_ue, q_un, q_mA, q_mK, q_uA, q_uK, q_g6, q_rm, q_dv, e5, e26]
  unfold qa_widen
  by_cases e : A (12 + p) 4 = w
  · rw [if_pos e, if_pos e.symm]
    exact ⟨ρ, rfl, h, fun _ _ _ => rfl⟩
  · rw [if_neg e, if_neg (show ¬ w = A (12 + p) 4 from fun z => e z.symm)]
    by_cases el : l = 40
    · subst el
      rw [if_pos (show nI 40 = 40 from rfl)]
      simp -implicitDefEqProofs (disch := first | assumption | omega) only [q_sb, zLet_eq, zCall_some, zCallu_some, q_cq, zBool_0, zBool_1, q_gn, q_gl, q_sn, q_sl, q_al, q_la, q_ml, q_lm, q_ue, q_un, q_mA, q_mK, q_uA, q_uK, q_g6, q_rm, q_dv]
      have e40 : A 22 2 = 40 := l2
      have key := r_wshift N (nI (542 + 12 * p)) w (A (12 + p) 4) N 614 (zUp ρ 1 26 (nI (40 - 1))) (by omega) (by omega) (by omega) (by rw [q_ue rfl rfl])
      show ∃ ρ', zIt (mR_widens_B43 N) (fun _ _ _ _ _ => none) N (zUp ρ 1 26 (nI (40 - 1))) (nI (542 + 12 * p)) w (A (12 + p) 4) (nI 614) = some ρ' ∧ _
      rw [key]
      refine r_w83 N h (l := 39) hp hn (by omega) ?_ ?_ ?_ w ?_ ?_ ?_ ?_ ?_ ?_
      · unfold r_shf; rw [if_neg (by omega), q_ue rfl rfl]
      · intro c hc; funext k; unfold r_shf; rw [if_neg (by omega), q_un (by omega)]
      · intro k k1 k2; unfold r_shf; rw [if_neg (by omega), q_un (by omega)]
      · unfold qa_log; rw [if_pos e40]; exact l2
      · intro k hk
        unfold r_shf qa_log
        rw [if_pos (by omega), if_pos e40, q_un (by omega), if_pos rfl, if_pos (by omega), ← l3 (k + 4) (by omega)]
        congr 1
      · unfold qa_log; rw [if_pos e40]; simp -implicitDefEqProofs (disch := first | assumption | omega) only [q_ltl, q_lel, q_llt, q_lle, q_eql, q_lt, q_le, q_eq, q_m1F, if_pos, if_neg, if_true, if_false]
      · unfold qa_log; rw [if_pos e40]; simp -implicitDefEqProofs (disch := first | assumption | omega) only [q_ltl, q_lel, q_llt, q_lle, q_eql, q_lt, q_le, q_eq, q_m1F, if_pos, if_neg, if_true, if_false]
      · unfold qa_log; rw [if_pos e40]; simp -implicitDefEqProofs (disch := first | assumption | omega) only [q_ltl, q_lel, q_llt, q_lle, q_eql, q_lt, q_le, q_eq, q_m1F, if_pos, if_neg, if_true, if_false]
      · unfold qa_log; rw [if_pos e40]; simp -implicitDefEqProofs (disch := first | assumption | omega) only [q_ltl, q_lel, q_llt, q_lle, q_eql, q_lt, q_le, q_eq, q_m1F, if_pos, if_neg, if_true, if_false]
    · have e40 : ¬ A 22 2 = 40 := fun w => by
        rw [l2] at w
        exact el (nI_inj (by omega) (by omega) w)
      have ecl : (A 22 2).toNatClampNeg = l := by rw [l2]; exact nI_clamp (by omega)
      rw [if_neg (show ¬ nI l = 40 from fun w => el (nI_inj (by omega) (by omega) w))]
      refine r_w83 N h (l := l) hp hn (by omega) e26 (fun _ _ => rfl) (fun _ _ _ => rfl) w ?_ ?_ ?_ ?_ ?_ ?_
      · unfold qa_log; rw [if_neg e40, q_ue rfl rfl, l2]; exact nI_1 l
      · intro k hk
        unfold qa_log
        rw [if_neg e40, ecl]
        simp -implicitDefEqProofs (disch := first | assumption | omega) only [q_un]
        exact l3 k hk
      · unfold qa_log; rw [if_neg e40, ecl]; simp -implicitDefEqProofs (disch := first | assumption | omega) only [q_un, q_ue]
      · unfold qa_log; rw [if_neg e40, ecl]; simp -implicitDefEqProofs (disch := first | assumption | omega) only [q_un, q_ue]
      · unfold qa_log; rw [if_neg e40, ecl]; simp -implicitDefEqProofs (disch := first | assumption | omega) only [q_un, q_ue]
      · unfold qa_log; rw [if_neg e40, ecl]; simp -implicitDefEqProofs (disch := first | assumption | omega) only [q_un, q_ue]
theorem i_add1sub1 (a : Int32) : a + 1 - 1 = a := by
  apply Int32.toBitVec_inj.mp
  simp
theorem half_eq {w m : Int32} (h0 : 0 ≤ w.toInt) (h1 : w.toInt ≤ m.toInt) (h2 : 1 ≤ m.toInt) (h3 : m.toInt ≤ 32) : (if qa_half w < m then qa_half w else m) = (if w ≤ 1 then 1 else w / 2) := by
  obtain ⟨j, hj, e⟩ := nI_of (x := w) (fun q => by
    have := i_lt.mp q
    rw [show (0 : Int32).toInt = 0 from by decide] at this
    omega)
  subst e
  rw [nI_toInt hj] at h0 h1
  have ed : nI j / 2 = nI (j / 2) := pk_div hj (by decide) (by decide)
  have e1 : (1 : Int32).toInt = 1 := by decide
  unfold qa_half
  rw [ed]
  by_cases c1 : j ≤ 1
  · rw [if_pos (show nI j ≤ 1 by rw [i_le, nI_toInt hj, e1]; omega), if_neg (show ¬ 1 < nI (j / 2) by rw [i_lt, nI_toInt (by omega), e1]; omega)]
    by_cases c2 : (1 : Int32) < m
    · rw [if_pos c2]
    · rw [if_neg c2]
      rw [i_lt, e1] at c2
      exact i_eq.mpr (by omega)
  · rw [if_neg (show ¬ nI j ≤ 1 by rw [i_le, nI_toInt hj, e1]; omega)]
    by_cases c3 : 1 < j / 2
    · rw [if_pos (show 1 < nI (j / 2) by rw [i_lt, nI_toInt (by omega), e1]; omega), if_pos (show nI (j / 2) < m by rw [i_lt, nI_toInt (by omega)]; omega)]
    · rw [if_neg (show ¬ 1 < nI (j / 2) by rw [i_lt, nI_toInt (by omega), e1]; omega), if_pos (show (1 : Int32) < m by rw [i_lt, e1]; omega)]
      exact i_eq.mpr (by rw [nI_toInt (by omega), e1]; omega)
/-- a place is emptied -/
theorem RR_out {F : ST} {q : Bool} {ρ A C H : ST} (h : RR F q ρ A C H) {i b : Nat} (hi : i < 64) (hr : nI i < A 1 0) (hb : b < 10000) (he : RRe ρ A C i b) : RR F q (zUp ρ 1 (30 + 8 * i) 0) A (zUp C b 0 0) H := by
  obtain ⟨h1, h2, h3, h4, h5, h6, h7, h8, h9⟩ := h
  obtain ⟨r, r1, r2, r3, r4, r5⟩ := h6
  have hir : i < r := by
    rw [r2, i_lt, nI_toInt (by omega), nI_toInt (by omega)] at hr
    omega
  have hnz : ¬ ρ 1 (30 + 8 * i) = 0 := by rw [he.1]; exact nI_ne0 (by omega) (by omega)
  refine ⟨RRt_o h1 (by omega), ⟨(RRn_o h2 (by omega)).1, ?_, (RRn_o h2 (by omega)).2.2.1, (RRn_o h2 (by omega)).2.2.2⟩, RRs_o h3 (by omega), RRl_o h4 (by omega), RRh_o h5 (by omega), ⟨r, r1, r2, fun j hj => ?_, fun c hc hcc => ?_, fun j k hj hk => ?_⟩, RRd_o h7 (by omega) (by omega), RRx_o h8 (by omega) (by omega), fun hq => RRp_o (h9 hq)⟩
  · rw [q_un (by omega), q_un (by omega)]; exact h2.2.1
  · by_cases e : j = i
    · subst e
      exact Or.inl (q_ue rfl rfl)
    · rcases r3 j hj with z | ⟨c, hc, z⟩
      · exact Or.inl (by rw [q_un (by omega)]; exact z)
      · have hcb : c ≠ b := fun w => by
          subst w
          exact e (r5 j i hj hir (by rw [z.1, he.1]) (by rw [z.1]; exact nI_ne0 (by omega) (by omega)))
        refine Or.inr ⟨c, hc, ?_⟩
        have := RRe_o (k := 30 + 8 * i) (v := 0) z (by omega)
        unfold RRe at *
        rw [q_uc hcb]
        exact this
  · have hcb : c ≠ b := fun w => by
      rw [q_ue w rfl] at hcc
      exact absurd hcc (by decide)
    rw [q_uc hcb] at hcc
    obtain ⟨j, hj, z⟩ := r4 c hc hcc
    refine ⟨j, hj, ?_⟩
    by_cases e : j = i
    · subst e
      rw [he.1] at z
      have := nI_inj (by omega) (by omega) z
      omega
    · rw [q_un (by omega)]; exact z
  · intro e hz
    have e1 : j ≠ i := fun w => hz (q_ue rfl (by omega))
    have e2 : k ≠ i := fun w => by
      rw [e] at hz
      exact hz (q_ue rfl (by omega))
    rw [q_un (by omega), q_un (by omega)] at e
    rw [q_un (by omega)] at hz
    exact r5 j k hj hk e hz
theorem RRe_A {ρ ρ' A A' C : ST} {i b : Nat} (h : RRe ρ A C i b) (h1 : ∀ k, 30 + 8 * i ≤ k → k < 38 + 8 * i → ρ' 1 k = ρ 1 k) (h2 : A' 26 = A 26) : RRe ρ' A' C i b := by
  unfold RRe at *
  rw [h2, h1 _ (by omega) (by omega), h1 _ (by omega) (by omega), h1 _ (by omega) (by omega), h1 _ (by omega) (by omega), h1 _ (by omega) (by omega), h1 _ (by omega) (by omega), h1 _ (by omega) (by omega), h1 _ (by omega) (by omega)]
  exact h
theorem r_goes (N : Nat) (hN : 200 < N) {F : ST} {q : Bool} {ρ A C H : ST} {t : Nat} (h : RR F q ρ A C H) (g : Gd A C t) {i b : Nat} (hi : i < 64) (hr : nI i < A 1 0) (hb : b < 10000) (he : RRe ρ A C i b) : ∃ ρ', mR_goes N ρ (nI (30 + 8 * i)) = some ρ' ∧ RR F q ρ' (if C b 5 = 1 then qa_waste A (C b 3) else A) (zUp C b 0 0) H := by
  have htb := GT_b g.1.1
  have hc0 := he.2.1
  have e33 : ρ 1 (30 + 8 * i + 3) = C b 5 := by rw [show 30 + 8 * i + 3 = 33 + 8 * i by omega]; exact he.2.2.2.2.1
  have e34 : ρ 1 (30 + 8 * i + 4) = C b 3 + 1 := by rw [show 30 + 8 * i + 4 = 34 + 8 * i by omega]; exact he.2.2.2.2.2.1
  have e16 : ρ 1 16 = A 2 6 := h.2.1.1 6 16 (by unfold cmap; omega)
  rw [mR_goes]
  simp -implicitDefEqProofs (disch := first | assumption | omega) only [zLet_eq, zCall_some, zCallu_some, q_cq, zBool_0, zBool_1, q_gn, q_gl, q_sn, q_sl, q_al, q_la, q_ml, q_lm, q_ue, q_un, q_mA, q_mK, q_uA, q_uK, q_g6, q_rm, q_dv, e33]
  by_cases e5 : C b 5 = 1
  · rw [if_pos e5, if_pos e5]
    have hno := (g.2.1.2.1 b hb hc0).2.2.2.2.2.2.2.1 e5
    have hw := RR_w h
    have he2 : RRe (zUp (zUp ρ 1 16 (A 2 6 + 1)) 0 16 (ρ 0 16 + 1)) (zUp A 2 6 (A 2 6 + 1)) C i b := RRe_A he (fun k _ _ => by rw [q_un (by omega), q_un (by omega)]) (q_uc (by omega))
    simp -implicitDefEqProofs (disch := first | assumption | omega) only [zLet_eq, zCall_some, zCallu_some, q_cq, zBool_0, zBool_1, q_gn, q_gl, q_sn, q_sl, q_al, q_la, q_ml, q_lm, q_ue, q_un, q_mA, q_mK, q_uA, q_uK, q_g6, q_rm, q_dv, e16, e34, i_add1sub1, r_streamOf N (show 6 < N by omega) hw _ hno, streamOf_up]
    unfold qa_waste
    cases hq : qa_streamOf A (C b 3) with
    | none =>
      rw [if_pos (show qa_eR none = -1 from rfl), mR_goes_97]
      simp -implicitDefEqProofs (disch := first | assumption | omega) only [zLet_eq, zCall_some, zCallu_some, q_cq, zBool_0, zBool_1, q_gn, q_gl, q_sn, q_sl, q_al, q_la, q_ml, q_lm, q_ue, q_un, q_mA, q_mK, q_uA, q_uK, q_g6, q_rm, q_dv]
      exact ⟨_, rfl, RR_out hw hi (by rw [q_un (by omega)]; exact hr) hb he2⟩
    | some p =>
      obtain ⟨hp, hnum, -⟩ := qa_streamOf_lt hq
      have hnp : ¬ A (12 + p) 0 = -1 := by rw [hnum]; exact hno
      have hnp2 : ¬ zUp A 2 6 (A 2 6 + 1) (12 + p) 0 = -1 := by rw [q_un (by omega)]; exact hnp
      rw [show qa_eR (some p) = nI (542 + 12 * p) from rfl, if_neg (q_m1 (by omega))]
      have e11 : ρ 1 (542 + 12 * p + 11) = A (12 + p) 10 := RR_sr h (k := 10) hp hnp (by omega)
      have e45 : ρ 1 (542 + 12 * p + 5) = A (12 + p) 4 := RR_sr h (k := 4) hp hnp (by omega)
      have hs := RR_s hw (p := p) (k := 10) hp (by omega) (by omega) (A (12 + p) 10 + 1)
      rw [show 543 + 12 * p + 10 = 542 + 12 * p + 11 by omega] at hs
      have he3 := RRe_A (ρ' := zUp (zUp (zUp ρ 1 16 (A 2 6 + 1)) 0 16 (ρ 0 16 + 1)) 1 (542 + 12 * p + 11) (A (12 + p) 10 + 1)) (A' := zUp (zUp A 2 6 (A 2 6 + 1)) (12 + p) 10 (A (12 + p) 10 + 1)) he2 (fun k _ _ => by rw [q_un (by omega)]) (q_uc (by omega))
      have hg := g.1.2.2.1 p hp hnp
      have hhalf := half_eq (w := A (12 + p) 4) (m := A 1 3) hg.2.2.2.2.2.2.2.2.1 hg.2.2.2.2.2.2.2.2.2.1 (by omega) (by omega)
      have fin : ∀ v : Int32, v = (if A (12 + p) 4 ≤ 1 then 1 else A (12 + p) 4 / 2) → ∃ ρ', mR_goes_94 N (zUp (zUp (zUp ρ 1 16 (A 2 6 + 1)) 0 16 (ρ 0 16 + 1)) 1 (542 + 12 * p + 11) (A (12 + p) 10 + 1)) (nI (30 + 8 * i)) (nI (542 + 12 * p)) (nI (542 + 12 * p)) v = some ρ' ∧ RR F q ρ' (qa_change (zUp (zUp A 2 6 (A 2 6 + 1)) (12 + p) 10 (A (12 + p) 10 + 1)) p (qa_half (A (12 + p) 4))) (zUp C b 0 0) H := fun v hv => by
        obtain ⟨ρ2, w1, w2, w3⟩ := r_widens N hN hs hp (by simp -implicitDefEqProofs (disch := first | assumption | omega) only [q_un]; exact hnp) v
        rw [mR_goes_94, w1, zCallu_some, mR_goes_97]
        simp -implicitDefEqProofs (disch := first | assumption | omega) only [zLet_eq, zCall_some, zCallu_some, q_cq, zBool_0, zBool_1, q_gn, q_gl, q_sn, q_sl, q_al, q_la, q_ml, q_lm, q_ue, q_un, q_mA, q_mK, q_uA, q_uK, q_g6, q_rm, q_dv]
        have ech : qa_change (zUp (zUp A 2 6 (A 2 6 + 1)) (12 + p) 10 (A (12 + p) 10 + 1)) p (qa_half (A (12 + p) 4)) = qa_widen (zUp (zUp A 2 6 (A 2 6 + 1)) (12 + p) 10 (A (12 + p) 10 + 1)) p v := by
          unfold qa_change
          simp -implicitDefEqProofs (disch := first | assumption | omega) only [q_un]
          rw [hhalf, ← hv]
        rw [ech]
        refine ⟨_, rfl, RR_out w2 hi ?_ hb ?_⟩
        · rw [qa_widen_c (by omega) (by omega) (by omega) (by omega)]
          simp -implicitDefEqProofs (disch := first | assumption | omega) only [q_un]
          exact hr
        · exact RRe_A he3 (fun k k1 k2 => w3 k (by omega) (by omega)) (qa_widen_c (by omega) (by omega) (by omega) (by omega))
      simp -implicitDefEqProofs (disch := first | assumption | omega) only [zLet_eq, zCall_some, zCallu_some, q_cq, zBool_0, zBool_1, q_gn, q_gl, q_sn, q_sl, q_al, q_la, q_ml, q_lm, q_ue, q_un, q_mA, q_mK, q_uA, q_uK, q_g6, q_rm, q_dv, e11, e45, zDiv2]
      by_cases c1 : A (12 + p) 4 ≤ 1
      · rw [if_pos c1]
        exact fin 1 (by rw [if_pos c1])
      · rw [if_neg c1]
        exact fin _ (by rw [if_neg c1])
  · rw [if_neg e5, if_neg e5, mR_goes_97]
    simp -implicitDefEqProofs (disch := first | assumption | omega) only [zLet_eq, zCall_some, zCallu_some, q_cq, zBool_0, zBool_1, q_gn, q_gl, q_sn, q_sl, q_al, q_la, q_ml, q_lm, q_ue, q_un, q_mA, q_mK, q_uA, q_uK, q_g6, q_rm, q_dv]
    exact ⟨_, rfl, RR_out h hi hr hb he⟩
