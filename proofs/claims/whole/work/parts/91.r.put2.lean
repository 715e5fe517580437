/-! THE REFERENCE: put, fetchAhead -/
theorem r_who (N : Nat) (hN : 64 < N) {F : ST} {q : Bool} {ρ A C H : ST} {t : Nat} (h : RR F q ρ A C H) (g : Gd A C t) (ht : t < 1073741824) (x : Int32) (hxi : ∀ b, b < 10000 → (nI (b + 1) = x + 1 ↔ nI b = x)) (hex : ∃ b, qcand A C x b) : ∃ i, i < 64 ∧ nI i < A 1 0 ∧ RRe ρ A C i (qa_vic A C x) ∧ mR_whoGoes N ρ x = some (nI (30 + 8 * i), ρ) := by
  have htb := GT_b g.1.1
  obtain ⟨r, r1, r2, r3, r4, r5⟩ := h.2.2.2.2.2.1
  have e0 : ρ 1 0 = nI r := by rw [h.1 0 (by omega), r2]
  have e8 : ρ 1 8 = A 1 8 := h.1 8 (by omega)
  have hst := g.2.1.1
  have hb : ∀ i, i < r → ¬ ρ 1 (30 + 8 * i) ≤ 0 → 0 ≤ (ρ 1 (32 + 8 * i)).toInt ∧ (ρ 1 (32 + 8 * i)).toInt < 1073741824 := fun i hi hz => by
    rcases r3 i hi with z | ⟨b, hb, z⟩
    · rw [z] at hz; exact absurd (by decide) hz
    · obtain ⟨b1, b2, -⟩ := g.2.1.2.1 b hb z.2.1
      rw [z.2.2.2.1]
      omega
  have main : ∀ aho : Int32, (¬ aho = 0 ↔ qaho A C) → ∃ i, i < 64 ∧ nI i < A 1 0 ∧ RRe ρ A C i (qa_vic A C x) ∧ mR_whoGoes_31 N ρ x aho = some (nI (30 + 8 * i), ρ) := fun aho ha => by
    have cd : ∀ i b, i < r → b < 10000 → RRe ρ A C i b → (rsc ρ x aho i ↔ qcand A C x b) ∧ rsw ρ i = qw A C b := fun i b hi hb' z => by
      refine ⟨⟨fun w => ⟨hb', z.2.1, fun e => w.2.1 (by rw [z.1]; exact (hxi b hb').mpr e), fun qa => ?_⟩, fun w => ⟨?_, fun e => ?_, fun qa => ?_⟩⟩, ?_⟩
      · rw [← z.2.2.2.2.1]; exact w.2.2 (ha.mpr qa)
      · rw [z.1]; exact nI_nle (by omega) (by omega)
      · rw [z.1] at e
        exact w.2.2.1 ((hxi b hb').mp e)
      · rw [z.2.2.2.2.1]; exact w.2.2.2 (ha.mp qa)
      · unfold rsw qw
        rw [e8, z.2.2.2.1, z.2.2.2.2.2.2.1]
    obtain ⟨v, hI, e⟩ := r_who_loop N r1 e0 x aho hb N 0 (-1) (by omega) (by omega) (Or.inl ⟨rfl, fun i hi => by omega⟩)
    have e' : mR_whoGoes_31 N ρ x aho = some (v, ρ) := e
    rw [e']
    rcases hI with ⟨h1, h2⟩ | ⟨i0, h1, h2, h3, h4⟩
    · obtain ⟨b, hq⟩ := hex
      obtain ⟨i, hi, z⟩ := r4 b hq.1 hq.2.1
      rcases r3 i hi with w | ⟨c, hc, w⟩
      · rw [w] at z
        exact absurd z.symm (nI_ne0 (by have := hq.1; omega) (by have := hq.1; omega))
      · have hbc := hq.1
        have : b + 1 = c + 1 := nI_inj (by omega) (by omega) (z.symm.trans w.1)
        have : b = c := by omega
        subst this
        exact absurd ((cd i b hi hc w).1.mpr hq) (h2 i hi)
    · rcases r3 i0 h1 with w | ⟨b, hb', z⟩
      · have := h3.1
        rw [w] at this
        exact absurd (by decide) this
      · have hv : qvic A C x b := ⟨(cd i0 b h1 hb' z).1.mp h3, fun b' hq => by
          obtain ⟨i, hi, z2⟩ := r4 b' hq.1 hq.2.1
          have hb2 := hq.1
          rcases r3 i hi with w | ⟨c, hc, w⟩
          · rw [w] at z2
            exact absurd z2.symm (nI_ne0 (by omega) (by omega))
          · have : b' + 1 = c + 1 := nI_inj (by omega) (by omega) (z2.symm.trans w.1)
            have : b' = c := by omega
            subst this
            have c1 := cd i b' hi hc w
            have c2 := cd i0 b h1 hb' z
            rw [← c1.2, ← c2.2]
            exact h4 i hi (c1.1.mpr hq)⟩
        rw [qvic_eq g.2.1 hv, h2]
        exact ⟨i0, by omega, by rw [r2, i_lt, nI_toInt (by omega), nI_toInt (by omega)]; omega, z, rfl⟩
  rw [mR_whoGoes]
  simp -implicitDefEqProofs (disch := first | assumption | omega) only [zLet_eq, zCall_some, zCallu_some, q_cq, zBool_0, zBool_1, q_gn, q_gl, q_sn, q_sl, q_al, q_la, q_ml, q_lm, q_ue, q_un, q_mA, q_mK, q_uA, q_uK, q_g6, q_rm, q_dv, e8]
  by_cases hp : A 1 8 = 1
  · have hqa : qah C ≤ 10000 := qcnt_le _ _
    rw [if_pos hp, r_manyA N hN h g]
    simp -implicitDefEqProofs (disch := first | assumption | omega) only [zLet_eq, zCall_some, zCallu_some, q_cq, zBool_0, zBool_1, q_gn, q_gl, q_sn, q_sl, q_al, q_la, q_ml, q_lm, q_ue, q_un, q_mA, q_mK, q_uA, q_uK, q_g6, q_rm, q_dv, e0]
    by_cases ha : nI (qah C) ≤ nI (r / 4)
    · have hna : ¬ qaho A C := fun w => by
        have w2 := w.2
        rw [r2, show (nI r) / (4 : Int32) = nI (r / 4) from pk_div (by omega) (by decide) (by decide), i_lt] at w2
        rw [i_le] at ha
        omega
      rw [if_pos ha, mR_whoGoes_30]
      exact main 0 ⟨fun w => absurd rfl w, fun w => absurd w hna⟩
    · have hna : qaho A C := ⟨hp, by
        rw [r2, show (nI r) / (4 : Int32) = nI (r / 4) from pk_div (by omega) (by decide) (by decide), i_lt]
        rw [i_le] at ha
        omega⟩
      rw [if_neg ha]
      exact main 1 ⟨fun _ => hna, fun _ => by decide⟩
  · rw [if_neg hp, mR_whoGoes_30]
    exact main 0 ⟨fun w => absurd rfl w, fun w => absurd w.1 hp⟩
/-- a free place takes a block -/
theorem RR_put {F : ST} {q : Bool} {ρ ρ' A C H : ST} {r : Nat} (h : RR F q ρ A C H) {i b : Nat} {own : Int32} (r2 : A 1 0 = nI r) (hr : r ≤ 64) (hi : i < r) (hz : ρ 1 (30 + 8 * i) = 0) (hb : b < 10000) (hc0 : ¬ C b 0 = 1)
    (hc : ∀ c, c ≠ 1 → ρ' c = ρ c) (hk : ∀ k, k ≠ 21 → (k < 30 + 8 * i ∨ 38 + 8 * i ≤ k) → ρ' 1 k = ρ 1 k) (k21 : ρ' 1 21 = C 10000 0 + 1) (k0 : ρ' 1 (30 + 8 * i) = nI (b + 1)) (k1 : ρ' 1 (31 + 8 * i) = contF (A 26 b)) (k2 : ρ' 1 (32 + 8 * i) = C 10000 0 + 1) (k3 : ρ' 1 (33 + 8 * i) = (if own = -1 then 0 else 1)) (k4 : ρ' 1 (34 + 8 * i) = own + 1) (k5 : ρ' 1 (35 + 8 * i) = (if own = -1 then 1 else 0)) (k6 : ρ' 1 (36 + 8 * i) = A 2 0) (k7 : ρ' 1 (37 + 8 * i) = (if own = -1 then 0 else 1)) : RR F q ρ' A (qa_put C b own (A 2 0)) H := by
  obtain ⟨h1, h2, h3, h4, h5, h6, h7, h8, h9⟩ := h
  have hC : qa_put C b own (A 2 0) 10000 0 = C 10000 0 + 1 := by simp [qa_put, show ¬ 10000 = b by omega]
  obtain ⟨r', r1', r2', r3, r4, r5⟩ := h6
  have : r' = r := nI_inj (by omega) (by omega) (r2'.symm.trans r2)
  subst this
  have hee : RRe ρ' A (qa_put C b own (A 2 0)) i b := by
    refine ⟨k0, by simp [qa_put], k1, ?_, ?_, ?_, ?_, ?_, ?_⟩
    · rw [k2]; simp [qa_put]
    · rw [k3]; simp [qa_put]
    · rw [k4]; simp [qa_put]
    · rw [k5]; simp [qa_put]
    · rw [k6]; simp [qa_put]
    · rw [k7]; simp [qa_put]
  refine ⟨fun j hj => ?_, ⟨fun j m hj => ?_, ?_, ?_, ?_⟩, fun p hp => ?_, ?_, ?_, ⟨r', hr, r2, fun j hj => ?_, fun c hcc hcb => ?_, fun j k hj hk2 e hz2 => ?_⟩, fun c hcc => ?_, ?_, fun hq => ?_⟩
  · rw [hk j (by omega) (by omega)]; exact h1 j hj
  · have : m ≠ 21 ∧ m < 30 := by unfold cmap at hj; omega
    rw [hk m this.1 (by omega)]; exact h2.1 j m hj
  · rw [k21, hC]
  · rw [hk 22 (by omega) (by omega)]; exact h2.2.2.1
  · rw [hk 26 (by omega) (by omega)]; exact h2.2.2.2
  · rw [hk (542 + 12 * p) (by omega) (by omega)]
    rcases h3 p hp with ⟨a1, a2⟩ | ⟨a1, a2, a3⟩
    · exact Or.inl ⟨a1, a2⟩
    · exact Or.inr ⟨a1, a2, fun j hj => by rw [hk _ (by omega) (by omega)]; exact a3 j hj⟩
  · obtain ⟨l, l1, l2, l3⟩ := h4
    exact ⟨l, l1, l2, fun k hk4 => by rw [hk _ (by omega) (by omega)]; exact l3 k hk4⟩
  · obtain ⟨n, n1, n2, n3⟩ := h5
    exact ⟨n, n1, n2, fun j hj => by rw [hk _ (by omega) (by omega), hk _ (by omega) (by omega), hk _ (by omega) (by omega)]; exact n3 j hj⟩
  · by_cases e : j = i
    · subst e
      exact Or.inr ⟨b, hb, hee⟩
    · rw [hk _ (by omega) (by omega)]
      rcases r3 j hj with z | ⟨c, hcc, z⟩
      · exact Or.inl z
      · refine Or.inr ⟨c, hcc, ?_⟩
        have hcb : c ≠ b := fun w => by
          subst w
          exact hc0 z.2.1
        have z2 := RRe_A (ρ' := ρ') (A' := A) z (fun k k1 k2 => hk k (by omega) (by omega)) rfl
        unfold RRe at *
        rw [qa_put_ne hcb (by omega)]
        exact z2
  · by_cases e : c = b
    · subst e
      exact ⟨i, hi, k0⟩
    · rw [qa_put_ne e (by omega)] at hcb
      obtain ⟨j, hj, z⟩ := r4 c hcc hcb
      have hji : j ≠ i := fun w => by
        subst w
        rw [hz] at z
        exact absurd z.symm (nI_ne0 (by omega) (by omega))
      exact ⟨j, hj, by rw [hk _ (by omega) (by omega)]; exact z⟩
  · have hbn : ∀ m, m < r' → m ≠ i → ¬ ρ' 1 (30 + 8 * m) = nI (b + 1) := fun m hm hmi w => by
      rw [hk _ (by omega) (by omega)] at w
      rcases r3 m hm with z | ⟨c, hcc, z⟩
      · rw [z] at w
        exact absurd w.symm (nI_ne0 (by omega) (by omega))
      · have : c + 1 = b + 1 := nI_inj (by omega) (by omega) (z.1.symm.trans w)
        have : c = b := by omega
        subst this
        exact hc0 z.2.1
    by_cases e1 : j = i
    · by_cases e2 : k = i
      · omega
      · rw [e1, k0] at e
        exact absurd e.symm (hbn k hk2 e2)
    · by_cases e2 : k = i
      · rw [e2, k0] at e
        exact absurd e (hbn j hj e1)
      · rw [hk _ (by omega) (by omega)] at e hz2
        rw [hk _ (by omega) (by omega)] at e
        exact r5 j k hj hk2 e hz2
  · rw [hc 4 (by omega), hc 5 (by omega)]; exact h7 c hcc
  · refine ⟨fun c c0 c1 c2 => ?_, fun j k1 k2 k3 => ?_, ?_, ?_, ?_⟩
    · rw [hc c c1]; exact h8.1 c c0 c1 c2
    · rw [hc 0 (by omega)]; exact h8.2.1 j k1 k2 k3
    · rw [hc 0 (by omega), hk 16 (by omega) (by omega)]; exact h8.2.2.1
    · rw [hc 0 (by omega), hk 17 (by omega) (by omega)]; exact h8.2.2.2.1
    · rw [hc 0 (by omega)]; exact h8.2.2.2.2
  · obtain ⟨j, a1, a2, a3, a4⟩ := h9 hq
    exact ⟨j, a1, a2, by rw [hc 0 (by omega)]; exact a3, fun m hm => by rw [hc 14 (by omega)]; exact a4 m hm⟩
theorem r_put_loop (N : Nat) {F : ST} {q : Bool} {ρ A C H : ST} {b r : Nat} {own x : Int32} (h : RR F q ρ A C H) (hb : b < 10000) (hc0 : ¬ C b 0 = 1) (hr : r ≤ 64) (r2 : A 1 0 = nI r) : ∀ (m j : Nat), r - j < m → (∃ i, j ≤ i ∧ i < r ∧ ρ 1 (30 + 8 * i) = 0) → (∀ i, i < r → ρ 1 (30 + 8 * i) = 0 ∨ ¬ ρ 1 (30 + 8 * i) ≤ 0) → ∃ ρ', zIt (mR_put_B26 N) (fun _ _ _ _ _ => none) m ρ (nI b) x own (nI (30 + 8 * j)) = some ρ' ∧ RR F q ρ' A (qa_put C b own (A 2 0)) H := by
  intro m
  induction m with
  | zero => intro j h1 ⟨i, h2, h3, h4⟩; omega
  | succ m ih =>
    intro j h1 hex hall
    obtain ⟨i, h2, h3, h4⟩ := id hex
    rw [zIt_s, mR_put_B26]
    have e21 : ρ 1 21 = C 10000 0 := h.2.1.2.1
    have e10 : ρ 1 10 = A 2 0 := h.2.1.1 0 10 (by unfold cmap; omega)
    have e4 : ρ 4 b = contF (A 26 b) := (h.2.2.2.2.2.2.1 b hb).1
    by_cases hz : ρ 1 (30 + 8 * j) = 0
    · have hz2 : ρ 1 (30 + 8 * j) ≤ 0 := by rw [hz]; decide
      have hj64 : j < 64 := by omega
      by_cases ho : own = -1
      · simp -implicitDefEqProofs (disch := first | assumption | omega) only [zLet_eq, zCall_some, zCallu_some, q_cq, zBool_0, zBool_1, q_gn, q_gl, q_sn, q_sl, q_al, q_la, q_ml, q_lm, q_ue, q_un, q_mA, q_mK, q_uA, q_uK, q_g6, q_rm, q_dv, q_ltl, q_lel, q_llt, q_lle, q_eql, q_lt, q_le, q_eq, q_m1F, if_pos, if_neg, if_true, if_false, hz2, e4, mR_stamp, e21, e10, mR_put_98, mR_put_129, mR_put_166, ho]
        refine ⟨_, rfl, RR_put (own := -1) h r2 hr (show j < r by omega) hz hb hc0 ?_ ?_ ?_ ?_ ?_ ?_ ?_ ?_ ?_ ?_ ?_⟩
        · intro c hc; simp -implicitDefEqProofs (disch := first | assumption | omega) only [q_uc]
        · intro k k1 k2; simp -implicitDefEqProofs (disch := first | assumption | omega) only [q_un]
        · simp -implicitDefEqProofs (disch := first | assumption | omega) only [q_un, q_ue]
        · simp -implicitDefEqProofs (disch := first | assumption | omega) only [q_un, q_ue]
        · simp -implicitDefEqProofs (disch := first | assumption | omega) only [q_un, q_ue]
        · simp -implicitDefEqProofs (disch := first | assumption | omega) only [q_un, q_ue]
        · simp -implicitDefEqProofs (disch := first | assumption | omega) only [q_un, q_ue, if_true]
        · simp -implicitDefEqProofs (disch := first | assumption | omega) only [q_un, q_ue]
        · simp -implicitDefEqProofs (disch := first | assumption | omega) only [q_un, q_ue, if_true]
        · simp -implicitDefEqProofs (disch := first | assumption | omega) only [q_un, q_ue]
        · simp -implicitDefEqProofs (disch := first | assumption | omega) only [q_un, q_ue, if_true]
      · simp -implicitDefEqProofs (disch := first | assumption | omega) only [zLet_eq, zCall_some, zCallu_some, q_cq, zBool_0, zBool_1, q_gn, q_gl, q_sn, q_sl, q_al, q_la, q_ml, q_lm, q_ue, q_un, q_mA, q_mK, q_uA, q_uK, q_g6, q_rm, q_dv, q_ltl, q_lel, q_llt, q_lle, q_eql, q_lt, q_le, q_eq, q_m1F, if_pos, if_neg, if_true, if_false, hz2, e4, mR_stamp, e21, e10, mR_put_98, mR_put_129, mR_put_166, ho]
        refine ⟨_, rfl, RR_put (own := own) h r2 hr (show j < r by omega) hz hb hc0 ?_ ?_ ?_ ?_ ?_ ?_ ?_ ?_ ?_ ?_ ?_⟩
        · intro c hc; simp -implicitDefEqProofs (disch := first | assumption | omega) only [q_uc]
        · intro k k1 k2; simp -implicitDefEqProofs (disch := first | assumption | omega) only [q_un]
        · simp -implicitDefEqProofs (disch := first | assumption | omega) only [q_un, q_ue]
        · simp -implicitDefEqProofs (disch := first | assumption | omega) only [q_un, q_ue]
        · simp -implicitDefEqProofs (disch := first | assumption | omega) only [q_un, q_ue]
        · simp -implicitDefEqProofs (disch := first | assumption | omega) only [q_un, q_ue]
        · simp -implicitDefEqProofs (disch := first | assumption | omega) only [q_un, q_ue, if_neg]
        · simp -implicitDefEqProofs (disch := first | assumption | omega) only [q_un, q_ue]
        · simp -implicitDefEqProofs (disch := first | assumption | omega) only [q_un, q_ue, if_neg]
        · simp -implicitDefEqProofs (disch := first | assumption | omega) only [q_un, q_ue]
        · simp -implicitDefEqProofs (disch := first | assumption | omega) only [q_un, q_ue, if_neg]
    · have hz2 : ¬ ρ 1 (30 + 8 * j) ≤ 0 := by
        rcases hall j (by omega) with w | w
        · exact absurd w hz
        · exact w
      have hji : j ≠ i := fun w => by
        subst w
        exact hz h4
      simp -implicitDefEqProofs (disch := first | assumption | omega) only [zLet_eq, zCall_some, zCallu_some, q_cq, zBool_0, zBool_1, q_gn, q_gl, q_sn, q_sl, q_al, q_la, q_ml, q_lm, q_ue, q_un, q_mA, q_mK, q_uA, q_uK, q_g6, q_rm, q_dv, q_ltl, q_lel, q_llt, q_lle, q_eql, q_lt, q_le, q_eq, q_m1F, if_pos, if_neg, if_true, if_false, hz2]
      rw [show 30 + 8 * j + 8 = 30 + 8 * (j + 1) by omega]
      exact ih (j + 1) (by omega) ⟨i, by omega, h3, h4⟩ hall
