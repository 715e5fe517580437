/-! THE REFERENCE: more updates; streams, log -/
theorem RR_w {F : ST} {q : Bool} {ρ A C H : ST} (h : RR F q ρ A C H) : RR F q (zUp (zUp ρ 1 16 (A 2 6 + 1)) 0 16 (ρ 0 16 + 1)) (zUp A 2 6 (A 2 6 + 1)) C H := by
  obtain ⟨h1, h2, h3, h4, h5, h6, h7, h8, h9⟩ := h
  have e16 : ρ 1 16 = A 2 6 := h2.1 6 16 (by unfold cmap; omega)
  have g : ∀ σ : ST, RRt σ A → RRt (zUp σ 0 16 (ρ 0 16 + 1)) A := fun σ hs j hj => by rw [q_un (by omega)]; exact hs j hj
  refine ⟨RRt_A (g _ (RRt_o h1 (by omega))) (by omega), ⟨fun j m hj => ?_, ?_, ?_, ?_⟩, RRs_A (fun p hp => ?_) (by omega), RRl_A ?_ (by omega) (by omega), ?_, RRc_A ?_ (by omega) (by omega), RRd_A (RRd_o (RRd_o h7 (by omega) (by omega)) (by omega) (by omega)) (by omega), ?_, fun hq => RRp_A ?_ (by omega) (by omega)⟩
  · rw [q_un (by omega)]
    by_cases e : j = 6
    · rw [q_ue rfl (by unfold cmap at hj; omega), q_ue rfl e]
    · rw [q_un (by unfold cmap at hj; omega), q_un (by omega)]
      exact h2.1 j m hj
  · rw [q_un (by omega), q_un (by omega)]; exact h2.2.1
  · rw [q_un (by omega), q_un (by omega)]; exact h2.2.2.1
  · rw [q_un (by omega), q_un (by omega), q_un (by omega)]; exact h2.2.2.2
  · rw [q_uc (by omega)]
    exact RRs_o h3 (by omega) p hp
  · unfold RRl
    rw [q_uc (by omega)]
    exact RRl_o h4 (by omega)
  · unfold RRh
    rw [q_uc (by omega)]
    exact RRh_o h5 (by omega)
  · unfold RRc RRe
    rw [q_uc (by omega)]
    exact RRc_o h6 (by omega)
  · refine ⟨fun c c0 c1 c2 => ?_, fun k k1 k2 k3 => ?_, ?_, ?_, ?_⟩
    · rw [q_uc c0, q_uc c1]; exact h8.1 c c0 c1 c2
    · rw [q_un (by omega), q_un (by omega)]; exact h8.2.1 k k1 k2 k3
    · rw [q_ue rfl rfl, q_un (by omega), q_ue rfl rfl, ← e16, i_sub11]
      exact h8.2.2.1
    · rw [q_un (by omega), q_un (by omega), q_un (by omega), q_un (by omega)]
      exact h8.2.2.2.1
    · rw [q_un (by omega), q_un (by omega)]; exact h8.2.2.2.2
  · obtain ⟨j, a1, a2, a3, a4⟩ := h9 hq
    exact ⟨j, a1, a2, by rw [q_un (by omega), q_un (by omega)]; exact a3, fun i hi => by rw [q_un (by omega), q_un (by omega)]; exact a4 i hi⟩
theorem RR_sh {F : ST} {q : Bool} {ρ A C H : ST} (h : RR F q ρ A C H) : RR F q (zUp (zUp ρ 1 17 (A 2 7 + 1)) 0 15 (ρ 0 15 + 1)) (zUp A 2 7 (A 2 7 + 1)) C H := by
  obtain ⟨h1, h2, h3, h4, h5, h6, h7, h8, h9⟩ := h
  have e17 : ρ 1 17 = A 2 7 := h2.1 7 17 (by unfold cmap; omega)
  have g : ∀ σ : ST, RRt σ A → RRt (zUp σ 0 15 (ρ 0 15 + 1)) A := fun σ hs j hj => by rw [q_un (by omega)]; exact hs j hj
  refine ⟨RRt_A (g _ (RRt_o h1 (by omega))) (by omega), ⟨fun j m hj => ?_, ?_, ?_, ?_⟩, RRs_A (fun p hp => ?_) (by omega), RRl_A ?_ (by omega) (by omega), ?_, RRc_A ?_ (by omega) (by omega), RRd_A (RRd_o (RRd_o h7 (by omega) (by omega)) (by omega) (by omega)) (by omega), ?_, fun hq => RRp_A ?_ (by omega) (by omega)⟩
  · rw [q_un (by omega)]
    by_cases e : j = 7
    · rw [q_ue rfl (by unfold cmap at hj; omega), q_ue rfl e]
    · rw [q_un (by unfold cmap at hj; omega), q_un (by omega)]
      exact h2.1 j m hj
  · rw [q_un (by omega), q_un (by omega)]; exact h2.2.1
  · rw [q_un (by omega), q_un (by omega)]; exact h2.2.2.1
  · rw [q_un (by omega), q_un (by omega), q_un (by omega)]; exact h2.2.2.2
  · rw [q_uc (by omega)]
    exact RRs_o h3 (by omega) p hp
  · unfold RRl
    rw [q_uc (by omega)]
    exact RRl_o h4 (by omega)
  · unfold RRh
    rw [q_uc (by omega)]
    exact RRh_o h5 (by omega)
  · unfold RRc RRe
    rw [q_uc (by omega)]
    exact RRc_o h6 (by omega)
  · refine ⟨fun c c0 c1 c2 => ?_, fun k k1 k2 k3 => ?_, ?_, ?_, ?_⟩
    · rw [q_uc c0, q_uc c1]; exact h8.1 c c0 c1 c2
    · rw [q_un (by omega), q_un (by omega)]; exact h8.2.1 k k1 k2 k3
    · rw [q_un (by omega), q_un (by omega), q_un (by omega), q_un (by omega)]
      exact h8.2.2.1
    · rw [q_ue rfl rfl, q_un (by omega), q_ue rfl rfl, ← e17, i_sub11]
      exact h8.2.2.2.1
    · rw [q_un (by omega), q_un (by omega)]; exact h8.2.2.2.2
  · obtain ⟨j, a1, a2, a3, a4⟩ := h9 hq
    exact ⟨j, a1, a2, by rw [q_un (by omega), q_un (by omega)]; exact a3, fun i hi => by rw [q_un (by omega), q_un (by omega)]; exact a4 i hi⟩
/-- scratch of a read: how, its -/
theorem RR_0 {F : ST} {q : Bool} {ρ A C H : ST} (h : RR F q ρ A C H) {k : Nat} (hk : k = 11 ∨ k = 12) (v : Int32) : RR (zUp F 0 k v) q (zUp ρ 0 k v) A C H := by
  obtain ⟨h1, h2, h3, h4, h5, h6, h7, h8, h9⟩ := h
  refine ⟨fun j hj => by rw [q_un (by omega)]; exact h1 j hj, ⟨fun j m hj => ?_, ?_, ?_, ?_⟩, fun p hp => ?_, ?_, ?_, ?_, RRd_o h7 (by omega) (by omega), ?_, fun hq => ?_⟩
  · rw [q_un (by omega)]; exact h2.1 j m hj
  · rw [q_un (by omega)]; exact h2.2.1
  · rw [q_un (by omega)]; exact h2.2.2.1
  · rw [q_un (by omega)]; exact h2.2.2.2
  · rw [q_uc (by omega)]; exact h3 p hp
  · unfold RRl; rw [q_uc (by omega)]; exact h4
  · unfold RRh; rw [q_uc (by omega)]; exact h5
  · unfold RRc RRe; rw [q_uc (by omega)]; exact h6
  · refine ⟨fun c c0 c1 c2 => ?_, fun j k1 k2 k3 => ?_, ?_, ?_, ?_⟩
    · rw [q_uc c0, q_uc c0]; exact h8.1 c c0 c1 c2
    · by_cases e : j = k
      · rw [q_ue rfl e, q_ue rfl e]
      · rw [q_un (by omega), q_un (by omega)]; exact h8.2.1 j k1 k2 k3
    · rw [q_un (by omega), q_un (by omega), q_un (by omega), q_un (by omega)]; exact h8.2.2.1
    · rw [q_un (by omega), q_un (by omega), q_un (by omega), q_un (by omega)]; exact h8.2.2.2.1
    · rw [q_un (by omega)]; exact h8.2.2.2.2
  · obtain ⟨j, a1, a2, a3, a4⟩ := h9 hq
    exact ⟨j, a1, a2, by rw [q_un (by omega)]; exact a3, fun i hi => by rw [q_un (by omega)]; exact a4 i hi⟩
theorem RR_09 {F : ST} {q : Bool} {ρ A C H : ST} (h : RR F q ρ A C H) (v : Int32) : RR F q ρ (zUp A 0 9 v) C H := by
  obtain ⟨h1, h2, h3, h4, h5, h6, h7, h8, h9⟩ := h
  refine ⟨RRt_A h1 (by omega), RRn_A h2 (by omega) (by omega), RRs_A h3 (by omega), RRl_A h4 (by omega) (by omega), h5, RRc_A h6 (by omega) (by omega), RRd_A h7 (by omega), h8, fun hq => ?_⟩
  obtain ⟨j, a1, a2, a3, a4⟩ := h9 hq
  exact ⟨j, a1, by rw [q_un (by omega)]; exact a2, a3, fun i hi => by rw [q_un (by omega)]; exact a4 i hi⟩
/-- a stream's word -/
theorem RR_s {F : ST} {q : Bool} {ρ A C H : ST} (h : RR F q ρ A C H) {p k : Nat} (hp : p < 6) (hk : k < 11) (h0 : k ≠ 0) (v : Int32) : RR F q (zUp ρ 1 (543 + 12 * p + k) v) (zUp A (12 + p) k v) C H := by
  obtain ⟨h1, h2, h3, h4, h5, h6, h7, h8, h9⟩ := h
  refine ⟨RRt_A (RRt_o h1 (by omega)) (by omega), RRn_A (RRn_o h2 (by omega)) (by omega) (by omega), fun r hr => ?_, RRl_A (RRl_o h4 (by omega)) (by omega) (by omega), RRh_o h5 (by omega), RRc_A (RRc_o h6 (by omega)) (by omega) (by omega), RRd_A (RRd_o h7 (by omega) (by omega)) (by omega), RRx_o h8 (by omega) (by omega), fun hq => RRp_A (RRp_o (h9 hq)) (by omega) (by omega)⟩
  rw [q_un (by omega), q_un (by omega)]
  rcases h3 r hr with ⟨a1, a2⟩ | ⟨a1, a2, a3⟩
  · exact Or.inl ⟨a1, a2⟩
  · refine Or.inr ⟨a1, a2, fun j hj => ?_⟩
    by_cases e : r = p ∧ j = k
    · rw [q_ue rfl (by omega), q_ue (by omega) e.2]
    · rw [q_un (by omega), q_un (by omega)]
      exact a3 j hj
theorem RR_sr {F : ST} {q : Bool} {ρ A C H : ST} (h : RR F q ρ A C H) {p k : Nat} (hp : p < 6) (hn : ¬ A (12 + p) 0 = -1) (hk : k < 11) : ρ 1 (542 + 12 * p + (k + 1)) = A (12 + p) k := by
  rcases h.2.2.1 p hp with ⟨a1, a2⟩ | ⟨a1, a2, a3⟩
  · exact absurd a2 hn
  · rw [show 542 + 12 * p + (k + 1) = 543 + 12 * p + k by omega]
    exact a3 k hk
theorem RR_s1 {F : ST} {q : Bool} {ρ A C H : ST} (h : RR F q ρ A C H) {p : Nat} (hp : p < 6) : (ρ 1 (542 + 12 * p) = 1) ↔ ¬ A (12 + p) 0 = -1 := by
  rcases h.2.2.1 p hp with ⟨a1, a2⟩ | ⟨a1, a2, a3⟩
  · rw [a1, a2]
    exact ⟨fun q => absurd q (by decide), fun q => absurd rfl q⟩
  · rw [a1]
    exact ⟨fun _ => a2, fun _ => rfl⟩
theorem RR_s0 {F : ST} {q : Bool} {ρ A C H : ST} (h : RR F q ρ A C H) {p : Nat} (hp : p < 6) : (ρ 1 (542 + 12 * p) = 0) ↔ A (12 + p) 0 = -1 := by
  rcases h.2.2.1 p hp with ⟨a1, a2⟩ | ⟨a1, a2, a3⟩
  · rw [a1, a2]
    exact ⟨fun _ => rfl, fun _ => rfl⟩
  · rw [a1]
    exact ⟨fun q => absurd q (by decide), fun q => absurd q a2⟩
theorem RR_lv {F : ST} {q : Bool} {ρ A C H : ST} (h : RR F q ρ A C H) {p : Nat} (hp : p < 6) : RR F q (zUp ρ 1 (542 + 12 * p) 0) (zUp A (12 + p) 0 (-1)) C H := by
  obtain ⟨h1, h2, h3, h4, h5, h6, h7, h8, h9⟩ := h
  refine ⟨RRt_A (RRt_o h1 (by omega)) (by omega), RRn_A (RRn_o h2 (by omega)) (by omega) (by omega), fun r hr => ?_, RRl_A (RRl_o h4 (by omega)) (by omega) (by omega), RRh_o h5 (by omega), RRc_A (RRc_o h6 (by omega)) (by omega) (by omega), RRd_A (RRd_o h7 (by omega) (by omega)) (by omega), RRx_o h8 (by omega) (by omega), fun hq => RRp_A (RRp_o (h9 hq)) (by omega) (by omega)⟩
  by_cases e : r = p
  · subst e
    exact Or.inl ⟨q_ue rfl rfl, q_ue rfl rfl⟩
  · rw [q_un (by omega), q_uc (show 12 + r ≠ 12 + p by omega)]
    rcases h3 r hr with ⟨a1, a2⟩ | ⟨a1, a2, a3⟩
    · exact Or.inl ⟨a1, a2⟩
    · exact Or.inr ⟨a1, a2, fun j hj => by rw [q_un (by omega)]; exact a3 j hj⟩
/-- the log's part alone changes -/
theorem RR_l {F : ST} {q : Bool} {ρ ρ' A A' C H : ST} (h : RR F q ρ A C H) (hc : ∀ c, c ≠ 1 → ρ' c = ρ c) (hk : ∀ k, k ≠ 26 → (k < 614 ∨ 774 ≤ k) → ρ' 1 k = ρ 1 k) (hA : ∀ c, c ≠ 22 → c ≠ 23 → A' c = A c) (hl : ∃ l, l ≤ 40 ∧ A' 22 2 = nI l ∧ ρ' 1 26 = nI l ∧ ∀ k, k < 4 * l → ρ' 1 (614 + k) = A' 23 k) : RR F q ρ' A' C H := by
  obtain ⟨h1, h2, h3, h4, h5, h6, h7, h8, h9⟩ := h
  obtain ⟨l, l1, l2, l3, l4⟩ := hl
  refine ⟨fun j hj => ?_, ⟨fun j m hj => ?_, ?_, ?_, ?_⟩, fun p hp => ?_, ⟨l, l1, l2, l4⟩, ?_, ?_, fun b hb => ?_, ?_, fun hq => ?_⟩
  · rw [hk j (by omega) (by omega), hA 1 (by omega) (by omega)]; exact h1 j hj
  · have : m ≠ 26 ∧ m < 614 := by unfold cmap at hj; omega
    rw [hk m this.1 (by omega), hA 2 (by omega) (by omega)]; exact h2.1 j m hj
  · rw [hk 21 (by omega) (by omega)]; exact h2.2.1
  · rw [hk 22 (by omega) (by omega)]; exact h2.2.2.1
  · rw [l2, l3]
  · rw [hA (12 + p) (by omega) (by omega), hk (542 + 12 * p) (by omega) (by omega)]
    rcases h3 p hp with ⟨a1, a2⟩ | ⟨a1, a2, a3⟩
    · exact Or.inl ⟨a1, a2⟩
    · exact Or.inr ⟨a1, a2, fun j hj => by rw [hk _ (by omega) (by omega)]; exact a3 j hj⟩
  · obtain ⟨n, n1, n2, n3⟩ := h5
    exact ⟨n, n1, n2, fun i hi => by rw [hk _ (by omega) (by omega), hk _ (by omega) (by omega), hk _ (by omega) (by omega)]; exact n3 i hi⟩
  · obtain ⟨r, r1, r2, r3, r4, r5⟩ := h6
    refine ⟨r, r1, by rw [hA 1 (by omega) (by omega)]; exact r2, fun i hi => ?_, fun b hb hcb => ?_, fun i j hi hj => ?_⟩
    · rw [hk _ (by omega) (by omega)]
      rcases r3 i hi with e | ⟨b, hb, e⟩
      · exact Or.inl e
      · refine Or.inr ⟨b, hb, ?_⟩
        unfold RRe at *
        rw [hA 26 (by omega) (by omega), hk _ (by omega) (by omega), hk _ (by omega) (by omega), hk _ (by omega) (by omega), hk _ (by omega) (by omega), hk _ (by omega) (by omega), hk _ (by omega) (by omega), hk _ (by omega) (by omega), hk _ (by omega) (by omega)]
        exact e
    · obtain ⟨i, hi, e⟩ := r4 b hb hcb
      exact ⟨i, hi, by rw [hk _ (by omega) (by omega)]; exact e⟩
    · rw [hk _ (by omega) (by omega), hk _ (by omega) (by omega)]
      exact r5 i j hi hj
  · rw [hc 4 (by omega), hc 5 (by omega), hA 26 (by omega) (by omega)]; exact h7 b hb
  · refine ⟨fun c c0 c1 c2 => ?_, fun j k1 k2 k3 => ?_, ?_, ?_, ?_⟩
    · rw [hc c c1]; exact h8.1 c c0 c1 c2
    · rw [hc 0 (by omega)]; exact h8.2.1 j k1 k2 k3
    · rw [hc 0 (by omega), hk 16 (by omega) (by omega)]; exact h8.2.2.1
    · rw [hc 0 (by omega), hk 17 (by omega) (by omega)]; exact h8.2.2.2.1
    · rw [hc 0 (by omega)]; exact h8.2.2.2.2
  · obtain ⟨j, a1, a2, a3, a4⟩ := h9 hq
    exact ⟨j, a1, by rw [hA 0 (by omega) (by omega)]; exact a2, by rw [hc 0 (by omega)]; exact a3, fun i hi => by rw [hc 14 (by omega), hA 24 (by omega) (by omega)]; exact a4 i hi⟩
/-! the small methods over streams -/
theorem r_streamAt (N : Nat) (ρ : ST) (p : Nat) : mR_streamAt N ρ (nI p) = some (nI (542 + 12 * p), ρ) := pR_streamAt N ρ p
theorem r_streamOf_loop (N : Nat) {F : ST} {q : Bool} {ρ A C H : ST} (h : RR F q ρ A C H) (num : Int32) (hn : ¬ num = -1) : ∀ m j : Nat, j ≤ 6 → 6 - j < m → zIt (mR_streamOf_B2 N) (fun _ _ _ => none) m ρ num (nI j) = some (qa_eR (qa_first (fun p => decide (A (12 + p) 0 = num)) (6 - j) j), ρ) := by
  intro m
  induction m with
  | zero => intro j h1 h2; omega
  | succ m ih =>
    intro j hj hm
    rw [zIt_s, mR_streamOf_B2]
    by_cases e : j = 6
    · subst e
      simp -implicitDefEqProofs (disch := first | assumption | omega) only [zLet_eq, zCall_some, zCallu_some, q_cq, zBool_0, zBool_1, q_gn, q_gl, q_sn, q_sl, q_al, q_la, q_ml, q_lm, q_ue, q_un, q_mA, q_mK, q_uA, q_uK, q_g6, q_rm, q_dv, q_ltl, q_lel, q_llt, q_lle, q_eql, q_lt, q_le, q_eq, q_m1F, if_pos, if_neg, if_true, if_false]
      rfl
    · have hj6 : j < 6 := by omega
      rw [show 6 - j = (6 - (j + 1)) + 1 by omega, qa_first]
      by_cases e1 : A (12 + j) 0 = -1
      · have e2 : ¬ ρ 1 (542 + 12 * j) = 1 := fun w => (RR_s1 h hj6).mp w e1
        rw [if_neg (show ¬ decide (A (12 + j) 0 = num) = true by rw [e1]; simp; exact fun w => hn w.symm)]
        simp -implicitDefEqProofs (disch := first | assumption | omega) only [zLet_eq, zCall_some, zCallu_some, q_cq, zBool_0, zBool_1, q_gn, q_gl, q_sn, q_sl, q_al, q_la, q_ml, q_lm, q_ue, q_un, q_mA, q_mK, q_uA, q_uK, q_g6, q_rm, q_dv, q_ltl, q_lel, q_llt, q_lle, q_eql, q_lt, q_le, q_eq, q_m1F, if_pos, if_neg, if_true, if_false, r_streamAt, mR_streamOf_41]
        exact ih (j + 1) (by omega) (by omega)
      · have e2 : ρ 1 (542 + 12 * j) = 1 := (RR_s1 h hj6).mpr e1
        have e3 : ρ 1 (542 + 12 * j + 1) = A (12 + j) 0 := RR_sr h (k := 0) hj6 e1 (by omega)
        by_cases e4 : A (12 + j) 0 = num
        · rw [if_pos (show decide (A (12 + j) 0 = num) = true from decide_eq_true e4)]
          simp -implicitDefEqProofs (disch := first | assumption | omega) only [zLet_eq, zCall_some, zCallu_some, q_cq, zBool_0, zBool_1, q_gn, q_gl, q_sn, q_sl, q_al, q_la, q_ml, q_lm, q_ue, q_un, q_mA, q_mK, q_uA, q_uK, q_g6, q_rm, q_dv, q_ltl, q_lel, q_llt, q_lle, q_eql, q_lt, q_le, q_eq, q_m1F, if_pos, if_neg, if_true, if_false, r_streamAt, mR_streamOf_41, e2, e3]
          rfl
        · rw [if_neg (show ¬ decide (A (12 + j) 0 = num) = true by simp [e4])]
          simp -implicitDefEqProofs (disch := first | assumption | omega) only [zLet_eq, zCall_some, zCallu_some, q_cq, zBool_0, zBool_1, q_gn, q_gl, q_sn, q_sl, q_al, q_la, q_ml, q_lm, q_ue, q_un, q_mA, q_mK, q_uA, q_uK, q_g6, q_rm, q_dv, q_ltl, q_lel, q_llt, q_lle, q_eql, q_lt, q_le, q_eq, q_m1F, if_pos, if_neg, if_true, if_false, r_streamAt, mR_streamOf_41, e2, e3]
          exact ih (j + 1) (by omega) (by omega)
theorem r_streamOf (N : Nat) (hN : 6 < N) {F : ST} {q : Bool} {ρ A C H : ST} (h : RR F q ρ A C H) (num : Int32) (hn : ¬ num = -1) : mR_streamOf N ρ num = some (qa_eR (qa_streamOf A num), ρ) := by
  unfold qa_streamOf
  rw [if_neg hn]
  exact r_streamOf_loop N h num hn N 0 (by omega) (by omega)
