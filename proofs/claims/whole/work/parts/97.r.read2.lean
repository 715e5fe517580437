/-! THE REFERENCE: joins, traces, hits -/
theorem q_gna {β : Type} {f : Nat → Int32} {n a i : Nat} {k : Int32 → Option β} (h : a + (OfNat.ofNat i : Nat) < n) (hn : n < 2 ^ 31) : zGet f n (nI a + no_index (OfNat.ofNat i)) k = k (f (a + (OfNat.ofNat i : Nat))) := by
  rw [q_al]; exact zGet_nI h hn
theorem q_sna {β : Type} {σ : ST} {c n a i : Nat} {v : Int32} {k : ST → Option β} (h : a + (OfNat.ofNat i : Nat) < n) (hn : n < 2 ^ 31) : zSet σ c n (nI a + no_index (OfNat.ofNat i)) v k = k (zUp σ c (a + (OfNat.ofNat i : Nat)) v) := by
  rw [q_al]; exact zSet_nI h hn
theorem zc_sAt {β : Type} {N : Nat} {ρ : ST} {p : Nat} {k : Int32 → ST → Option β} : zCall (mR_streamAt N ρ (nI p)) k = k (nI (542 + 12 * p)) ρ := by rw [r_streamAt]; rfl
def itsF (A : ST) (p : Nat) : Int32 := if A (12 + p) 0 = -1 then -1 else nI (542 + 12 * p)
theorem r_join_loop (N : Nat) {F : ST} {q : Bool} {C H : ST} {t p : Nat} {hw : Int32} (hp : p < 6) : ∀ (m r : Nat) {n : Nat} {ρ A : ST}, r + m = 6 → m < n → RR (Fr F hw (itsF A p)) q ρ A C H → Gd A C t → ∃ ρ', zIt (mR_joins_B2 N) (fun _ _ => none) n ρ (nI r) = some ρ' ∧ RR (Fr F hw (itsF (qa_join p m r A) p)) q ρ' (qa_join p m r A) C H := by
  intro m
  induction m with
  | zero =>
    intro r n ρ A hr hn h g
    obtain ⟨n, rfl⟩ : ∃ k, n = k + 1 := ⟨n - 1, by omega⟩
    have : r = 6 := by omega
    subst this
    rw [zIt_s, mR_joins_B2, qa_join]
    simp -implicitDefEqProofs (disch := first | assumption | omega) only [zLet_eq, zCall_some, zCallu_some, q_cq, zBool_0, zBool_1, q_gn, q_gl, q_sn, q_sl, q_al, q_la, q_ml, q_lm, q_ue, q_un, q_mA, q_mK, q_uA, q_uK, q_g6, q_rm, q_dv, q_ltl, q_lel, q_llt, q_lle, q_eql, q_lt, q_le, q_eq, q_m1F, if_pos, if_neg, if_true, if_false, mR_joins_176]
    exact ⟨ρ, rfl, h⟩
  | succ m ih =>
    intro r n ρ A hr hn h g
    obtain ⟨n, rfl⟩ : ∃ k, n = k + 1 := ⟨n - 1, by omega⟩
    rw [zIt_s, mR_joins_B2, qa_join]
    have hr6 : r < 6 := by omega
    have e12 := (RR_11 h).2
    by_cases e1 : A (12 + p) 0 = -1
    · have ei : itsF A p = -1 := by unfold itsF; rw [if_pos e1]
      rw [if_pos e1]
      have n6 : ¬ (6 : Int32) ≤ nI r := nI_ge (a := r) (b := 6) (by omega) (by decide)
      rw [if_neg n6, zLet_eq, e12, if_pos ei]
      exact ⟨ρ, rfl, h⟩
    · have ei : itsF A p = nI (542 + 12 * p) := by unfold itsF; rw [if_neg e1]
      rw [if_neg e1]
      rw [ei] at e12
      have nx := ih (r + 1) (n := n) (ρ := ρ) (A := A) (by omega) (by omega) h g
      have m1 : ¬ nI (542 + 12 * p) = -1 := q_m1 (by omega)
      have n6 : ¬ (6 : Int32) ≤ nI r := nI_ge (a := r) (b := 6) (by omega) (by decide)
      by_cases e2 : r = p
      · rw [if_pos (Or.inl e2)]
        subst e2
        simp -implicitDefEqProofs (disch := first | assumption | omega) only [↓reduceIte, ↓zLet_eq, ↓q_gn, ↓q_gl, ↓q_gna, ↓q_sn, ↓q_sl, ↓q_sna, ↓zc_sAt, ↓zCall_some, ↓zCallu_some, ↓q_cq, zBool_0, zBool_1, q_al, q_la, q_ml, q_lm, q_ue, q_un, q_mA, q_mK, q_uA, q_uK, n6, e12, m1, mR_joins_170]
        exact nx
      · have e2' : ¬ nI (542 + 12 * r) = nI (542 + 12 * p) := fun w => e2 (by have := nI_inj (by omega) (by omega) w; omega)
        by_cases e3 : A (12 + r) 0 = -1
        · have e3' : ¬ ρ 1 (542 + 12 * r) = 1 := fun w => (RR_s1 h hr6).mp w e3
          rw [if_pos (Or.inr (Or.inl e3))]
          simp -implicitDefEqProofs (disch := first | assumption | omega) only [↓reduceIte, ↓zLet_eq, ↓q_gn, ↓q_gl, ↓q_gna, ↓q_sn, ↓q_sl, ↓q_sna, ↓zc_sAt, ↓zCall_some, ↓zCallu_some, ↓q_cq, zBool_0, zBool_1, q_al, q_la, q_ml, q_lm, q_ue, q_un, q_mA, q_mK, q_uA, q_uK, n6, e12, m1, e2', e3', mR_joins_170]
          exact nx
        · have e3' : ρ 1 (542 + 12 * r) = 1 := (RR_s1 h hr6).mpr e3
          have ep3 : ρ 1 (542 + 12 * p + 3) = A (12 + p) 2 := RR_sr h (k := 2) hp e1 (by omega)
          have ep2 : ρ 1 (542 + 12 * p + 2) = A (12 + p) 1 := RR_sr h (k := 1) hp e1 (by omega)
          have ep1 : ρ 1 (542 + 12 * p + 1) = A (12 + p) 0 := RR_sr h (k := 0) hp e1 (by omega)
          have er3 : ρ 1 (542 + 12 * r + 3) = A (12 + r) 2 := RR_sr h (k := 2) hr6 e3 (by omega)
          have er2 : ρ 1 (542 + 12 * r + 2) = A (12 + r) 1 := RR_sr h (k := 1) hr6 e3 (by omega)
          have er1 : ρ 1 (542 + 12 * r + 1) = A (12 + r) 0 := RR_sr h (k := 0) hr6 e3 (by omega)
          have e24 : ρ 1 24 = A 2 19 := h.2.1.1 19 24 (by unfold cmap; omega)
          by_cases e4 : A (12 + p) 2 = 0
          · rw [if_pos (Or.inr (Or.inr (Or.inl e4)))]
            rw [e4] at ep3
            simp -implicitDefEqProofs (disch := first | assumption | omega) only [↓reduceIte, ↓zLet_eq, ↓q_gn, ↓q_gl, ↓q_gna, ↓q_sn, ↓q_sl, ↓q_sna, ↓zc_sAt, ↓zCall_some, ↓zCallu_some, ↓q_cq, zBool_0, zBool_1, q_al, q_la, q_ml, q_lm, q_ue, q_un, q_mA, q_mK, q_uA, q_uK, n6, e12, m1, e2', e3', ep3, mR_joins_170]
            exact nx
          · by_cases e5 : A (12 + r) 2 = A (12 + p) 2
            · by_cases e6 : A (12 + r) 1 = A (12 + p) 1
              · rw [if_neg (show ¬ (r = p ∨ A (12 + r) 0 = -1 ∨ A (12 + p) 2 = 0 ∨ ¬ A (12 + r) 2 = A (12 + p) 2 ∨ ¬ A (12 + r) 1 = A (12 + p) 1) from fun w => by rcases w with w | w | w | w | w; exact e2 w; exact e3 w; exact e4 w; exact w e5; exact w e6)]
                have h24 := RR_n h (k := 19) (i := 24) (by unfold cmap; omega) (by omega) (by omega) (A 2 19 + 1)
                have hne : (A (12 + r) 0).toInt ≠ (A (12 + p) 0).toInt := fun w => e2 (g.1.2.2.2.1 r p hr6 hp e3 (i_eq.mpr w))
                rw [e5] at er3
                rw [e6] at er2
                have n10 : ¬ ((1 : Int32) = 0) := by decide
                have body : ∀ σ : ST, σ = zUp ρ 1 24 (A 2 19 + 1) → mR_joins_B2 N (zIt (mR_joins_B2 N) (fun _ _ => none) n) ρ (nI r) = (if A (12 + p) 0 ≤ A (12 + r) 0 then mR_joins_135 N (zIt (mR_joins_B2 N) (fun _ _ => none) n) σ (nI r) (nI (542 + 12 * r)) 0 else mR_joins_135 N (zIt (mR_joins_B2 N) (fun _ _ => none) n) σ (nI r) (nI (542 + 12 * r)) 1) := fun σ hσ => by
                  have s12 : σ 0 12 = nI (542 + 12 * p) := by rw [hσ, q_un (by omega)]; exact e12
                  have sp1 : σ 1 (542 + 12 * p + 1) = A (12 + p) 0 := by rw [hσ, q_un (by omega)]; exact ep1
                  have sr1 : σ 1 (542 + 12 * r + 1) = A (12 + r) 0 := by rw [hσ, q_un (by omega)]; exact er1
                  rw [mR_joins_B2]
                  simp -implicitDefEqProofs (disch := first | assumption | omega) only [↓reduceIte, ↓zLet_eq, ↓q_gn, ↓q_gl, ↓q_gna, ↓q_sn, ↓q_sl, ↓q_sna, ↓zc_sAt, ↓zCall_some, ↓zCallu_some, ↓q_cq, zBool_0, zBool_1, q_al, q_la, q_ml, q_lm, q_ue, q_un, q_mA, q_mK, q_uA, q_uK, n6, e12, m1, e2', e3', ep3, er3, e4, ep2, er2, e24]
                  rw [← hσ, ep1, er1]
                rw [mR_joins_B2] at body
                have s12 : zUp ρ 1 24 (A 2 19 + 1) 0 12 = nI (542 + 12 * p) := by rw [q_un (by omega)]; exact e12
                rw [body _ rfl]
                by_cases e7 : A (12 + r) 0 ≤ A (12 + p) 0
                · have e7' : ¬ A (12 + p) 0 ≤ A (12 + r) 0 := by rw [i_le] at *; omega
                  rw [if_pos e7, if_neg e7', mR_joins_135, if_neg n10, zLet_eq, s12, mR_joins_152, zSet_nI (by omega) (by decide), if_neg n10, mR_joins_167, zLet_eq, mR_joins_170, zLet_eq, nI_1]
                  have hl := RR_09 (RR_its (RR_lv h24 hp) (-1)) (-1)
                  refine ih (r + 1) (n := n) (by omega) (by omega) ?_ (Gd_o (leave_ok (Gd_o g (by omega)) hp) (by omega))
                  rw [show itsF (zUp (zUp (zUp A 2 19 (A 2 19 + 1)) (12 + p) 0 (-1)) 0 9 (-1)) p = -1 from if_pos (by simp -implicitDefEqProofs (disch := first | assumption | omega) only [q_un, q_ue])]
                  exact hl
                · have e7' : A (12 + p) 0 ≤ A (12 + r) 0 := by rw [i_le] at *; omega
                  rw [if_neg e7, if_pos e7', mR_joins_135, if_pos rfl, mR_joins_152, zSet_nI (by omega) (by decide), if_pos rfl, zLet_eq, q_un (by omega), s12, mR_joins_167, zLet_eq, mR_joins_170, zLet_eq, nI_1]
                  have hl := RR_its (RR_lv h24 hr6) (nI (542 + 12 * p))
                  refine ih (r + 1) (n := n) (by omega) (by omega) ?_ (leave_ok (Gd_o g (by omega)) hr6)
                  rw [show itsF (zUp (zUp A 2 19 (A 2 19 + 1)) (12 + r) 0 (-1)) p = nI (542 + 12 * p) from if_neg (by simp -implicitDefEqProofs (disch := first | assumption | omega) only [q_un]; exact e1)]
                  exact hl
              · rw [if_pos (Or.inr (Or.inr (Or.inr (Or.inr e6))))]
                rw [e5] at er3
                simp -implicitDefEqProofs (disch := first | assumption | omega) only [↓reduceIte, ↓zLet_eq, ↓q_gn, ↓q_gl, ↓q_gna, ↓q_sn, ↓q_sl, ↓q_sna, ↓zc_sAt, ↓zCall_some, ↓zCallu_some, ↓q_cq, zBool_0, zBool_1, q_al, q_la, q_ml, q_lm, q_ue, q_un, q_mA, q_mK, q_uA, q_uK, n6, e12, m1, e2', e3', ep3, er3, e4, ep2, er2, e6, mR_joins_170]
                exact nx
            · rw [if_pos (Or.inr (Or.inr (Or.inr (Or.inl e5))))]
              simp -implicitDefEqProofs (disch := first | assumption | omega) only [↓reduceIte, ↓zLet_eq, ↓q_gn, ↓q_gl, ↓q_gna, ↓q_sn, ↓q_sl, ↓q_sna, ↓zc_sAt, ↓zCall_some, ↓zCallu_some, ↓q_cq, zBool_0, zBool_1, q_al, q_la, q_ml, q_lm, q_ue, q_un, q_mA, q_mK, q_uA, q_uK, n6, e12, m1, e2', e3', ep3, er3, e4, e5, mR_joins_170]
              exact nx
/-- the trace's part alone changes -/
theorem RR_h {F : ST} {q : Bool} {ρ ρ' A C H H' : ST} (h : RR F q ρ A C H) (hc : ∀ c, c ≠ 1 → ρ' c = ρ c) (hk : ∀ k, k ≠ 22 → (k < 774 ∨ 1974 ≤ k) → ρ' 1 k = ρ 1 k) (hl : ∃ l, l ≤ 400 ∧ H' 18 4 = nI l ∧ ρ' 1 22 = nI l ∧ ∀ i, i < l → ρ' 1 (774 + 3 * i) = H' 19 i ∧ ρ' 1 (775 + 3 * i) = H' 20 i ∧ ρ' 1 (776 + 3 * i) = H' 21 i) : RR F q ρ' A C H' := by
  obtain ⟨h1, h2, h3, h4, h5, h6, h7, h8, h9⟩ := h
  obtain ⟨l, l1, l2, l3, l4⟩ := hl
  refine ⟨fun j hj => ?_, ⟨fun j m hj => ?_, ?_, ?_, ?_⟩, fun p hp => ?_, ?_, ⟨l, l1, l2, l4⟩, ?_, fun b hb => ?_, ⟨fun c c0 c1 c2 => ?_, fun j k1 k2 k3 => ?_, ?_, ?_, ?_⟩, fun hq => ?_⟩
  · rw [hk j (by omega) (by omega)]; exact h1 j hj
  · have : m ≠ 22 ∧ m < 774 := by unfold cmap at hj; omega
    rw [hk m this.1 (by omega)]; exact h2.1 j m hj
  · rw [hk 21 (by omega) (by omega)]; exact h2.2.1
  · rw [l2, l3]
  · rw [hk 26 (by omega) (by omega)]; exact h2.2.2.2
  · rw [hk (542 + 12 * p) (by omega) (by omega)]
    rcases h3 p hp with ⟨a1, a2⟩ | ⟨a1, a2, a3⟩
    · exact Or.inl ⟨a1, a2⟩
    · exact Or.inr ⟨a1, a2, fun j hj => by rw [hk _ (by omega) (by omega)]; exact a3 j hj⟩
  · obtain ⟨n, n1, n2, n3⟩ := h4
    exact ⟨n, n1, n2, fun k hk4 => by rw [hk _ (by omega) (by omega)]; exact n3 k hk4⟩
  · obtain ⟨r, r1, r2, r3, r4, r5⟩ := h6
    refine ⟨r, r1, r2, fun i hi => ?_, fun b hb hcb => ?_, fun i j hi hj => ?_⟩
    · rw [hk _ (by omega) (by omega)]
      rcases r3 i hi with e | ⟨b, hb, e⟩
      · exact Or.inl e
      · exact Or.inr ⟨b, hb, RRe_A e (fun k k1 k2 => hk k (by omega) (by omega)) rfl⟩
    · obtain ⟨i, hi, e⟩ := r4 b hb hcb
      exact ⟨i, hi, by rw [hk _ (by omega) (by omega)]; exact e⟩
    · rw [hk _ (by omega) (by omega), hk _ (by omega) (by omega)]
      exact r5 i j hi hj
  · rw [hc 4 (by omega), hc 5 (by omega)]; exact h7 b hb
  · rw [hc c c1]; exact h8.1 c c0 c1 c2
  · rw [hc 0 (by omega)]; exact h8.2.1 j k1 k2 k3
  · rw [hc 0 (by omega), hk 16 (by omega) (by omega)]; exact h8.2.2.1
  · rw [hc 0 (by omega), hk 17 (by omega) (by omega)]; exact h8.2.2.2.1
  · rw [hc 0 (by omega)]; exact h8.2.2.2.2
  · obtain ⟨j, a1, a2, a3, a4⟩ := h9 hq
    exact ⟨j, a1, a2, by rw [hc 0 (by omega)]; exact a3, fun m hm => by rw [hc 14 (by omega)]; exact a4 m hm⟩
theorem r_tshift (N : Nat) (x1 x2 : Int32) : ∀ (m j : Nat) (ρ : ST), 774 ≤ j → j ≤ 1971 → 1971 - j < m → ρ 1 22 = nI 399 → zIt (mR_traces_B28 N) (fun _ _ _ _ => none) m ρ x1 x2 (nI j) = mR_traces_65 N (r_shf ρ j 1971 3) x1 x2 := by
  intro m
  induction m with
  | zero => intro j ρ h1 h2 h3; omega
  | succ m ih =>
    intro j ρ h1 h2 h3 h4
    rw [zIt_s, mR_traces_B28]
    by_cases e : j = 1971
    · subst e
      simp -implicitDefEqProofs (disch := first | assumption | omega) only [zLet_eq, zCall_some, zCallu_some, q_cq, zBool_0, zBool_1, q_gn, q_gl, q_sn, q_sl, q_al, q_la, q_ml, q_lm, q_ue, q_un, q_mA, q_mK, q_uA, q_uK, q_g6, q_rm, q_dv, q_ltl, q_lel, q_llt, q_lle, q_eql, q_lt, q_le, q_eq, q_m1F, if_pos, if_neg, if_true, if_false, h4]
      rw [r_shf_e]
    · simp -implicitDefEqProofs (disch := first | assumption | omega) only [zLet_eq, zCall_some, zCallu_some, q_cq, zBool_0, zBool_1, q_gn, q_gl, q_sn, q_sl, q_al, q_la, q_ml, q_lm, q_ue, q_un, q_mA, q_mK, q_uA, q_uK, q_g6, q_rm, q_dv, q_ltl, q_lel, q_llt, q_lle, q_eql, q_lt, q_le, q_eq, q_m1F, if_pos, if_neg, if_true, if_false, h4]
      rw [ih (j + 1) _ (by omega) (by omega) (by omega) (by rw [q_un (by omega)]; exact h4), r_shf_s (by omega) (by omega)]
theorem r_t65 (N : Nat) {F : ST} {q : Bool} {ρ ρ1 A C H H' : ST} (h : RR F q ρ A C H) {l : Nat} {x num kind : Int32} (hl : l < 400) (h22 : ρ1 1 22 = nI l) (h11 : ρ1 0 11 = kind) (hc : ∀ c, c ≠ 1 → ρ1 c = ρ c) (hk : ∀ k, k ≠ 22 → (k < 774 ∨ 1974 ≤ k) → ρ1 1 k = ρ 1 k) (e22 : H' 18 4 = nI (l + 1)) (e23 : ∀ i, i < l → ρ1 1 (774 + 3 * i) = H' 19 i ∧ ρ1 1 (775 + 3 * i) = H' 20 i ∧ ρ1 1 (776 + 3 * i) = H' 21 i) (g0 : H' 19 l = x) (g1 : H' 20 l = num) (g2 : H' 21 l = kind) : ∃ ρ', mR_traces_65 N ρ1 x num = some ρ' ∧ RR F q ρ' A C H' := by
  rw [mR_traces_65]
  simp -implicitDefEqProofs (disch := first | assumption | omega) only [zLet_eq, zCall_some, zCallu_some, q_cq, zBool_0, zBool_1, q_gn, q_gl, q_sn, q_sl, q_al, q_la, q_ml, q_lm, q_ue, q_un, q_mA, q_mK, q_uA, q_uK, q_g6, q_rm, q_dv, h22, h11]
  refine ⟨_, rfl, RR_h h ?_ ?_ ⟨l + 1, by omega, e22, q_ue rfl rfl, ?_⟩⟩
  · intro c hc1; simp -implicitDefEqProofs (disch := first | assumption | omega) only [q_uc]; exact hc c hc1
  · intro k k1 k2; simp -implicitDefEqProofs (disch := first | assumption | omega) only [q_un]; exact hk k k1 k2
  · intro i hi
    by_cases e : i = l
    · subst e
      simp -implicitDefEqProofs (disch := first | assumption | omega) only [q_un, q_ue]
      exact ⟨g0.symm, g1.symm, g2.symm⟩
    · simp -implicitDefEqProofs (disch := first | assumption | omega) only [q_un]
      exact e23 i (by omega)
theorem r_traces (N : Nat) (hN : 1300 < N) {F : ST} {q : Bool} {ρ A C H : ST} {x num kind : Int32} (h : RR F q ρ A C H) (h11 : ρ 0 11 = kind) : ∃ ρ', mR_traces N ρ x num = some ρ' ∧ RR F q ρ' A C (qa_trace H x num kind) := by
  obtain ⟨l, l1, l2, l3⟩ := h.2.2.2.2.1
  have e22 : ρ 1 22 = nI l := by rw [h.2.1.2.2.1, l2]
  rw [mR_traces]
  simp -implicitDefEqProofs (disch := first | assumption | omega) only [zLet_eq, zCall_some, zCallu_some, q_cq, zBool_0, zBool_1, q_gn, q_gl, q_sn, q_sl, q_al, q_la, q_ml, q_lm, q_ue, q_un, q_mA, q_mK, q_uA, q_uK, q_g6, q_rm, q_dv, e22]
  by_cases el : l = 400
  · subst el
    have e4 : H 18 4 = 400 := l2
    rw [if_pos (show nI 400 = 400 from rfl)]
    simp -implicitDefEqProofs (disch := first | assumption | omega) only [zLet_eq, zCall_some, zCallu_some, q_cq, zBool_0, zBool_1, q_gn, q_gl, q_sn, q_sl, q_al, q_la, q_ml, q_lm, q_ue, q_un, q_mA, q_mK, q_uA, q_uK, q_g6, q_rm, q_dv, q_sb]
    have key := r_tshift N x num N 774 (zUp ρ 1 22 (nI (400 - 1))) (by omega) (by omega) (by omega) (by rw [q_ue rfl rfl])
    show ∃ ρ', zIt (mR_traces_B28 N) (fun _ _ _ _ => none) N (zUp ρ 1 22 (nI (400 - 1))) x num (nI 774) = some ρ' ∧ _
    rw [key]
    unfold qa_trace
    rw [if_pos e4]
    refine r_t65 N h (l := 399) (kind := kind) (by omega) ?_ ?_ ?_ ?_ ?_ ?_ ?_ ?_ ?_
    · unfold r_shf; rw [if_neg (by omega), q_ue rfl rfl]
    · unfold r_shf; rw [if_neg (by omega), q_un (by omega)]; exact h11
    · intro c hc; funext k; unfold r_shf; rw [if_neg (by omega), q_un (by omega)]
    · intro k k1 k2; unfold r_shf; rw [if_neg (by omega), q_un (by omega)]
    · exact l2
    · intro i hi
      obtain ⟨m1, m2, m3⟩ := l3 (i + 1) (by omega)
      have si : ∀ k, 774 ≤ k → k < 1971 → r_shf (zUp ρ 1 22 (nI (400 - 1))) 774 1971 3 1 k = ρ 1 (k + 3) := fun k k1 k2 => by
        unfold r_shf
        rw [if_pos ⟨rfl, k1, k2⟩, q_un (by omega)]
      rw [si _ (by omega) (by omega), si _ (by omega) (by omega), si _ (by omega) (by omega), show 774 + 3 * i + 3 = 774 + 3 * (i + 1) by omega, show 775 + 3 * i + 3 = 775 + 3 * (i + 1) by omega, show 776 + 3 * i + 3 = 776 + 3 * (i + 1) by omega, m1, m2, m3]
      simp -implicitDefEqProofs (disch := first | assumption | omega) only [q_ltl, q_lel, q_llt, q_lle, q_eql, q_lt, q_le, q_eq, q_m1F, if_pos, if_neg, if_true, if_false]
      exact ⟨trivial, trivial, trivial⟩
    · simp -implicitDefEqProofs (disch := first | assumption | omega) only [q_ltl, q_lel, q_llt, q_lle, q_eql, q_lt, q_le, q_eq, q_m1F, if_pos, if_neg, if_true, if_false]
    · simp -implicitDefEqProofs (disch := first | assumption | omega) only [q_ltl, q_lel, q_llt, q_lle, q_eql, q_lt, q_le, q_eq, q_m1F, if_pos, if_neg, if_true, if_false]
    · simp -implicitDefEqProofs (disch := first | assumption | omega) only [q_ltl, q_lel, q_llt, q_lle, q_eql, q_lt, q_le, q_eq, q_m1F, if_pos, if_neg, if_true, if_false]
  · have e4 : ¬ H 18 4 = 400 := fun w => by
      rw [l2] at w
      exact el (nI_inj (by omega) (by omega) w)
    have ecl : (H 18 4).toNatClampNeg = l := by rw [l2]; exact nI_clamp (by omega)
    rw [if_neg (show ¬ nI l = 400 from fun w => el (nI_inj (by omega) (by omega) w))]
    unfold qa_trace
    rw [if_neg e4, ecl]
    refine r_t65 N h (l := l) (by omega) e22 h11 (fun _ _ => rfl) (fun _ _ _ => rfl) ?_ ?_ ?_ ?_ ?_
    · rw [q_ue rfl rfl, l2]; exact nI_1 l
    · intro i hi
      simp -implicitDefEqProofs (disch := first | assumption | omega) only [q_un]
      exact l3 i hi
    · simp -implicitDefEqProofs (disch := first | assumption | omega) only [q_un, q_ue]
    · simp -implicitDefEqProofs (disch := first | assumption | omega) only [q_un, q_ue]
    · simp -implicitDefEqProofs (disch := first | assumption | omega) only [q_un, q_ue]
/-- a block in the cache is read -/
theorem RR_touch {F : ST} {q : Bool} {ρ ρ' A C H : ST} (h : RR F q ρ A C H) {i b : Nat} (hi : i < 64) (hr : nI i < A 1 0) (hb : b < 10000) (he : RRe ρ A C i b)
    (hc : ∀ c, c ≠ 1 → ρ' c = ρ c) (hk : ∀ k, k ≠ 21 → k ≠ 32 + 8 * i → k ≠ 33 + 8 * i → k ≠ 35 + 8 * i → ρ' 1 k = ρ 1 k) (k21 : ρ' 1 21 = C 10000 0 + 1) (k2 : ρ' 1 (32 + 8 * i) = C 10000 0 + 1) (k3 : ρ' 1 (33 + 8 * i) = 0) (k5 : ρ' 1 (35 + 8 * i) = C b 2 + 1) : RR F q ρ' A (qa_touch C b) H := by
  obtain ⟨h1, h2, h3, h4, h5, h6, h7, h8, h9⟩ := h
  have hC : qa_touch C b 10000 0 = C 10000 0 + 1 := by simp [qa_touch, show ¬ 10000 = b by omega]
  obtain ⟨r, r1, r2, r3, r4, r5⟩ := h6
  have hir : i < r := by
    rw [r2, i_lt, nI_toInt (by omega), nI_toInt (by omega)] at hr
    omega
  have hee : RRe ρ' A (qa_touch C b) i b := by
    obtain ⟨z0, z1, z2, z3, z4, z5, z6, z7, z8⟩ := he
    refine ⟨?_, ?_, ?_, ?_, ?_, ?_, ?_, ?_, ?_⟩
    · rw [hk _ (by omega) (by omega) (by omega) (by omega)]; exact z0
    · simp [qa_touch, z1]
    · rw [hk _ (by omega) (by omega) (by omega) (by omega)]; exact z2
    · rw [k2]; simp [qa_touch]
    · rw [k3]; simp [qa_touch]
    · rw [hk _ (by omega) (by omega) (by omega) (by omega), z5]; simp [qa_touch]
    · rw [k5]; simp [qa_touch]
    · rw [hk _ (by omega) (by omega) (by omega) (by omega), z7]; simp [qa_touch]
    · rw [hk _ (by omega) (by omega) (by omega) (by omega), z8]; simp [qa_touch]
  refine ⟨fun j hj => ?_, ⟨fun j m hj => ?_, ?_, ?_, ?_⟩, fun p hp => ?_, ?_, ?_, ⟨r, r1, r2, fun j hj => ?_, fun c hcc hcb => ?_, fun j k hj hk2 => ?_⟩, fun c hcc => ?_, ⟨fun c c0 c1 c2 => ?_, fun j k1 k2 k3 => ?_, ?_, ?_, ?_⟩, fun hq => ?_⟩
  · rw [hk j (by omega) (by omega) (by omega) (by omega)]; exact h1 j hj
  · have : m ≠ 21 ∧ m < 30 := by unfold cmap at hj; omega
    rw [hk m (by omega) (by omega) (by omega) (by omega)]; exact h2.1 j m hj
  · rw [k21, hC]
  · rw [hk 22 (by omega) (by omega) (by omega) (by omega)]; exact h2.2.2.1
  · rw [hk 26 (by omega) (by omega) (by omega) (by omega)]; exact h2.2.2.2
  · rw [hk (542 + 12 * p) (by omega) (by omega) (by omega) (by omega)]
    rcases h3 p hp with ⟨a1, a2⟩ | ⟨a1, a2, a3⟩
    · exact Or.inl ⟨a1, a2⟩
    · exact Or.inr ⟨a1, a2, fun j hj => by rw [hk _ (by omega) (by omega) (by omega) (by omega)]; exact a3 j hj⟩
  · obtain ⟨l, l1, l2, l3⟩ := h4
    exact ⟨l, l1, l2, fun k hk4 => by rw [hk _ (by omega) (by omega) (by omega) (by omega)]; exact l3 k hk4⟩
  · obtain ⟨n, n1, n2, n3⟩ := h5
    exact ⟨n, n1, n2, fun j hj => by rw [hk _ (by omega) (by omega) (by omega) (by omega), hk _ (by omega) (by omega) (by omega) (by omega), hk _ (by omega) (by omega) (by omega) (by omega)]; exact n3 j hj⟩
  · by_cases e : j = i
    · subst e
      exact Or.inr ⟨b, hb, hee⟩
    · rw [hk _ (by omega) (by omega) (by omega) (by omega)]
      rcases r3 j hj with z | ⟨c, hcc, z⟩
      · exact Or.inl z
      · refine Or.inr ⟨c, hcc, ?_⟩
        have hcb : c ≠ b := fun w => by
          subst w
          exact e (r5 j i hj hir (by rw [z.1, he.1]) (by rw [z.1]; exact nI_ne0 (by omega) (by omega)))
        have z2 := RRe_A (ρ' := ρ') (A' := A) z (fun k k1 k2 => hk k (by omega) (by omega) (by omega) (by omega)) rfl
        unfold RRe at *
        rw [qa_touch_ne hcb (by omega)]
        exact z2
  · by_cases e : c = b
    · subst e
      exact ⟨i, hir, hee.1⟩
    · rw [qa_touch_ne e (by omega)] at hcb
      obtain ⟨j, hj, z⟩ := r4 c hcc hcb
      exact ⟨j, hj, by rw [hk _ (by omega) (by omega) (by omega) (by omega)]; exact z⟩
  · rw [hk _ (by omega) (by omega) (by omega) (by omega), hk _ (by omega) (by omega) (by omega) (by omega)]
    exact r5 j k hj hk2
  · rw [hc 4 (by omega), hc 5 (by omega)]; exact h7 c hcc
  · rw [hc c c1]; exact h8.1 c c0 c1 c2
  · rw [hc 0 (by omega)]; exact h8.2.1 j k1 k2 k3
  · rw [hc 0 (by omega), hk 16 (by omega) (by omega) (by omega) (by omega)]; exact h8.2.2.1
  · rw [hc 0 (by omega), hk 17 (by omega) (by omega) (by omega) (by omega)]; exact h8.2.2.2.1
  · rw [hc 0 (by omega)]; exact h8.2.2.2.2
  · obtain ⟨j, a1, a2, a3, a4⟩ := h9 hq
    exact ⟨j, a1, a2, by rw [hc 0 (by omega)]; exact a3, fun m hm => by rw [hc 14 (by omega)]; exact a4 m hm⟩
theorem r_h163 (N : Nat) {F : ST} {q : Bool} {ρ A C H : ST} (h : RR F q ρ A C H) {i b : Nat} (hi : i < 64) (hr : nI i < A 1 0) (hb : b < 10000) (he : RRe ρ A C i b) : ∃ ρ', mR_hits_163 N ρ (nI (30 + 8 * i)) = some ρ' ∧ RR F q ρ' A (qa_touch C b) H ∧ ρ' 1 (31 + 8 * i) = ρ 1 (31 + 8 * i) := by
  have e21 : ρ 1 21 = C 10000 0 := h.2.1.2.1
  have e35 : ρ 1 (30 + 8 * i + 5) = C b 2 := by rw [show 30 + 8 * i + 5 = 35 + 8 * i by omega]; exact he.2.2.2.2.2.2.1
  rw [mR_hits_163]
  simp -implicitDefEqProofs (disch := first | assumption | omega) only [zLet_eq, zCall_some, zCallu_some, q_cq, zBool_0, zBool_1, q_gn, q_gl, q_sn, q_sl, q_al, q_la, q_ml, q_lm, q_ue, q_un, q_mA, q_mK, q_uA, q_uK, q_g6, q_rm, q_dv, mR_stamp, e21, e35]
  refine ⟨_, rfl, RR_touch h hi hr hb he ?_ ?_ ?_ ?_ ?_ ?_, ?_⟩
  · intro c hc; simp -implicitDefEqProofs (disch := first | assumption | omega) only [q_uc]
  · intro k k1 k2 k3 k4; simp -implicitDefEqProofs (disch := first | assumption | omega) only [q_un]
  · simp -implicitDefEqProofs (disch := first | assumption | omega) only [q_un, q_ue]
  · simp -implicitDefEqProofs (disch := first | assumption | omega) only [q_un, q_ue]
  · simp -implicitDefEqProofs (disch := first | assumption | omega) only [q_un, q_ue]
  · simp -implicitDefEqProofs (disch := first | assumption | omega) only [q_un, q_ue]
  · simp -implicitDefEqProofs (disch := first | assumption | omega) only [q_un]
