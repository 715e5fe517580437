/-! THE CLASS: the cache's put and takeOut -/
theorem qc_mark (N : Nat) {A κ : ST} {b : Nat} (hb : b < 10000) (v : Int32) : mE_X0_mark N (qmix A κ) (nI b) v = some (qmix A (zUp κ 10 b v)) := by
  rw [mE_X0_mark]
  simp (disch := first | assumption | omega) only [zLet_eq, zCall_some, zCallu_some, q_cq, zBool_0, zBool_1, q_gn, q_gl, q_sn, q_sl, q_al, q_la, q_ml, q_lm, q_ue, q_un, q_mA, q_mK, q_uA, q_uK, q_g6, q_rm, q_dv, q_ltl, q_lel, q_llt, q_lle, q_eql, q_lt, q_le, q_eq, q_m1F, if_pos, if_neg, if_true, if_false, mE_X0_mark_18]
theorem qc_put (N : Nat) {A κ C : ST} {b : Nat} (h : RKc κ C) (hb : b < 10000) (hc : ¬ C b 0 = 1) (hq : qin C < 64) (own r : Int32) : ∃ κ', mE_X0_put N (qmix A κ) (nI b) own r = some (qmix A κ') ∧ RKc κ' (qa_put C b own r) ∧ ∀ c, c < 3 ∨ 10 < c → κ' c = κ c := by
  obtain ⟨e9, e8, n, hn, e7, hR⟩ := h
  rw [RKs_n hR hn] at hq
  have hqa := qah_put (own := own) (r := r) hb hc
  have key : ∀ κ' : ST, κ' 3 7 = nI (n + 1) → κ' 3 8 = nI (qah (qa_put C b own r)) → κ' 3 9 = κ 3 9 + 1 → (∀ t, t ≠ n → κ' 4 t = κ 4 t ∧ κ' 5 t = κ 5 t ∧ κ' 6 t = κ 6 t ∧ κ' 7 t = κ 7 t ∧ κ' 8 t = κ 8 t ∧ κ' 9 t = κ 9 t) → κ' 4 n = nI b → κ' 5 n = κ 3 9 + 1 → κ' 6 n = (if own = -1 then 1 else 0) → κ' 7 n = own → κ' 8 n = r → κ' 9 n = (if own = -1 then 0 else 1) → κ' 10 b = nI (n + 1) → (∀ b', b' ≠ b → κ' 10 b' = κ 10 b') → RKc κ' (qa_put C b own r) := by
    intro κ' k7 k8 k9 ko k4 k5 k6 ka kb kc kd ke
    refine ⟨?_, k8, n + 1, by omega, k7, ?_, ?_, ?_⟩
    · rw [k9, e9]
      simp [qa_put, show ¬ 10000 = b by omega]
    · intro t ht
      by_cases e : t = n
      · subst e
        refine ⟨b, hb, ?_, kd, k4, ?_, ?_, ?_, ?_, ?_, ?_⟩
        · simp [qa_put]
        · rw [k5, e9]; simp [qa_put]
        · rw [k6]; simp [qa_put]
        · rw [ka]; simp [qa_put]
        · rw [kb]; simp [qa_put]
        · rw [kc]; simp [qa_put]
        · by_cases ho : own = -1 <;> simp [qa_put, ho]
      · obtain ⟨b', hb', hc', f10, f4, f5, f6, f7, f8, f9, f⟩ := hR.1 t (by omega)
        have hne : b' ≠ b := fun q => by
          subst q
          exact hc hc'
        obtain ⟨m1, m2, m3, m4, m5, m6⟩ := ko t e
        refine ⟨b', hb', ?_⟩
        rw [qa_put_ne hne (by omega), ke b' hne, m1, m2, m3, m4, m5, m6]
        exact ⟨hc', f10, f4, f5, f6, f7, f8, f9, f⟩
    · intro b' hb' hc'
      by_cases e : b' = b
      · subst e; exact ⟨n, by omega, k4⟩
      · rw [qa_put_ne e (by omega)] at hc'
        obtain ⟨s, hs, e4⟩ := hR.2.1 b' hb' hc'
        exact ⟨s, by omega, by rw [(ko s (by omega)).1]; exact e4⟩
    · intro b' hb' hc'
      by_cases e : b' = b
      · subst e
        exact absurd (by simp [qa_put]) hc'
      · rw [qa_put_ne e (by omega)] at hc'
        rw [ke b' e]
        exact hR.2.2 b' hb' hc'
  rw [mE_X0_put]
  by_cases ho : own = -1
  · rw [if_pos ho] at hqa
    simp (disch := first | assumption | omega) only [zLet_eq, zCall_some, zCallu_some, q_cq, zBool_0, zBool_1, q_gn, q_gl, q_sn, q_sl, q_al, q_la, q_ml, q_lm, q_ue, q_un, q_mA, q_mK, q_uA, q_uK, q_g6, q_rm, q_dv, q_ltl, q_lel, q_llt, q_lle, q_eql, q_lt, q_le, q_eq, q_m1F, if_pos, if_neg, if_true, if_false, e7, mE_X0_put_27, mE_X0_put_80, mE_X0_put_127, ho, vn_0, qc_mark]
    refine ⟨_, rfl, ?_, ?_⟩
    · rw [ho] at key
      refine key _ ?_ ?_ ?_ ?_ ?_ ?_ ?_ ?_ ?_ ?_ ?_ ?_
      · simp (disch := first | assumption | omega) only [q_ue, q_un]
      · simp (disch := first | assumption | omega) only [q_ue, q_un, e8]
        rw [← ho, hqa, Nat.add_zero]
      · simp (disch := first | assumption | omega) only [q_ue, q_un]
      · intro t ht
        simp (disch := first | assumption | omega) only [q_ue, q_un, and_self]
      · simp (disch := first | assumption | omega) only [q_ue, q_un]
      · simp (disch := first | assumption | omega) only [q_ue, q_un]
      · simp (disch := first | assumption | omega) only [q_ue, q_un, if_true]
      · simp (disch := first | assumption | omega) only [q_ue, q_un]
      · simp (disch := first | assumption | omega) only [q_ue, q_un]
      · simp (disch := first | assumption | omega) only [q_ue, q_un, if_true]
      · simp (disch := first | assumption | omega) only [q_ue, q_un]
      · intro b' hb'
        simp (disch := first | assumption | omega) only [q_ue, q_un]
    · intro c hc
      simp (disch := first | assumption | omega) only [q_uc]
  · rw [if_neg ho] at hqa
    simp (disch := first | assumption | omega) only [zLet_eq, zCall_some, zCallu_some, q_cq, zBool_0, zBool_1, q_gn, q_gl, q_sn, q_sl, q_al, q_la, q_ml, q_lm, q_ue, q_un, q_mA, q_mK, q_uA, q_uK, q_g6, q_rm, q_dv, q_ltl, q_lel, q_llt, q_lle, q_eql, q_lt, q_le, q_eq, q_m1F, if_pos, if_neg, if_true, if_false, e7, mE_X0_put_27, mE_X0_put_80, mE_X0_put_127, ho, vn_1, qc_mark, show ¬ ((1 : Int32) = 0) by decide]
    refine ⟨_, rfl, ?_, ?_⟩
    · refine key _ ?_ ?_ ?_ ?_ ?_ ?_ ?_ ?_ ?_ ?_ ?_ ?_
      · simp (disch := first | assumption | omega) only [q_ue, q_un]
      · simp (disch := first | assumption | omega) only [q_ue, q_un, e8]
        rw [hqa]
        exact nI_1 _
      · simp (disch := first | assumption | omega) only [q_ue, q_un]
      · intro t ht
        simp (disch := first | assumption | omega) only [q_ue, q_un, and_self]
      · simp (disch := first | assumption | omega) only [q_ue, q_un]
      · simp (disch := first | assumption | omega) only [q_ue, q_un]
      · simp (disch := first | assumption | omega) only [q_ue, q_un, if_neg]
      · simp (disch := first | assumption | omega) only [q_ue, q_un]
      · simp (disch := first | assumption | omega) only [q_ue, q_un]
      · simp (disch := first | assumption | omega) only [q_ue, q_un, if_neg]
      · simp (disch := first | assumption | omega) only [q_ue, q_un]
      · intro b' hb'
        simp (disch := first | assumption | omega) only [q_ue, q_un]
    · intro c hc
      simp (disch := first | assumption | omega) only [q_uc]
theorem qc_takeOut (N : Nat) {A κ C : ST} {b s : Nat} (h : RKc κ C) (hb : b < 10000) (hc : C b 0 = 1) (hs : κ 10 b = nI (s + 1)) (hs2 : s < 64) : ∃ κ', mE_X0_takeOut N (qmix A κ) (nI s) = some (if C b 5 = 1 then C b 3 else -1, qmix A κ') ∧ RKc κ' (zUp C b 0 0) ∧ ∀ c, c < 3 ∨ 10 < c → κ' c = κ c := by
  obtain ⟨e9, e8, n, hn, e7, hR⟩ := h
  obtain ⟨s', hs', g10, g4, g5, g6, g7, g8, g9, g⟩ := RKs_at hR hb hc
  have : s = s' := by
    have := nI_inj (by omega) (by omega) (hs.symm.trans g10)
    omega
  subst this
  have hqa := qah_out hb hc
  obtain ⟨bl, hbl, hcl, l10, l4, l5, l6, l7, l8, l9, lg⟩ := hR.1 (n - 1) (by omega)
  have key : ∀ κ' : ST, κ' 3 7 = nI (n - 1) → κ' 3 8 = nI (qah (zUp C b 0 0)) → κ' 3 9 = κ 3 9 → (∀ t, t ≠ s → κ' 4 t = κ 4 t ∧ κ' 5 t = κ 5 t ∧ κ' 6 t = κ 6 t ∧ κ' 7 t = κ 7 t ∧ κ' 8 t = κ 8 t ∧ κ' 9 t = κ 9 t) → (s ≠ n - 1 → κ' 4 s = κ 4 (n - 1) ∧ κ' 5 s = κ 5 (n - 1) ∧ κ' 6 s = κ 6 (n - 1) ∧ κ' 7 s = κ 7 (n - 1) ∧ κ' 8 s = κ 8 (n - 1) ∧ κ' 9 s = κ 9 (n - 1) ∧ κ' 10 bl = nI (s + 1)) → κ' 10 b = 0 → (∀ b', b' ≠ b → (s ≠ n - 1 → b' ≠ bl) → κ' 10 b' = κ 10 b') → RKc κ' (zUp C b 0 0) := by
    intro κ' k7 k8 k9 ko kl kb ke
    have hbb : ∀ t, t < n → t ≠ s → ∀ b', κ 10 b' = nI (t + 1) → b' ≠ b := fun t ht hts b' e q => by
      subst q
      have := nI_inj (by omega) (by omega) (e.symm.trans g10)
      omega
    refine ⟨?_, k8, n - 1, by omega, k7, ?_, ?_, ?_⟩
    · rw [k9, e9, q_un (by omega)]
    · intro t ht
      by_cases e : t = s
      · subst e
        have hne := hbb (n - 1) (by omega) (by omega) bl (by rw [l10])
        obtain ⟨m1, m2, m3, m4, m5, m6, m7⟩ := kl (by omega)
        refine ⟨bl, hbl, ?_⟩
        rw [q_uc hne, m1, m2, m3, m4, m5, m6, m7]
        exact ⟨hcl, rfl, l4, l5, l6, l7, l8, l9, lg⟩
      · obtain ⟨b', hb', hc', f10, f4, f5, f6, f7, f8, f9, f⟩ := hR.1 t (by omega)
        have hne := hbb t (by omega) e b' f10
        have hnl : b' ≠ bl := fun q => by
          subst q
          have := nI_inj (by omega) (by omega) (f10.symm.trans l10)
          omega
        obtain ⟨m1, m2, m3, m4, m5, m6⟩ := ko t e
        refine ⟨b', hb', ?_⟩
        rw [q_uc hne, ke b' hne (fun _ => hnl), m1, m2, m3, m4, m5, m6]
        exact ⟨hc', f10, f4, f5, f6, f7, f8, f9, f⟩
    · intro b' hb' hc'
      have hne : b' ≠ b := fun q => by
        subst q
        rw [q_ue rfl rfl] at hc'
        exact absurd hc' (by decide)
      rw [q_uc hne] at hc'
      obtain ⟨t, ht, f10, f4, -⟩ := RKs_at hR hb' hc'
      by_cases et : t = n - 1
      · subst et
        by_cases es : s = n - 1
        · subst es
          exact absurd (nI_inj (by omega) (by omega) (f4.symm.trans g4)) hne
        · exact ⟨s, by omega, by rw [(kl es).1]; exact f4⟩
      · have hts : t ≠ s := fun q => by
          subst q
          exact absurd (nI_inj (by omega) (by omega) (f4.symm.trans g4)) hne
        exact ⟨t, by omega, by rw [(ko t hts).1]; exact f4⟩
    · intro b' hb' hc'
      by_cases e : b' = b
      · subst e; exact kb
      · rw [q_uc e] at hc'
        rw [ke b' e (fun _ q => hc' (by rw [q]; exact hcl))]
        exact hR.2.2 b' hb' hc'
  have fin : ∀ κ0 : ST, (∀ c k, ¬ (c = 3 ∧ k = 8) → κ0 c k = κ c k) → κ0 3 8 = nI (qah (zUp C b 0 0)) → ∀ v : Int32, ∃ κ', mE_X0_takeOut_42 N (qmix A κ0) (nI s) v = some (v, qmix A κ') ∧ RKc κ' (zUp C b 0 0) ∧ ∀ c, c < 3 ∨ 10 < c → κ' c = κ c := by
    intro κ0 h0 h8 v
    have i7 : κ0 3 7 = nI n := by rw [h0 3 7 (by omega), e7]
    have i4 : κ0 4 s = nI b := by rw [h0 4 s (by omega), g4]
    have il4 : κ0 4 (n - 1) = nI bl := by rw [h0 4 (n - 1) (by omega), l4]
    have il9 : vp_nar .boolean (κ0 9 (n - 1)) = κ0 9 (n - 1) := by
      rw [h0 9 (n - 1) (by omega), l9]
      rcases lg with q | q
      · rw [q]; exact vn_0
      · rw [q]; exact vn_1
    rw [mE_X0_takeOut_42]
    by_cases es : s = n - 1
    · simp (disch := first | assumption | omega) only [zLet_eq, zCall_some, zCallu_some, q_cq, zBool_0, zBool_1, q_gn, q_gl, q_sn, q_sl, q_al, q_la, q_ml, q_lm, q_ue, q_un, q_mA, q_mK, q_uA, q_uK, q_g6, q_rm, q_dv, q_ltl, q_lel, q_llt, q_lle, q_eql, q_lt, q_le, q_eq, q_m1F, if_pos, if_neg, if_true, if_false, i7, i4, qc_mark, q_sb, mE_X0_takeOut_174]
      refine ⟨_, rfl, key _ ?_ ?_ ?_ ?_ ?_ ?_ ?_, ?_⟩
      · simp (disch := first | assumption | omega) only [q_ue, q_un]
      · simp (disch := first | assumption | omega) only [q_ue, q_un, h8]
      · simp (disch := first | assumption | omega) only [q_ue, q_un, h0]
      · intro t ht
        simp (disch := first | assumption | omega) only [q_ue, q_un, h0, and_self]
      · intro q; exact absurd es q
      · simp (disch := first | assumption | omega) only [q_ue, q_un]
      · intro b' hb' _
        simp (disch := first | assumption | omega) only [q_ue, q_un, h0]
      · intro c hc
        funext k
        simp (disch := first | assumption | omega) only [q_uc, h0]
    · simp (disch := first | assumption | omega) only [zLet_eq, zCall_some, zCallu_some, q_cq, zBool_0, zBool_1, q_gn, q_gl, q_sn, q_sl, q_al, q_la, q_ml, q_lm, q_ue, q_un, q_mA, q_mK, q_uA, q_uK, q_g6, q_rm, q_dv, q_ltl, q_lel, q_llt, q_lle, q_eql, q_lt, q_le, q_eq, q_m1F, if_pos, if_neg, if_true, if_false, i7, i4, il4, il9, qc_mark, q_sb, mE_X0_takeOut_174]
      refine ⟨_, rfl, key _ ?_ ?_ ?_ ?_ ?_ ?_ ?_, ?_⟩
      · simp (disch := first | assumption | omega) only [q_ue, q_un]
      · simp (disch := first | assumption | omega) only [q_ue, q_un, h8]
      · simp (disch := first | assumption | omega) only [q_ue, q_un, h0]
      · intro t ht
        simp (disch := first | assumption | omega) only [q_ue, q_un, h0, and_self]
      · intro q
        simp (disch := first | assumption | omega) only [q_ue, q_un, h0, and_self, l4]
      · have hne : b ≠ bl := fun q => by
          subst q
          have := nI_inj (by omega) (by omega) (g10.symm.trans l10)
          omega
        simp (disch := first | assumption | omega) only [q_ue, q_un]
      · intro b' hb' hl
        have := hl es
        simp (disch := first | assumption | omega) only [q_ue, q_un, h0]
      · intro c hc
        funext k
        simp (disch := first | assumption | omega) only [q_uc, h0]
  rw [mE_X0_takeOut]
  rcases g with g | g
  · have h9 : κ 9 s = 0 := by rw [g9, g]
    have hg : ¬ C b 5 = 1 := by rw [g]; decide
    rw [if_neg hg] at hqa
    rw [if_neg hg]
    simp (disch := first | assumption | omega) only [zLet_eq, zCall_some, zCallu_some, q_cq, zBool_0, zBool_1, q_gn, q_gl, q_sn, q_sl, q_al, q_la, q_ml, q_lm, q_ue, q_un, q_mA, q_mK, q_uA, q_uK, q_g6, q_rm, q_dv, q_ltl, q_lel, q_llt, q_lle, q_eql, q_lt, q_le, q_eq, q_m1F, if_pos, if_neg, if_true, if_false, e7, h9]
    refine fin κ (fun _ _ _ => rfl) ?_ (-1)
    rw [e8]
    rw [show qah (zUp C b 0 0) = qah C by omega]
  · have h9 : κ 9 s = 1 := by rw [g9, g]
    rw [if_pos g] at hqa
    rw [if_pos g]
    simp (disch := first | assumption | omega) only [zLet_eq, zCall_some, zCallu_some, q_cq, zBool_0, zBool_1, q_gn, q_gl, q_sn, q_sl, q_al, q_la, q_ml, q_lm, q_ue, q_un, q_mA, q_mK, q_uA, q_uK, q_g6, q_rm, q_dv, q_ltl, q_lel, q_llt, q_lle, q_eql, q_lt, q_le, q_eq, q_m1F, if_pos, if_neg, if_true, if_false, e7, h9, g7, show ¬ ((1 : Int32) = 0) by decide]
    refine fin _ (fun c k hk => ?_) ?_ (C b 3)
    · simp (disch := first | assumption | omega) only [q_un]
    · simp (disch := first | assumption | omega) only [q_ue, q_un, e8]
      rw [← hqa]
      exact nI_pred _
