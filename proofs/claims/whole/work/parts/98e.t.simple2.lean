/-! SIMPLE CALLS THAT CHANGE SOMETHING: stop, write, bad, drop -/
theorem zqQ {β : Type} {f : Option (Option (Fin 6) × ST)} {τ : ST} {v : Option (Fin 6)} {k : Option (Fin 6) → ST → Option β} (e : f = some (v, pE 0 0 τ)) : zCallLq f (iE 0 0 τ) k = k v τ := by rw [zCallLq_eq e, iE_pE (by omega)]
theorem n10 : ¬ ((1 : Int32) = 0) := by decide
theorem strm (N : Nat) {τ A C H ρ F : ST} {q : Bool} (n1 : EngC (pE 0 0 τ) A C H) (h : RR F q ρ A C H) (x : Int32) : (∃ p, ∃ hp : p < 6, x = nI p ∧ ¬ A (12 + p) 0 = -1 ∧ mE_X2_streamAt N (pE 0 0 τ) x = some (some ⟨p, hp⟩, pE 0 0 τ) ∧ mR_isStream N ρ x = some (1, ρ)) ∨ (mE_X2_streamAt N (pE 0 0 τ) x = some (none, pE 0 0 τ) ∧ mR_isStream N ρ x = some (0, ρ)) := by
  have hmx := EngC_mix n1
  have e0 : (0 : Int32).toInt = 0 := by decide
  have e6 : (6 : Int32).toInt = 6 := by decide
  have hin := r_in N ρ x 0 5 (m := 0) (n := 5) (by decide) (by decide)
  by_cases c1 : 0 ≤ x.toInt ∧ x.toInt ≤ 5
  · obtain ⟨d1, d2⟩ := clamp_toInt c1.1
    generalize x.toNatClampNeg = p at *
    subst d2
    have hp : p < 6 := by omega
    rw [if_pos c1] at hin
    by_cases c2 : A (12 + p) 0 = -1
    · refine Or.inr ⟨?_, ?_⟩
      · have := qc_streamAt_no N (κ := pE 0 0 τ) hp c2
        rw [hmx] at this
        exact this
      · have e2 : ¬ ρ 1 (542 + 12 * p) = 1 := fun w => (RR_s1 h hp).mp w c2
        rw [mR_isStream, zLet_eq, hin, zCall_some, if_neg n10]
        simp -implicitDefEqProofs (disch := first | assumption | omega) only [zLet_eq, zCall_some, zCallu_some, q_cq, zBool_0, zBool_1, q_gn, q_gl, q_sn, q_sl, q_al, q_la, q_ml, q_lm, q_ue, q_un, q_mA, q_mK, q_uA, q_uK, q_g6, q_rm, q_dv, r_streamAt, if_neg, mR_isStream_29, mR_isStream_30]
    · refine Or.inl ⟨p, hp, rfl, c2, ?_, ?_⟩
      · have := qc_streamAt N (κ := pE 0 0 τ) hp c2
        rw [hmx] at this
        exact this
      · have e2 : ρ 1 (542 + 12 * p) = 1 := (RR_s1 h hp).mpr c2
        rw [mR_isStream, zLet_eq, hin, zCall_some, if_neg n10]
        simp -implicitDefEqProofs (disch := first | assumption | omega) only [zLet_eq, zCall_some, zCallu_some, q_cq, zBool_0, zBool_1, q_gn, q_gl, q_sn, q_sl, q_al, q_la, q_ml, q_lm, q_ue, q_un, q_mA, q_mK, q_uA, q_uK, q_g6, q_rm, q_dv, r_streamAt, e2, if_true, mR_isStream_30]
  · refine Or.inr ⟨?_, ?_⟩
    · rw [mE_X2_streamAt]
      by_cases c2 : x < 0
      · rw [if_pos c2]; rfl
      · rw [if_neg c2]
        have c3 : 6 ≤ x := by
          rw [i_lt, e0] at c2
          rw [i_le, e6]
          omega
        rw [if_pos c3]; rfl
    · rw [if_neg c1] at hin
      rw [mR_isStream, zLet_eq, hin, zCall_some, if_pos rfl]
      rfl
theorem tau_c {τ A C H : ST} (n1 : EngC (pE 0 0 τ) A C H) {c : Nat} (hc : c ≤ 2 ∨ (11 ≤ c ∧ c ≤ 17) ∨ c = 24) : τ c = A c := by
  rw [n1.1 c (by omega)]
  unfold pE
  rw [if_pos (by omega), show 100 * 0 + c = c by omega]
theorem St_lv {t p : Nat} {A C H : ST} (h : St t A C H) (hp : p < 6) : St t (zUp A (12 + p) 0 (-1)) C H :=
  ⟨leave_ok h.1 hp, GH_A h.2.1 (q_uc (by omega)), fun b hb => by rw [q_uc (by omega)]; exact h.2.2.1 b hb, GX_lv h.2.2.2 hp⟩
theorem s_stop (N : Nat) (κ : Nat) : Sm_stop N (II κ) (II (κ + 1)) := by
  intro τ ρ x hI
  obtain ⟨⟨A, C, H, n1, n2, n3⟩, hr⟩ := id hI
  have hmx := EngC_mix n1
  have hth := RR_thr n2
  rw [mT_X7_stop, mR_stop]
  rcases strm N n1 hth x with ⟨p, hp, ex, hn, k1, k2⟩ | ⟨k1, k2⟩
  · rw [zqQ k1, zLet_eq, k2, zCall_some, if_neg n10]
    subst ex
    have es1 : zUp ρ 0 0 0 1 (542 + 12 * p + 1) = A (12 + p) 0 := RR_sr hth (k := 0) hp hn (by omega)
    have ep : pE 0 0 τ (12 + p) 0 = A (12 + p) 0 := by rw [n1.1 (12 + p) (by omega)]
    have kl : mE_X4_leave N (pE 0 0 τ) ⟨p, hp⟩ = some (qmix (zUp A (12 + p) 0 (-1)) (pE 0 0 τ)) := by
      have : mE_X4_leave N (qmix A (pE 0 0 τ)) ⟨p, hp⟩ = some (qmix (zUp A (12 + p) 0 (-1)) (pE 0 0 τ)) := by
        rw [mE_X4_leave]
        simp -implicitDefEqProofs (disch := first | assumption | omega) only [zLet_eq, zCall_some, zCallu_some, q_cq, zBool_0, zBool_1, q_gn, q_gl, q_sn, q_sl, q_al, q_la, q_ml, q_lm, q_ue, q_un, q_mA, q_mK, q_uA, q_uK, q_g6, q_rm, q_dv]
      rw [hmx] at this
      exact this
    have hl := RR_lv hth hp
    dsimp only
    rw [zLet_eq, zCallLu_eq kl]
    generalize hρ0 : zUp ρ 0 0 0 = ρ0 at *
    simp -implicitDefEqProofs (disch := first | assumption | omega) only [zLet_eq, zCall_some, zCallu_some, q_cq, zBool_0, zBool_1, q_gn, q_gl, q_sn, q_sl, q_al, q_la, q_ml, q_lm, q_ue, q_un, q_mA, q_mK, q_uA, q_uK, q_g6, q_rm, q_dv, r_streamAt, es1, ep]
    refine ⟨_, _, _, rfl, rfl, II_e hI (t := 4100 * κ) (by omega) (C := C) (H := H) ?_ (RR_self hl) (St_lv n3 hp) (fun c hc => ?_)⟩
    · simp -implicitDefEqProofs (disch := first | assumption | omega) only [Rp_eq]
      exact n1.2
    · rw [q_uc (by omega), ← hρ0, q_uc (by omega)]
  · rw [zqQ k1, zLet_eq, k2, zCall_some, if_pos rfl]
    exact ⟨_, _, _, rfl, rfl, II_thr hI⟩
/-! the disk -/
theorem cont_m1 {v : Int32} (h1 : -1000003 ≤ v.toInt) (h2 : v.toInt ≤ 1000002) : contF (-1 - v) = contF v ∧ (0 ≤ -1 - v ↔ ¬ 0 ≤ v) ∧ (-1 - v).toInt = -1 - v.toInt ∧ 0 ≤ (contF v).toInt ∧ (contF v).toInt ≤ 1000002 := by
  have e0 : (0 : Int32).toInt = 0 := by decide
  have em : (-1 : Int32).toInt = -1 := by decide
  have es : (-1 - v).toInt = -1 - v.toInt := by rw [i_sub (by rw [em]; omega) (by rw [em]; omega), em]
  have es2 : (-1 - (-1 - v)).toInt = v.toInt := by rw [i_sub (by rw [em, es]; omega) (by rw [em, es]; omega), em, es]; omega
  have ev : -1 - (-1 - v) = v := i_eq.mpr es2
  unfold contF
  by_cases c : v < 0
  · have c2 : ¬ -1 - v < 0 := by rw [i_lt, e0] at *; omega
    rw [if_pos c, if_neg c2]
    rw [i_lt, e0] at c
    refine ⟨rfl, ?_, es, by omega, by omega⟩
    rw [i_le, i_le, e0]; omega
  · have c2 : -1 - v < 0 := by rw [i_lt, e0] at *; omega
    rw [if_neg c, if_pos c2, ev]
    rw [i_lt, e0] at c
    refine ⟨rfl, ?_, es, by omega, by omega⟩
    rw [i_le, i_le, e0]; omega
theorem St_26 {t b : Nat} {A C H : ST} {v : Int32} (h : St t A C H) (hv : -1000003 ≤ v.toInt ∧ v.toInt ≤ 1000002) : St t (zUp A 26 b v) C H :=
  ⟨Gd_o h.1 (by omega), GH_A h.2.1 (q_uc (by omega)), fun c hc => by
    by_cases e : c = b
    · rw [q_ue rfl e]; exact hv
    · rw [q_un (by omega)]; exact h.2.2.1 c hc, GX_26 h.2.2.2⟩
theorem RR_bad {F ρ A C H : ST} (h : RR F false ρ A C H) {b : Nat} {v w : Int32} (hb : b < 10000) (hv : contF v = contF (A 26 b)) (hw : w = (if 0 ≤ v then 0 else 1)) : RR (zUp ρ 5 b w) false (zUp ρ 5 b w) (zUp A 26 b v) C H := by
  obtain ⟨h1, h2, h3, h4, h5, h6, h7, h8, h9⟩ := h
  have e1 : zUp ρ 5 b w 1 = ρ 1 := q_uc (by omega)
  refine ⟨fun j hj => ?_, ⟨fun j m hj => ?_, ?_, ?_, ?_⟩, fun p hp => ?_, ?_, ?_, ?_, fun c hc => ?_, ⟨fun _ _ _ _ => rfl, fun _ _ _ _ => rfl, rfl, rfl, ?_⟩, fun w => by cases w⟩
  · rw [e1, q_uc (by omega)]; exact h1 j hj
  · rw [e1, q_uc (by omega)]; exact h2.1 j m hj
  · rw [e1]; exact h2.2.1
  · rw [e1]; exact h2.2.2.1
  · rw [e1, q_uc (by omega)]; exact h2.2.2.2
  · rw [e1, q_uc (by omega)]; exact h3 p hp
  · unfold RRl; rw [e1, q_uc (by omega), q_uc (by omega)]; exact h4
  · unfold RRh; rw [e1]; exact h5
  · have hcf : ∀ c, contF (zUp A 26 b v 26 c) = contF (A 26 c) := fun c => by
      by_cases e : c = b
      · rw [q_ue rfl e, e]; exact hv
      · rw [q_un (by omega)]
    unfold RRc RRe
    rw [e1, q_uc (show 1 ≠ 26 by omega)]
    simp only [hcf]
    exact h6
  · by_cases e : c = b
    · subst e
      rw [q_un (by omega), q_ue rfl rfl, q_ue rfl rfl]
      exact ⟨by rw [(h7 c hc).1, hv], hw⟩
    · rw [q_un (by omega), q_un (by omega), q_un (by omega)]
      exact h7 c hc
  · rw [q_un (by omega)]; exact h8.2.2.2.2
theorem s_bad (N : Nat) (κ : Nat) : Sm_bad N (II κ) (II (κ + 1)) := by
  intro τ ρ x y hy hI
  obtain ⟨⟨A, C, H, n1, n2, n3⟩, hr⟩ := id hI
  have hmx := EngC_mix n1
  have hth := RR_thr n2
  have htb := GT_b n3.1.1.1
  have hb1 := qc_has N (A := A) (κ := pE 0 0 τ) (x := x)
  rw [hmx] at hb1
  rw [mT_X7_bad, mR_bad, zqE hb1, zLet_eq, r_isBlock N hth, zCall_some]
  by_cases hv : 0 ≤ x.toInt ∧ x.toInt < (A 1 7).toInt
  · rw [if_pos hv, if_neg n10]
    obtain ⟨c1, c2⟩ := clamp_toInt hv.1
    generalize x.toNatClampNeg = b at c1 c2
    subst c2
    have hb : b < 10000 := by omega
    have kb := qc_bad N (A := A) (κ := pE 0 0 τ) hb
    rw [hmx] at kb
    have e5 : zUp ρ 0 0 0 5 b = (if 0 ≤ A 26 b then 0 else 1) := (hth.2.2.2.2.2.2.1 b hb).2
    rw [zqE kb, if_neg n10]
    have ecm := cont_m1 (n3.2.2.1 b hb).1 (n3.2.2.1 b hb).2
    generalize hρ0 : zUp ρ 0 0 0 = ρ0 at *
    simp -implicitDefEqProofs (disch := first | assumption | omega) only [zLet_eq, zCall_some, zCallu_some, q_cq, zBool_0, zBool_1, q_gn, q_gl, q_sn, q_sl, q_al, q_la, q_ml, q_lm, q_ue, q_un, q_mA, q_mK, q_uA, q_uK, q_g6, q_rm, q_dv, e5]
    by_cases c3 : (if 0 ≤ A 26 b then (0 : Int32) else 1) = y
    · rw [if_pos c3, if_pos c3]
      refine ⟨_, _, _, rfl, rfl, ?_⟩
      rw [← hρ0]
      exact II_thr hI
    · rw [if_neg c3, if_neg c3]
      have kt : mE_X1_turn N (pE 0 0 τ) (nI b) = some (qmix (zUp A 26 b (-1 - A 26 b)) (pE 0 0 τ)) := by
        have : mE_X1_turn N (qmix A (pE 0 0 τ)) (nI b) = some (qmix (zUp A 26 b (-1 - A 26 b)) (pE 0 0 τ)) := by
          rw [mE_X1_turn]
          simp -implicitDefEqProofs (disch := first | assumption | omega) only [zLet_eq, zCall_some, zCallu_some, q_cq, zBool_0, zBool_1, q_gn, q_gl, q_sn, q_sl, q_al, q_la, q_ml, q_lm, q_ue, q_un, q_mA, q_mK, q_uA, q_uK, q_g6, q_rm, q_dv, q_ltl, q_lel, q_llt, q_lle, q_eql, q_lt, q_le, q_eq, q_m1F, if_pos, if_neg, if_true, if_false, mE_X1_turn_25]
        rw [hmx] at this
        exact this
      have ey : vp_nar .boolean y = y := by
        rcases hy with w | w
        · rw [w]; exact vn_0
        · rw [w]; exact vn_1
      have hw : y = (if 0 ≤ -1 - A 26 b then 0 else 1) := by
        by_cases c4 : 0 ≤ A 26 b
        · rw [if_pos c4] at c3
          rw [if_neg (fun w => ecm.2.1.mp w c4)]
          rcases hy with w | w
          · exact absurd w.symm c3
          · exact w
        · rw [if_neg c4] at c3
          rw [if_pos (ecm.2.1.mpr c4)]
          rcases hy with w | w
          · exact w
          · exact absurd w.symm c3
      rw [zCallLu_eq kt, ey]
      have hnb := n3.2.2.1 b hb
      refine ⟨_, _, _, rfl, rfl, II_e hI (t := 4100 * κ) (by omega) (C := C) (H := H) ?_ (RR_bad hth hb ecm.1 hw) (St_26 n3 (by rw [ecm.2.2.1]; omega)) (fun c hc => by rw [q_uc (by omega), ← hρ0, q_uc (by omega)])⟩
      simp -implicitDefEqProofs (disch := first | assumption | omega) only [Rp_eq]
      exact n1.2
  · rw [if_neg hv, if_pos rfl, if_pos rfl]
    exact ⟨_, _, _, rfl, rfl, II_thr hI⟩
theorem RR_write {F ρ A C H : ST} {t : Nat} (h : RR F false ρ A C H) (g : Gd A C t) {b : Nat} {v w : Int32} (hb : b < 10000) (hv : contF v = w) (hs : (0 ≤ v ↔ 0 ≤ A 26 b)) {ρ' : ST} (hρ : (¬ C b 0 = 1 ∧ ρ' = zUp ρ 4 b w) ∨ (C b 0 = 1 ∧ ∃ i, i < 64 ∧ nI i < A 1 0 ∧ RRe ρ A C i b ∧ ρ' = zUp (zUp ρ 4 b w) 1 (31 + 8 * i) w)) : RR ρ' false ρ' (zUp A 26 b v) C H := by
  have h0 := h
  obtain ⟨h1, h2, h3, h4, h5, h6, h7, h8, h9⟩ := h
  obtain ⟨r, r1, r2, r3, r4, r5⟩ := h6
  have fr : (∀ c, c ≠ 1 → c ≠ 4 → ρ' c = ρ c) ∧ (∀ c, ρ' 4 c = (if c = b then w else ρ 4 c)) ∧ (∀ k, (k < 30 ∨ 542 ≤ k) → ρ' 1 k = ρ 1 k) ∧ (∀ i, i < r → (∀ k, k ≠ 1 → k < 8 → ρ' 1 (30 + 8 * i + k) = ρ 1 (30 + 8 * i + k)) ∧ (∀ c, c < 10000 → RRe ρ A C i c → ρ' 1 (31 + 8 * i) = (if c = b then w else contF (A 26 c)))) := by
    rcases hρ with ⟨a1, a2⟩ | ⟨a1, i0, a2, a3, a4, a5⟩
    · subst a2
      refine ⟨fun c c1 c2 => q_uc c2, fun c => ?_, fun k _ => by rw [q_un (by omega)], fun i hi => ⟨fun k _ _ => by rw [q_un (by omega)], fun c hc he => ?_⟩⟩
      · by_cases e : c = b
        · rw [if_pos e, q_ue rfl e]
        · rw [if_neg e, q_un (by omega)]
      · rw [q_un (by omega), he.2.2.1, if_neg (fun e => a1 (by rw [← e]; exact he.2.1))]
    · subst a5
      have hi0 : i0 < r := by
        rw [r2, i_lt, nI_toInt (by omega), nI_toInt (by omega)] at a3
        omega
      refine ⟨fun c c1 c2 => by rw [q_uc c1, q_uc c2], fun c => ?_, fun k hk => by rw [q_un (by omega), q_un (by omega)], fun i hi => ⟨fun k k1 k2 => by rw [q_un (by omega), q_un (by omega)], fun c hc he => ?_⟩⟩
      · rw [q_un (by omega)]
        by_cases e : c = b
        · rw [if_pos e, q_ue rfl e]
        · rw [if_neg e, q_un (by omega)]
      · by_cases e : c = b
        · subst e
          have : i = i0 := r5 i i0 hi hi0 (by rw [he.1, a4.1]) (by rw [he.1]; exact nI_ne0 (by omega) (by omega))
          rw [if_pos rfl, q_ue rfl (by omega)]
        · rw [if_neg e]
          have : i ≠ i0 := fun w => by
            subst w
            have := nI_inj (by omega) (by omega) (he.1.symm.trans a4.1)
            omega
          rw [q_un (by omega), q_un (by omega)]
          exact he.2.2.1
  obtain ⟨f1, f2, f3, f4⟩ := fr
  refine ⟨fun j hj => ?_, ⟨fun j m hj => ?_, ?_, ?_, ?_⟩, fun p hp => ?_, ?_, ?_, ⟨r, r1, ?_, fun i hi => ?_, fun c hc hcc => ?_, fun i j hi hj => ?_⟩, fun c hc => ?_, ⟨fun _ _ _ _ => rfl, fun _ _ _ _ => rfl, rfl, rfl, ?_⟩, fun w => by cases w⟩
  · rw [f3 j (by omega), q_uc (by omega)]; exact h1 j hj
  · have : m < 30 := by unfold cmap at hj; omega
    rw [f3 m (by omega), q_uc (by omega)]; exact h2.1 j m hj
  · rw [f3 21 (by omega)]; exact h2.2.1
  · rw [f3 22 (by omega)]; exact h2.2.2.1
  · rw [f3 26 (by omega), q_uc (by omega)]; exact h2.2.2.2
  · rw [f3 _ (by omega), q_uc (by omega)]
    rcases h3 p hp with ⟨a1, a2⟩ | ⟨a1, a2, a3⟩
    · exact Or.inl ⟨a1, a2⟩
    · exact Or.inr ⟨a1, a2, fun j hj => by rw [f3 _ (by omega)]; exact a3 j hj⟩
  · obtain ⟨l, l1, l2, l3⟩ := h4
    exact ⟨l, l1, by rw [q_uc (by omega)]; exact l2, fun k hk => by rw [f3 _ (by omega), q_uc (by omega)]; exact l3 k hk⟩
  · obtain ⟨l, l1, l2, l3⟩ := h5
    exact ⟨l, l1, l2, fun k hk => by rw [f3 _ (by omega), f3 _ (by omega), f3 _ (by omega)]; exact l3 k hk⟩
  · rw [q_uc (by omega)]; exact r2
  · obtain ⟨g1, g2⟩ := f4 i hi
    have e0 := g1 0 (by omega) (by omega)
    rw [Nat.add_zero] at e0
    rw [e0]
    rcases r3 i hi with z | ⟨c, hc, z⟩
    · exact Or.inl z
    · refine Or.inr ⟨c, hc, ?_⟩
      have e1 := g2 c hc z
      obtain ⟨z0, z1, z2, z3, z4, z5, z6, z7, z8⟩ := z
      refine ⟨by rw [e0]; exact z0, z1, ?_, ?_, ?_, ?_, ?_, ?_, ?_⟩
      · rw [e1]
        by_cases e : c = b
        · rw [if_pos e, q_ue rfl e]; exact hv.symm
        · rw [if_neg e, q_un (by omega)]
      · have := g1 2 (by omega) (by omega); rw [show 32 + 8 * i = 30 + 8 * i + 2 by omega, this, show 30 + 8 * i + 2 = 32 + 8 * i by omega]; exact z3
      · have := g1 3 (by omega) (by omega); rw [show 33 + 8 * i = 30 + 8 * i + 3 by omega, this, show 30 + 8 * i + 3 = 33 + 8 * i by omega]; exact z4
      · have := g1 4 (by omega) (by omega); rw [show 34 + 8 * i = 30 + 8 * i + 4 by omega, this, show 30 + 8 * i + 4 = 34 + 8 * i by omega]; exact z5
      · have := g1 5 (by omega) (by omega); rw [show 35 + 8 * i = 30 + 8 * i + 5 by omega, this, show 30 + 8 * i + 5 = 35 + 8 * i by omega]; exact z6
      · have := g1 6 (by omega) (by omega); rw [show 36 + 8 * i = 30 + 8 * i + 6 by omega, this, show 30 + 8 * i + 6 = 36 + 8 * i by omega]; exact z7
      · have := g1 7 (by omega) (by omega); rw [show 37 + 8 * i = 30 + 8 * i + 7 by omega, this, show 30 + 8 * i + 7 = 37 + 8 * i by omega]; exact z8
  · obtain ⟨i, hi, e⟩ := r4 c hc hcc
    have e0 := (f4 i hi).1 0 (by omega) (by omega)
    rw [Nat.add_zero] at e0
    exact ⟨i, hi, by rw [e0]; exact e⟩
  · have e0 := (f4 i hi).1 0 (by omega) (by omega)
    have e1 := (f4 j hj).1 0 (by omega) (by omega)
    rw [Nat.add_zero] at e0 e1
    rw [e0, e1]
    exact r5 i j hi hj
  · rw [f2 c, f1 5 (by omega) (by omega)]
    by_cases e : c = b
    · subst e
      rw [if_pos rfl, q_ue rfl rfl]
      refine ⟨hv.symm, ?_⟩
      rw [(h7 c hc).2]
      by_cases c4 : 0 ≤ A 26 c
      · rw [if_pos c4, if_pos (hs.mpr c4)]
      · rw [if_neg c4, if_neg (fun w => c4 (hs.mp w))]
    · rw [if_neg e, q_un (by omega)]
      exact h7 c hc
  · rw [f1 0 (by omega) (by omega)]; exact h8.2.2.2.2
