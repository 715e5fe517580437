/-! ahead, cached -/
theorem s_ahead (N : Nat) (hN : 200 < N) (κ : Nat) : Sm_ahead N (II κ) (II (κ + 1)) := by
  intro τ ρ x hI
  obtain ⟨⟨A, C, H, n1, n2, n3⟩, hr⟩ := id hI
  have hmx := EngC_mix n1
  have hth := RR_thr n2
  have htb := GT_b n3.1.1.1
  rw [mT_X7_ahead, mR_ahead, zLet_eq, r_isBlock N hth, zCall_some]
  have no : ¬ (0 ≤ x.toInt ∧ x.toInt < (A 1 7).toInt) → mE_X0_slotOf N (pE 0 0 τ) x = some (-1, pE 0 0 τ) := fun hv => by
    by_cases hx : 0 ≤ x.toInt ∧ x.toInt < 10000
    · obtain ⟨c1, c2⟩ := clamp_toInt hx.1
      generalize x.toNatClampNeg = b at c1 c2
      subst c2
      have hb : b < 10000 := by omega
      have hc : ¬ C b 0 = 1 := fun w => by
        have := (n3.1.2.1.2.1 b hb w).2.2.2.2.2.2.2.2
        omega
      have k := qc_slotOf N (A := A) (κ := pE 0 0 τ) hb
      rw [hmx, (slot_m1 n1.2.2.1 hb).mpr hc] at k
      exact k
    · have k := qc_slotOf_no N (A := A) (κ := pE 0 0 τ) hx
      rw [hmx] at k
      exact k
  by_cases hv : 0 ≤ x.toInt ∧ x.toInt < (A 1 7).toInt
  · obtain ⟨c1, c2⟩ := clamp_toInt hv.1
    generalize x.toNatClampNeg = b at c1 c2
    subst c2
    have hb : b < 10000 := by omega
    have k := qc_slotOf N (A := A) (κ := pE 0 0 τ) hb
    rw [hmx] at k
    rw [if_pos hv, if_neg n10, zqE k]
    rcases r_place N (by omega) hth hb with ⟨m1, m2⟩ | ⟨m1, i, m2, m3, m4, m5⟩
    · rw [m2, zCall_some, if_pos ((slot_m1 n1.2.2.1 hb).mpr m1), mR_ahead_22, if_pos rfl]
      exact ⟨_, _, _, rfl, rfl, II_thr hI⟩
    · obtain ⟨e9, e8, n, hn, e7, hR⟩ := n1.2.2.1
      obtain ⟨s, hs, g10, -⟩ := RKs_at hR hb m1
      have kr := qc_rank N (by omega) (A := A) n1.2.2.1 hb m1 g10 (by omega)
      rw [hmx] at kr
      have e32 : zUp ρ 0 0 0 1 (30 + 8 * i + 2) = C b 1 := by rw [show 30 + 8 * i + 2 = 32 + 8 * i by omega]; exact m4.2.2.2.1
      rw [m5, zCall_some, if_neg (fun w => (slot_m1 n1.2.2.1 hb).mp w m1), mR_ahead_22, if_neg (q_m1 (by omega)), g10, nI_pred, zqE kr, zLet_eq, show nI (30 + 8 * i) + 2 = nI (30 + 8 * i + 2) from nI_add _ 2, zGet_nI (by omega) (by decide), e32, r_less N (by omega) hth, zCall_some]
      exact ⟨_, _, _, rfl, rfl, II_thr hI⟩
  · rw [if_neg hv, if_pos rfl, zqE (no hv), if_pos rfl, mR_ahead_22, if_pos rfl]
    exact ⟨_, _, _, rfl, rfl, II_thr hI⟩
theorem less_lt {C : ST} {b b' : Nat} (hb : b < 10000) (hc : C b 0 = 1) (h : (C b 1).toInt < (C b' 1).toInt) : qv_less C (C b 1) < qv_less C (C b' 1) := by
  unfold qv_less
  have e : ¬ C b' 1 ≤ C b 1 := by rw [i_le]; omega
  have h1 := qcnt_rem (P := fun c => decide (C c 0 = 1) && decide (¬ C b' 1 ≤ C c 1)) hb (by simp [hc, e])
  have h2 : qcnt (fun c => decide (C c 0 = 1) && decide (¬ C b 1 ≤ C c 1)) 10000 ≤ qcnt (fun c => (decide (C c 0 = 1) && decide (¬ C b' 1 ≤ C c 1)) && !decide (c = b)) 10000 := qcnt_mono (fun i hi hp => by
    simp at hp
    obtain ⟨p1, p2⟩ := hp
    have p3 : ¬ C b 1 ≤ C i 1 := by rw [i_lt] at p2; rw [i_le]; omega
    have q1 : ¬ C b' 1 ≤ C i 1 := by rw [i_le] at *; omega
    have q2 : ¬ i = b := fun w => by
      subst w
      exact p3 (by rw [i_le]; omega)
    simp [p1, q1, q2])
  omega
def cAt (C : ST) (x : Int32) (b : Nat) : Prop := b < 10000 ∧ C b 0 = 1 ∧ nI (qv_less C (C b 1)) = x
theorem cAt_u {A C : ST} {x : Int32} {b b' t : Nat} (g : Gd A C t) (h : cAt C x b) (h' : cAt C x b') : b = b' := by
  have l1 : qv_less C (C b 1) ≤ 10000 := qcnt_le _ _
  have l2 : qv_less C (C b' 1) ≤ 10000 := qcnt_le _ _
  have e := nI_inj (by omega) (by omega) (h.2.2.trans h'.2.2.symm)
  refine g.2.1.2.2.1 b b' h.1 h'.1 h.2.1 h'.2.1 (i_eq.mpr ?_)
  by_cases c1 : (C b 1).toInt < (C b' 1).toInt
  · have := less_lt h.1 h.2.1 c1
    omega
  · by_cases c2 : (C b' 1).toInt < (C b 1).toInt
    · have := less_lt h'.1 h'.2.1 c2
      omega
    · omega
def cRes (C : ST) (x v : Int32) : Prop := (∃ b, cAt C x b ∧ v = nI b) ∨ (v = -1 ∧ ∀ b, ¬ cAt C x b)
theorem qc_cached (N : Nat) (hN : 64 < N) {A κ C : ST} (h : RKc κ C) (x : Int32) : ∃ v, cRes C x v ∧ mE_X0_blockByStamp N (qmix A κ) x = some (v, qmix A κ) := by
  obtain ⟨e9, e8, n, hn, e7, hR⟩ := id h
  have key : ∀ m j : Nat, j ≤ n → n - j < m → (∀ b s, s < j → κ 4 s = nI b → ¬ cAt C x b) → ∃ v, cRes C x v ∧ zIt (mE_X0_blockByStamp_B2 N) (fun _ _ _ => none) m (qmix A κ) x (nI j) = some (v, qmix A κ) := by
    intro m
    induction m with
    | zero => intro j h1 h2; omega
    | succ m ih =>
      intro j hj hm hno
      rw [zIt_s, mE_X0_blockByStamp_B2]
      by_cases ej : j = n
      · subst ej
        refine ⟨-1, Or.inr ⟨rfl, fun b hb => ?_⟩, ?_⟩
        · obtain ⟨s, hs, -, f4, -⟩ := RKs_at hR hb.1 hb.2.1
          exact hno b s hs f4 hb
        · simp -implicitDefEqProofs (disch := first | assumption | omega) only [zLet_eq, zCall_some, zCallu_some, q_cq, zBool_0, zBool_1, q_gn, q_gl, q_sn, q_sl, q_al, q_la, q_ml, q_lm, q_ue, q_un, q_mA, q_mK, q_uA, q_uK, q_g6, q_rm, q_dv, e7, q_le, if_pos]
      · obtain ⟨b, hb, hc, f10, f4, -⟩ := hR.1 j (by omega)
        simp -implicitDefEqProofs (disch := first | assumption | omega) only [zLet_eq, zCall_some, zCallu_some, q_cq, zBool_0, zBool_1, q_gn, q_gl, q_sn, q_sl, q_al, q_la, q_ml, q_lm, q_ue, q_un, q_mA, q_mK, q_uA, q_uK, q_g6, q_rm, q_dv, e7, q_le, if_neg, qc_rank N hN h hb hc f10, f4]
        by_cases cx : nI (qv_less C (C b 1)) = x
        · rw [if_pos cx]
          exact ⟨nI b, Or.inl ⟨b, ⟨hb, hc, cx⟩, rfl⟩, rfl⟩
        · rw [if_neg cx]
          refine ih (j + 1) (by omega) (by omega) (fun b' s hs f4' => ?_)
          by_cases es : s = j
          · subst es
            intro hat
            have := nI_inj (by have := hat.1; omega) (by omega) (f4'.symm.trans f4)
            subst this
            exact cx hat.2.2
          · exact hno b' s (by omega) f4'
  exact key N 0 (by omega) (by omega) (fun b s hs => by omega)
theorem r_cached (N : Nat) (hN : 64 < N) {F : ST} {q : Bool} {ρ A C H : ST} (h : RR F q ρ A C H) (x : Int32) : ∃ v, cRes C x v ∧ mR_cached_7 N ρ x 0 = some (v, ρ) := by
  obtain ⟨r, r1, r2, r3, r4, r5⟩ := id h.2.2.2.2.2.1
  have e0 : ρ 1 0 = nI r := by rw [h.1 0 (by omega), r2]
  have key : ∀ m j : Nat, j ≤ r → r - j < m → (∀ b i, i < j → ρ 1 (30 + 8 * i) = nI (b + 1) → ¬ cAt C x b) → ∃ v, cRes C x v ∧ zIt (mR_cached_B7 N) (fun _ _ _ => none) m ρ x (nI j) = some (v, ρ) := by
    intro m
    induction m with
    | zero => intro j h1 h2; omega
    | succ m ih =>
      intro j hj hm hno
      rw [zIt_s, mR_cached_B7]
      by_cases ej : j = r
      · subst ej
        refine ⟨-1, Or.inr ⟨rfl, fun b hb => ?_⟩, ?_⟩
        · obtain ⟨i, hi, f⟩ := r4 b hb.1 hb.2.1
          exact hno b i hi f hb
        · simp -implicitDefEqProofs (disch := first | assumption | omega) only [zLet_eq, zCall_some, zCallu_some, q_cq, zBool_0, zBool_1, q_gn, q_gl, q_sn, q_sl, q_al, q_la, q_ml, q_lm, q_ue, q_un, q_mA, q_mK, q_uA, q_uK, q_g6, q_rm, q_dv, e0, q_le, if_pos]
      · rcases r3 j (by omega) with z | ⟨b, hb, z⟩
        · have z2 : ρ 1 (30 + 8 * j) ≤ 0 := by rw [z]; decide
          simp -implicitDefEqProofs (disch := first | assumption | omega) only [zLet_eq, zCall_some, zCallu_some, q_cq, zBool_0, zBool_1, q_gn, q_gl, q_sn, q_sl, q_al, q_la, q_ml, q_lm, q_ue, q_un, q_mA, q_mK, q_uA, q_uK, q_g6, q_rm, q_dv, e0, q_le, if_neg, if_pos, pR_cacheAt, mR_cached_56]
          refine ih (j + 1) (by omega) (by omega) (fun b' i hi f => ?_)
          by_cases es : i = j
          · subst es
            intro hat
            rw [z] at f
            exact absurd f.symm (nI_ne0 (by omega) (by have := hat.1; omega))
          · exact hno b' i (by omega) f
        · have z2 : ¬ ρ 1 (30 + 8 * j) ≤ 0 := by rw [z.1]; exact nI_nle (by omega) (by omega)
          have e32 : ρ 1 (30 + 8 * j + 2) = C b 1 := by rw [show 30 + 8 * j + 2 = 32 + 8 * j by omega]; exact z.2.2.2.1
          simp -implicitDefEqProofs (disch := first | assumption | omega) only [zLet_eq, zCall_some, zCallu_some, q_cq, zBool_0, zBool_1, q_gn, q_gl, q_sn, q_sl, q_al, q_la, q_ml, q_lm, q_ue, q_un, q_mA, q_mK, q_uA, q_uK, q_g6, q_rm, q_dv, e0, q_le, if_neg, pR_cacheAt, e32, r_less N hN h, mR_cached_56]
          by_cases cx : nI (qv_less C (C b 1)) = x
          · rw [if_pos cx, z.1, nI_pred]
            exact ⟨nI b, Or.inl ⟨b, ⟨hb, z.2.1, cx⟩, rfl⟩, rfl⟩
          · rw [if_neg cx]
            refine ih (j + 1) (by omega) (by omega) (fun b' i hi f => ?_)
            by_cases es : i = j
            · subst es
              intro hat
              have := nI_inj (by have := hat.1; omega) (by omega) (f.symm.trans z.1)
              have : b' = b := by omega
              subst this
              exact cx hat.2.2
            · exact hno b' i (by omega) f
  exact key N 0 (by omega) (by omega) (fun b i hi => by omega)
theorem s_cached (N : Nat) (hN : 64 < N) (κ : Nat) : Sm_cached N (II κ) (II (κ + 1)) := by
  intro τ ρ x hI
  obtain ⟨⟨A, C, H, n1, n2, n3⟩, hr⟩ := id hI
  have hmx := EngC_mix n1
  have hth := RR_thr n2
  obtain ⟨v, v1, v2⟩ := qc_cached N hN (A := A) n1.2.2.1 x
  obtain ⟨w, w1, w2⟩ := r_cached N hN hth x
  rw [hmx] at v2
  have e : v = w := by
    rcases v1 with ⟨b, a1, a2⟩ | ⟨a1, a2⟩
    · rcases w1 with ⟨b', c1, c2⟩ | ⟨c1, c2⟩
      · rw [a2, c2, cAt_u n3.1 a1 c1]
      · exact absurd a1 (c2 b)
    · rcases w1 with ⟨b', c1, c2⟩ | ⟨c1, c2⟩
      · exact absurd c1 (a2 b')
      · rw [a1, c1]
  subst e
  exact ⟨v, τ, zUp ρ 0 0 0, by rw [mT_X7_cached, zqE v2], by rw [mR_cached, zLet_eq, w2], II_thr hI⟩
