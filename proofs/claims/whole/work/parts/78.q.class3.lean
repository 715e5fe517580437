/-! THE CLASS: which one goes -/
theorem l_shlN (j : Nat) (hj : j < 1073741824) : ((lN j) <<< ((32 : Int32).toInt64 &&& 63)) = lN (j * 4294967296) := by
  apply Int64.toBitVec_inj.mp
  show (lN j).toBitVec <<< (((32 : Int32).toInt64 &&& 63).toBitVec.smod 64) = _
  rw [show (((32 : Int32).toInt64 &&& 63).toBitVec.smod 64) = 32#64 from by decide]
  apply BitVec.eq_of_toNat_eq
  show ((BitVec.ofNat 64 j) <<< (32#64)).toNat = (BitVec.ofNat 64 (j * 4294967296)).toNat
  simp [Nat.shiftLeft_eq]
theorem l_shl {x : Int32} (h0 : 0 ≤ x.toInt) (h1 : x.toInt < 1073741824) : (x.toInt64 <<< ((32 : Int32).toInt64 &&& 63)).toInt = x.toInt * 4294967296 := by
  obtain ⟨j, hj, e⟩ := nI_of (x := x) (fun q => by
    have := i_lt.mp q
    rw [show (0 : Int32).toInt = 0 from by decide] at this
    omega)
  subst e
  rw [nI_toInt hj] at h1
  rw [nI_l hj, l_shlN j (by omega), nI_toInt hj]
  have := lg_ofNat_toInt (n := j * 4294967296) (by omega)
  show (Int64.ofNat (j * 4294967296)).toInt = _
  rw [this]
  omega
/-- what holds of the cache: stamps, touches, owners -/
def GC (A C : ST) (n : Nat) : Prop := (0 ≤ (C 10000 0).toInt ∧ (C 10000 0).toInt ≤ n) ∧
  (∀ b, b < 10000 → C b 0 = 1 → 1 ≤ (C b 1).toInt ∧ (C b 1).toInt ≤ (C 10000 0).toInt ∧ 0 ≤ (C b 2).toInt ∧ (C b 2).toInt ≤ n ∧ (C b 5 = 0 ∨ C b 5 = 1) ∧ -1 ≤ (C b 3).toInt ∧ (C b 3).toInt < (A 2 14).toInt ∧ (C b 5 = 1 → ¬ C b 3 = -1) ∧ (b : Int) < (A 1 7).toInt) ∧
  (∀ b b', b < 10000 → b' < 10000 → C b 0 = 1 → C b' 0 = 1 → C b 1 = C b' 1 → b = b') ∧ (qin C : Int) ≤ (A 1 0).toInt
theorem qvic_eq {A C : ST} {x : Int32} {b n : Nat} (g : GC A C n) (h : qvic A C x b) : qa_vic A C x = b := by
  have h2 : qvic A C x (qa_vic A C x) := Classical.epsilon_spec (p := fun b => qvic A C x b) ⟨b, h⟩
  have a1 := h.2 _ h2.1
  have a2 := h2.2 _ h.1
  obtain ⟨b1, b2, b3, b4, -⟩ := g.2.1 _ h.1.1 h.1.2.1
  obtain ⟨c1, c2, c3, c4, -⟩ := g.2.1 _ h2.1.1 h2.1.2.1
  have r1 := i_rng (C b 1)
  have r2 := i_rng (C (qa_vic A C x) 1)
  refine g.2.2.1 _ _ h2.1.1 h.1.1 h2.1.2.1 h.1.2.1 (i_eq.mpr ?_)
  unfold qw at a1 a2
  by_cases hp : A 1 8 = 2
  · rw [if_pos hp, if_pos hp] at a1 a2
    omega
  · rw [if_neg hp, if_neg hp] at a1 a2
    omega
/-- a slot that may go, its weight; what the loop knows -/
def qsc (κ : ST) (x aho : Int32) (s : Nat) : Prop := ¬ κ 4 s = x ∧ (¬ aho = 0 → ¬ κ 9 s = 0)
def qsw (κ : ST) (pol : Int32) (s : Nat) : Int := (if pol = 2 then (κ 6 s).toInt * 4294967296 else 0) + (κ 5 s).toInt
def qsI (κ : ST) (pol x aho : Int32) (j : Nat) (v : Int32) (least : Int64) : Prop := (v = -1 ∧ least.toInt = 9223372036854775807 ∧ ∀ s, s < j → ¬ qsc κ x aho s) ∨ (∃ s0, s0 < j ∧ v = nI s0 ∧ qsc κ x aho s0 ∧ least.toInt = qsw κ pol s0 ∧ ∀ s, s < j → qsc κ x aho s → qsw κ pol s0 ≤ qsw κ pol s)
theorem qsI_no {κ : ST} {pol x aho v : Int32} {j : Nat} {least : Int64} (h : qsI κ pol x aho j v least) (hn : ¬ qsc κ x aho j) : qsI κ pol x aho (j + 1) v least := by
  rcases h with ⟨h1, h2, h3⟩ | ⟨s0, h1, h2, h3, h4, h5⟩
  · exact Or.inl ⟨h1, h2, fun s hs => by
      by_cases e : s = j
      · subst e; exact hn
      · exact h3 s (by omega)⟩
  · exact Or.inr ⟨s0, by omega, h2, h3, h4, fun s hs hc => by
      by_cases e : s = j
      · subst e; exact absurd hc hn
      · exact h5 s (by omega) hc⟩
theorem qsI_ge {κ : ST} {pol x aho v : Int32} {j : Nat} {least : Int64} (h : qsI κ pol x aho j v least) (hl : least.toInt ≤ qsw κ pol j) (hb : qsw κ pol j < 9223372036854775807) : qsI κ pol x aho (j + 1) v least := by
  rcases h with ⟨h1, h2, h3⟩ | ⟨s0, h1, h2, h3, h4, h5⟩
  · omega
  · exact Or.inr ⟨s0, by omega, h2, h3, h4, fun s hs hc => by
      by_cases e : s = j
      · subst e; omega
      · exact h5 s (by omega) hc⟩
theorem qsI_lt {κ : ST} {pol x aho v : Int32} {j : Nat} {least w : Int64} (h : qsI κ pol x aho j v least) (hw : w.toInt = qsw κ pol j) (hl : w.toInt < least.toInt) (hc : qsc κ x aho j) : qsI κ pol x aho (j + 1) (nI j) w := by
  refine Or.inr ⟨j, by omega, rfl, hc, hw, fun s hs hcs => ?_⟩
  by_cases e : s = j
  · subst e; omega
  · rcases h with ⟨h1, h2, h3⟩ | ⟨s0, h1, h2, h3, h4, h5⟩
    · exact absurd hcs (h3 s (by omega))
    · have := h5 s (by omega) hcs
      omega
theorem qc_room_loop (N : Nat) {A κ : ST} {n : Nat} (hn : n ≤ 64) (e7 : κ 3 7 = nI n) (room pol x aho : Int32) (hb : ∀ s, s < n → 0 ≤ (κ 5 s).toInt ∧ (κ 5 s).toInt < 1073741824 ∧ 0 ≤ (κ 6 s).toInt ∧ (κ 6 s).toInt < 1073741824) : ∀ (m j : Nat) (v : Int32) (least : Int64), j ≤ n → n - j < m → qsI κ pol x aho j v least → ∃ v' l', qsI κ pol x aho n v' l' ∧ zIt (mE_X0_makeRoom_B43 N) (fun _ _ _ _ _ _ _ _ => none) m (qmix A κ) room pol x aho v least (nI j) = zCall (mE_X0_takeOut N (qmix A κ) v') (fun a s => some (a, s)) := by
  intro m
  induction m with
  | zero => intro j v least h1 h2; omega
  | succ m ih =>
    intro j v least hj hm hI
    rw [zIt_s, mE_X0_makeRoom_B43]
    by_cases h : j = n
    · subst h
      refine ⟨v, least, hI, ?_⟩
      simp (disch := first | assumption | omega) only [zLet_eq, zCall_some, zCallu_some, q_cq, zBool_0, zBool_1, q_gn, q_gl, q_sn, q_sl, q_al, q_la, q_ml, q_lm, q_ue, q_un, q_mA, q_mK, q_uA, q_uK, q_g6, q_rm, q_dv, q_ltl, q_lel, q_llt, q_lle, q_eql, q_lt, q_le, q_eq, q_m1F, if_pos, if_neg, if_true, if_false, e7]
    · obtain ⟨b1, b2, b3, b4⟩ := hb j (by omega)
      have step : ∀ v2 l2, qsI κ pol x aho (j + 1) v2 l2 → ∃ v' l', qsI κ pol x aho n v' l' ∧ mE_X0_makeRoom_128 N (zIt (mE_X0_makeRoom_B43 N) (fun _ _ _ _ _ _ _ _ => none) m) (qmix A κ) room pol x aho v2 l2 (nI j) = zCall (mE_X0_takeOut N (qmix A κ) v') (fun a s => some (a, s)) := fun v2 l2 h2 => by
        rw [mE_X0_makeRoom_128]
        simp (disch := first | assumption | omega) only [zLet_eq, zCall_some, zCallu_some, q_cq, zBool_0, zBool_1, q_gn, q_gl, q_sn, q_sl, q_al, q_la, q_ml, q_lm, q_ue, q_un, q_mA, q_mK, q_uA, q_uK, q_g6, q_rm, q_dv]
        exact ih (j + 1) v2 l2 (by omega) (by omega) h2
      have go : qsc κ x aho j → ∃ v' l', qsI κ pol x aho n v' l' ∧ mE_X0_makeRoom_81 N (zIt (mE_X0_makeRoom_B43 N) (fun _ _ _ _ _ _ _ _ => none) m) (qmix A κ) room pol x aho v least (nI j) = zCall (mE_X0_takeOut N (qmix A κ) v') (fun a s => some (a, s)) := fun hc => by
        have fin : ∀ w : Int64, w.toInt = qsw κ pol j → qsw κ pol j < 9223372036854775807 → ∃ v' l', qsI κ pol x aho n v' l' ∧ (if (0 : Int32) ≤ lg_cmp w least then mE_X0_makeRoom_128 N (zIt (mE_X0_makeRoom_B43 N) (fun _ _ _ _ _ _ _ _ => none) m) (qmix A κ) room pol x aho v least (nI j) else mE_X0_makeRoom_128 N (zIt (mE_X0_makeRoom_B43 N) (fun _ _ _ _ _ _ _ _ => none) m) (qmix A κ) room pol x aho (nI j) w (nI j)) = zCall (mE_X0_takeOut N (qmix A κ) v') (fun a s => some (a, s)) := fun w hw hlt => by
          by_cases hl : (0 : Int32) ≤ lg_cmp w least
          · rw [if_pos hl]
            have : ¬ w.toInt < least.toInt := fun q => by
              have := i_lt.mp ((lg_lt0 w least).mpr q)
              have := i_le.mp hl
              omega
            exact step v least (qsI_ge hI (by omega) hlt)
          · rw [if_neg hl]
            have : w.toInt < least.toInt := (lg_lt0 w least).mp (by
              rw [i_le] at hl
              rw [i_lt]
              omega)
            exact step (nI j) w (qsI_lt hI hw this hc)
        have l5 := l_of (κ 5 j)
        have l6 := l_of (κ 6 j)
        rw [mE_X0_makeRoom_81]
        by_cases hp : pol = 2
        · have ls := l_shl b3 b4
          simp (disch := first | assumption | omega) only [zLet_eq, zCall_some, zCallu_some, q_cq, zBool_0, zBool_1, q_gn, q_gl, q_sn, q_sl, q_al, q_la, q_ml, q_lm, q_ue, q_un, q_mA, q_mK, q_uA, q_uK, q_g6, q_rm, q_dv, q_ltl, q_lel, q_llt, q_lle, q_eql, q_lt, q_le, q_eq, q_m1F, if_pos, if_neg, if_true, if_false, mE_X0_makeRoom_109]
          refine fin _ ?_ ?_
          · unfold qsw
            rw [if_pos hp, l_add (by rw [l5, ls]; omega) (by rw [l5, ls]; omega), l5, ls]
            omega
          · unfold qsw
            rw [if_pos hp]
            omega
        · simp (disch := first | assumption | omega) only [zLet_eq, zCall_some, zCallu_some, q_cq, zBool_0, zBool_1, q_gn, q_gl, q_sn, q_sl, q_al, q_la, q_ml, q_lm, q_ue, q_un, q_mA, q_mK, q_uA, q_uK, q_g6, q_rm, q_dv, q_ltl, q_lel, q_llt, q_lle, q_eql, q_lt, q_le, q_eq, q_m1F, if_pos, if_neg, if_true, if_false, mE_X0_makeRoom_109]
          have l0 : (0 : Int64).toInt = 0 := by decide
          refine fin _ ?_ ?_
          · unfold qsw
            rw [if_neg hp, l_add (by rw [l5, l0]; omega) (by rw [l5, l0]; omega), l5, l0]
            omega
          · unfold qsw
            rw [if_neg hp]
            omega
      by_cases hx : κ 4 j = x
      · simp (disch := first | assumption | omega) only [zLet_eq, zCall_some, zCallu_some, q_cq, zBool_0, zBool_1, q_gn, q_gl, q_sn, q_sl, q_al, q_la, q_ml, q_lm, q_ue, q_un, q_mA, q_mK, q_uA, q_uK, q_g6, q_rm, q_dv, q_ltl, q_lel, q_llt, q_lle, q_eql, q_lt, q_le, q_eq, q_m1F, if_pos, if_neg, if_true, if_false, e7, hx]
        exact step v least (qsI_no hI (fun q => q.1 hx))
      · by_cases ha : aho = 0
        · simp (disch := first | assumption | omega) only [zLet_eq, zCall_some, zCallu_some, q_cq, zBool_0, zBool_1, q_gn, q_gl, q_sn, q_sl, q_al, q_la, q_ml, q_lm, q_ue, q_un, q_mA, q_mK, q_uA, q_uK, q_g6, q_rm, q_dv, q_ltl, q_lel, q_llt, q_lle, q_eql, q_lt, q_le, q_eq, q_m1F, if_pos, if_neg, if_true, if_false, e7, hx, ha]
          rw [ha] at go
          exact go ⟨hx, fun q => absurd rfl q⟩
        · by_cases h9 : κ 9 j = 0
          · simp (disch := first | assumption | omega) only [zLet_eq, zCall_some, zCallu_some, q_cq, zBool_0, zBool_1, q_gn, q_gl, q_sn, q_sl, q_al, q_la, q_ml, q_lm, q_ue, q_un, q_mA, q_mK, q_uA, q_uK, q_g6, q_rm, q_dv, q_ltl, q_lel, q_llt, q_lle, q_eql, q_lt, q_le, q_eq, q_m1F, if_pos, if_neg, if_true, if_false, e7, hx, ha, h9]
            exact step v least (qsI_no hI (fun q => q.2 ha h9))
          · simp (disch := first | assumption | omega) only [zLet_eq, zCall_some, zCallu_some, q_cq, zBool_0, zBool_1, q_gn, q_gl, q_sn, q_sl, q_al, q_la, q_ml, q_lm, q_ue, q_un, q_mA, q_mK, q_uA, q_uK, q_g6, q_rm, q_dv, q_ltl, q_lel, q_llt, q_lle, q_eql, q_lt, q_le, q_eq, q_m1F, if_pos, if_neg, if_true, if_false, e7, hx, ha, h9]
            exact go ⟨hx, fun _ => h9⟩
theorem qc_makeRoom (N : Nat) (hN : 64 < N) {A κ C : ST} {nn : Nat} (h : RKc κ C) (g : GC A C nn) (hnn : nn < 1073741824) (x : Int32) (hf : ¬ nI (qin C) < A 1 0) (hr : 4 ≤ (A 1 0).toInt) (hex : ∃ b, qcand A C x b) : ∃ κ', mE_X0_makeRoom N (qmix A κ) (A 1 0) (A 1 8) x = some (if C (qa_vic A C x) 5 = 1 then C (qa_vic A C x) 3 else -1, qmix A κ') ∧ RKc κ' (zUp C (qa_vic A C x) 0 0) ∧ ∀ c, c < 3 ∨ 10 < c → κ' c = κ c := by
  obtain ⟨e9, e8, n, hn, e7, hR⟩ := id h
  rw [RKs_n hR hn] at hf
  have hb : ∀ s, s < n → 0 ≤ (κ 5 s).toInt ∧ (κ 5 s).toInt < 1073741824 ∧ 0 ≤ (κ 6 s).toInt ∧ (κ 6 s).toInt < 1073741824 := fun s hs => by
    obtain ⟨b, hb, hc, f10, f4, f5, f6, -⟩ := hR.1 s hs
    obtain ⟨b1, b2, b3, b4, -⟩ := g.2.1 b hb hc
    have := g.1.2
    rw [f5, f6]
    omega
  have main : ∀ aho : Int32, (¬ aho = 0 ↔ qaho A C) → ∃ κ', mE_X0_makeRoom_43 N (qmix A κ) (A 1 0) (A 1 8) x aho (-1) 9223372036854775807 0 = some (if C (qa_vic A C x) 5 = 1 then C (qa_vic A C x) 3 else -1, qmix A κ') ∧ RKc κ' (zUp C (qa_vic A C x) 0 0) ∧ ∀ c, c < 3 ∨ 10 < c → κ' c = κ c := fun aho ha => by
    have cd : ∀ s b, s < n → b < 10000 → κ 4 s = nI b → C b 0 = 1 → (qsc κ x aho s ↔ qcand A C x b) ∧ qsw κ (A 1 8) s = qw A C b := fun s b hs hb' e4 hc => by
      obtain ⟨b', hb'', hc', f10, f4, f5, f6, f7, f8, f9, f⟩ := hR.1 s hs
      have : b = b' := nI_inj (by omega) (by omega) (e4.symm.trans f4)
      subst this
      refine ⟨⟨fun q => ⟨hb', hc, fun e => q.1 (e4.trans e), fun qa => ?_⟩, fun q => ⟨fun e => q.2.2.1 (e4.symm.trans e), fun qa => ?_⟩⟩, ?_⟩
      · have := q.2 (ha.mpr qa)
        rw [f9] at this
        rcases f with f | f
        · exact absurd f this
        · exact f
      · rw [f9, q.2.2.2 (ha.mp qa)]
        decide
      · unfold qsw qw
        rw [f5, f6]
    obtain ⟨v, l, hI, e⟩ := qc_room_loop N (A := A) hn e7 (A 1 0) (A 1 8) x aho hb N 0 (-1) 9223372036854775807 (by omega) (by omega) (Or.inl ⟨rfl, by decide, fun s hs => by omega⟩)
    rw [mE_X0_makeRoom_43]
    rw [show zIt (mE_X0_makeRoom_B43 N) (fun _ _ _ _ _ _ _ _ => none) N (qmix A κ) (A 1 0) (A 1 8) x aho (-1) 9223372036854775807 0 = _ from e]
    rcases hI with ⟨h1, h2, h3⟩ | ⟨s0, h1, h2, h3, h4, h5⟩
    · obtain ⟨b, hq⟩ := hex
      obtain ⟨s, hs, f10, f4, -⟩ := RKs_at hR hq.1 hq.2.1
      exact absurd ((cd s b hs hq.1 f4 hq.2.1).1.mpr hq) (h3 s hs)
    · obtain ⟨b, hb', hc, f10, f4, -⟩ := hR.1 s0 h1
      have hv : qvic A C x b := ⟨(cd s0 b h1 hb' f4 hc).1.mp h3, fun b' hq => by
        obtain ⟨s, hs, g10, g4, -⟩ := RKs_at hR hq.1 hq.2.1
        have c1 := cd s b' hs hq.1 g4 hq.2.1
        have c2 := cd s0 b h1 hb' f4 hc
        rw [← c1.2, ← c2.2]
        exact h5 s hs (c1.1.mpr hq)⟩
      rw [qvic_eq g hv, h2]
      obtain ⟨κ', k1, k2⟩ := qc_takeOut N (A := A) h hb' hc f10 (by omega)
      refine ⟨κ', ?_, k2⟩
      rw [k1]
      rfl
  rw [mE_X0_makeRoom]
  have hle : A 1 0 ≤ nI n := by
    rw [i_le]
    rw [i_lt] at hf
    omega
  by_cases hp : A 1 8 = 1
  · have hq0 := nI_of (x := A 1 0) (fun q => by
      have := i_lt.mp q
      rw [show (0 : Int32).toInt = 0 from by decide] at this
      omega)
    obtain ⟨rm, hrm, er⟩ := hq0
    have hqa : qah C ≤ 10000 := qcnt_le _ _
    by_cases ha : nI (qah C) ≤ A 1 0 / 4
    · rw [er, show (nI rm) / (4 : Int32) = nI (rm / 4) from pk_div hrm (by decide) (by decide)] at ha
      have hna : ¬ qaho A C := fun q => by
        have q2 := q.2
        rw [er, show (nI rm) / (4 : Int32) = nI (rm / 4) from pk_div hrm (by decide) (by decide)] at q2
        rw [i_lt] at q2
        rw [i_le] at ha
        omega
      rw [er] at hle
      have hle2 : rm ≤ n := (nI_leI hrm (by omega)).mp hle
      have ha2 : qah C ≤ rm / 4 := (nI_leI (by omega) (by omega)).mp ha
      simp (disch := first | assumption | omega) only [zLet_eq, zCall_some, zCallu_some, q_cq, zBool_0, zBool_1, q_gn, q_gl, q_sn, q_sl, q_al, q_la, q_ml, q_lm, q_ue, q_un, q_mA, q_mK, q_uA, q_uK, q_g6, q_rm, q_dv, q_ltl, q_lel, q_llt, q_lle, q_eql, q_lt, q_le, q_eq, q_m1F, if_pos, if_neg, if_true, if_false, e7, e8, er, mE_X0_makeRoom_29, mE_X0_makeRoom_30]
      rw [← er]
      exact main 0 ⟨fun q => absurd rfl q, fun q => absurd q hna⟩
    · rw [er, show (nI rm) / (4 : Int32) = nI (rm / 4) from pk_div hrm (by decide) (by decide)] at ha
      have hna : qaho A C := ⟨hp, by
        rw [er, show (nI rm) / (4 : Int32) = nI (rm / 4) from pk_div hrm (by decide) (by decide)]
        rw [i_lt]
        rw [i_le] at ha
        omega⟩
      rw [er] at hle
      have hle2 : rm ≤ n := (nI_leI hrm (by omega)).mp hle
      have ha2 : ¬ qah C ≤ rm / 4 := fun q => ha ((nI_leI (by omega) (by omega)).mpr q)
      simp (disch := first | assumption | omega) only [zLet_eq, zCall_some, zCallu_some, q_cq, zBool_0, zBool_1, q_gn, q_gl, q_sn, q_sl, q_al, q_la, q_ml, q_lm, q_ue, q_un, q_mA, q_mK, q_uA, q_uK, q_g6, q_rm, q_dv, q_ltl, q_lel, q_llt, q_lle, q_eql, q_lt, q_le, q_eq, q_m1F, if_pos, if_neg, if_true, if_false, e7, e8, er, mE_X0_makeRoom_29, mE_X0_makeRoom_30]
      rw [← er]
      exact main 1 ⟨fun _ => hna, fun _ => by decide⟩
  · simp (disch := first | assumption | omega) only [zLet_eq, zCall_some, zCallu_some, q_cq, zBool_0, zBool_1, q_gn, q_gl, q_sn, q_sl, q_al, q_la, q_ml, q_lm, q_ue, q_un, q_mA, q_mK, q_uA, q_uK, q_g6, q_rm, q_dv, q_ltl, q_lel, q_llt, q_lle, q_eql, q_lt, q_le, q_eq, q_m1F, if_pos, if_neg, if_true, if_false, e7, mE_X0_makeRoom_29, mE_X0_makeRoom_30]
    exact main 0 ⟨fun q => absurd rfl q, fun q => absurd q.1 hp⟩
