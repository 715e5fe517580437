/-! idle: both -/
theorem qc_iloop (N : Nat) (hN : 64 < N) {A κ C H : ST} (h : Rp κ A C H) (h7 : (A 1 7).toInt ≤ 10000) : ∀ m i : Nat, i ≤ 6 → 6 - i < m → ∃ hd, zIt (mE_X2_idleOnce_B26 N) (fun _ _ _ _ => none) m (qmix A κ) (qa_fin (qi A C i).1) (qi A C i).2 (nI i) = mE_X2_idleOnce_B26 N hd (qmix A κ) (qa_fin (qi A C 6).1) (qi A C 6).2 (nI 6) := by
  intro m
  induction m with
  | zero => intro i _ _; omega
  | succ m ih =>
    intro i hi hm
    rw [zIt_s]
    by_cases e : i = 6
    · subst e
      exact ⟨_, rfl⟩
    · obtain ⟨hd, hh⟩ := ih (i + 1) (by omega) (by omega)
      exact ⟨hd, by rw [qc_ichoose N hN h h7 0 i (by omega), hh]⟩
theorem r_iloop (N : Nat) (hN : 64 < N) {F ρ A C H : ST} {t : Nat} (h : RR F false ρ A C H) (g : Gd A C t) (hah : nI (qah C) < A 1 0 / 2) : ∀ m i : Nat, i ≤ 6 → 6 - i < m → zIt (mR_idles_B6 N) (fun _ _ _ _ => none) m ρ (qa_eR (qi A C i).1) (qi A C i).2 (nI i) = mR_idles_137 N ρ (qa_eR (qi A C 6).1) (qi A C 6).2 (nI 6) := by
  intro m
  induction m with
  | zero => intro i _ _; omega
  | succ m ih =>
    intro i hi hm
    rw [zIt_s]
    by_cases e : i = 6
    · subst e
      rw [mR_idles_B6, if_pos (by decide)]
    · rw [r_ichoose N hN h g (by omega) hah, ih (i + 1) (by omega) (by omega)]
theorem step_idle (N : Nat) (hN : 200 < N) {T t : Nat} {τ ρ A C H : ST} (h : Nw t τ ρ A C H) (hr : Rs T τ ρ) (ht : t < 7000000) :
    (mE_X2_idleOnce N (pE 0 0 τ) = some (0, pE 0 0 τ) ∧ mR_idles N ρ = some (0, ρ)) ∨ ∃ κ' ρ' A' C', mE_X2_idleOnce N (pE 0 0 τ) = some (1, qmix A' κ') ∧ mR_idles N ρ = some (1, ρ') ∧ Nw (t + 3) (iE 0 0 τ (qmix A' κ')) ρ' A' C' H ∧ Rs T (iE 0 0 τ (qmix A' κ')) ρ' := by
  obtain ⟨n1, n2, n3⟩ := h
  have hmx := EngC_mix n1
  have htb := GT_b n3.1.1.1
  generalize hκ : pE 0 0 τ = κ at n1 hmx
  have e8 : qmix A κ 3 8 = nI (qah C) := by rw [q_mK (by omega)]; exact n1.2.2.1.2.1
  have er : ρ 1 0 = A 1 0 := n2.1 0 (by omega)
  rw [← hmx]
  have hc0 : mE_X2_idleOnce N (qmix A κ) = if nI (qah C) < A 1 0 / 2 then mE_X2_idleOnce_26 N (qmix A κ) none 0 0 else some (0, qmix A κ) := by
    rw [mE_X2_idleOnce, zLet_eq, e8, zGet_at (i := 0) 0 rfl (by decide) (by decide), q_mA (by omega), zDiv2, zBool_0]
  rw [hc0]
  by_cases hah : nI (qah C) < A 1 0 / 2
  · rw [if_pos hah]
    obtain ⟨hd, hl⟩ := qc_iloop N (by omega) n1.2 (by omega) N 0 (by omega) (by omega)
    have hl' : mE_X2_idleOnce_26 N (qmix A κ) none 0 0 = mE_X2_idleOnce_B26 N hd (qmix A κ) (qa_fin (qi A C 6).1) (qi A C 6).2 (nI 6) := hl
    have hl2 : mR_idles N ρ = mR_idles_137 N ρ (qa_eR (qi A C 6).1) (qi A C 6).2 (nI 6) := r_iloop N (by omega) n2 n3.1 hah N 0 (by omega) (by omega)
    rw [hl', hl2, mE_X2_idleOnce_B26.eq_def, if_pos (show (6 : Int32) ≤ nI 6 by decide)]
    cases hq : (qi A C 6).1 with
    | none =>
      left
      show zBool 0 _ = _ ∧ mR_idles_137 N ρ (-1) _ _ = _
      rw [zBool_0, mR_idles_137, if_pos rfl, zBool_0]
      exact ⟨rfl, rfl⟩
    | some p =>
      right
      obtain ⟨hp, c1, c2, c4, c5, c6⟩ := (qi_ok A C 6).2 p hq
      obtain ⟨a1, a2, a3, a4, a5, a6, a7, a8, a9, a10, a11, a12, a13⟩ := n3.1.1.2.2.1 p hp c1
      have hs := a11 c2
      obtain ⟨d1, d2⟩ := clamp_toInt c4.1
      have hnx := qc_next N (A := A) (κ := κ) ⟨p, hp⟩
      have hrn := r_next N (RR_13w n2 (w := 0) (by decide)) n3.1 hp c1 hs
      have hrn0 := r_next N n2 n3.1 hp c1 hs
      dsimp only at hnx
      generalize (qi_next A p).toNatClampNeg = b at *
      rw [d2] at hnx hrn0
      have hb : b < 10000 := by omega
      have hb7 : (b : Int) < (A 1 7).toInt := by omega
      have g1 : Gd (zUp A (12 + p) 5 (nI b)) C t := by
        refine Gd_A n3.1 (GA_s n3.1.1 hp (by omega) (fun _ => ?_)) (Nat.le_refl _) (q_uc (by omega)) (by rw [q_un (by omega)]; omega) (fun q hq => ⟨q_un (by omega), q_un (by omega)⟩)
        unfold GSr
        simp -implicitDefEqProofs (disch := first | assumption | omega) only [pk_un, pk_us]
        exact ⟨a1, a2, a3, a4, a5, a6, a7, a8, a9, a10, a11, by rw [nI_toInt (by omega)]; omega, by rw [nI_toInt (by omega)]; omega⟩
      have hR1 : Rp κ (zUp A (12 + p) 5 (nI b)) C H := by rw [Rp_eq (by omega) (by omega)]; exact n1.2
      have xin : XIN C (-1) := Or.inl rfl
      obtain ⟨κ1, k1, k2⟩ := qc_fetch N (by omega) hR1 g1 (by omega) (-1) (XIN_ok xin) ⟨p, hp⟩ hb c6
      dsimp only at k1 k2
      obtain ⟨f1, f2, f3, f4, f5, f6, f7⟩ := fetch_ok (b := b) g1 (by omega) xin hp (by rw [q_un (by omega)]; exact c1) (by rw [q_un (by omega)]; exact hs) hb (by rw [q_un (by omega)]; exact hb7) c6
      obtain ⟨ρ1, r1, r2⟩ := r_fetch N hN (RR_13w n2 (w := 0) (by decide)) n3.1 (by omega) (XIN_ok xin) (Or.inl rfl) hp c1 hb c6 (fun w => by cases w)
      have r3 := RR_s r2 (p := p) (k := 5) hp (by omega) (by omega) (nI b)
      have hon : On (nI b).toInt (A (12 + p) 1).toInt (A (12 + p) 2).toInt := by
        rw [← d2, show qi_next A p = (if qa_beyond A p (A (12 + p) 1) = true then A (12 + p) 5 else A (12 + p) 1) + A (12 + p) 2 from rfl]
        by_cases w : qa_beyond A p (A (12 + p) 1) = true
        · rw [if_pos w, i_add (by omega) (by omega)]
          exact On_next (n3.2.2.2.2.1 p hp c1)
        · rw [if_neg w, i_add (by omega) (by omega)]
          exact On_next (On_self _ _)
      have gx1 : GX (zUp A (12 + p) 5 (nI b)) C t := GX_eq n3.2.2.2 hp hon
      have gx2 := GX_fetch gx1 g1 (by omega) (by omega) xin hp (by rw [q_un (by omega)]; exact c1) hb (by
        rw [q_un (by omega), q_un (by omega)]
        rw [nI_toInt (by omega)] at hon
        exact hon)
      have hfu := fetch_up (A := A) (C := C) (p := p) (b := b) (e := nI b) (x := -1) hp
      rw [hfu] at k1 k2 f1 f2 f3 f4 f5 f6 f7 gx2
      dsimp only at k1 k2 f1 f2 f3 f4 f5 f6 f7 gx2
      rw [show 543 + 12 * p + 5 = 542 + 12 * p + 6 by omega] at r3
      generalize zUp (qa_fetch A C p b (-1)).1 (12 + p) 5 (nI b) = G at *
      generalize (qa_fetch A C p b (-1)).2 = C' at *
      have r4 := RR_n r3 (k := 30) (i := 25) (by unfold cmap; omega) (by omega) (by omega) (G 2 30 + 1)
      have e25 : zUp ρ1 1 (542 + 12 * p + 6) (nI b) 1 25 = G 2 30 := r3.2.1.1 30 25 (by unfold cmap; omega)
      have r5 := RR_self r4
      refine ⟨κ1, _, zUp G 2 30 (G 2 30 + 1), C', ?_, ?_, ⟨EngC_i (by omega) (by rw [Rp_eq (by omega) (by omega)]; exact k2), r5, Gd_o f1 (by omega), GH_A n3.2.1 ?_, fun b hb => ?_, GQ_inc gx2.1 (by omega) (by omega), GM_o gx2.2 (by omega) (by omega)⟩, Rs_k hr (fun c w1 w2 w3 _ _ _ _ => iE_o (by omega) (by omega) (by omega)) (fun c hc => r4.2.2.2.2.2.2.2.1.1 c (by omega) (by omega) (by omega)) (RR_13 r5)⟩
      · rw [qa_fin_some hp]
        show zCall (mE_X2_nextToFetch N (qmix A κ) ⟨p, hp⟩) _ = _
        rw [hnx, zCall_some, zLet_eq, q_uA (by omega), k1, zCallu_some, zGet_at (i := 30) 30 rfl (by decide) (by decide), q_mA (by omega), zLet_eq, zSet_at (i := 30) 30 rfl (by decide) (by decide), q_uA (by omega), zBool_1]
      · show mR_idles_137 N ρ (nI (542 + 12 * p)) _ _ = _
        rw [mR_idles_137, if_neg (q_m1 (by omega)), hrn0, zCall_some, zLet_eq, r1, zCallu_some, zLet_eq, zSet_at (542 + 12 * p + 6) (q_al _ _) (by omega) (by omega), zGet_at (i := 25) 25 rfl (by decide) (by decide), e25, zLet_eq, zSet_at (i := 25) 25 rfl (by decide) (by decide), zBool_1]
      · rw [q_uc (by omega), f3, q_uc (by omega)]
      · rw [q_uc (by omega), f6, q_uc (by omega)]
        exact n3.2.2.1 b hb
  · left
    obtain ⟨g, rfl⟩ : ∃ g, N = g + 1 := ⟨N - 1, by omega⟩
    rw [if_neg hah]
    refine ⟨rfl, ?_⟩
    rw [mR_idles, mR_idles_6, zIt_s, mR_idles_B6, if_neg (by decide), r_manyA (g + 1) (by omega) n2 n3.1, zCall_some, zGet_at (i := 0) 0 rfl (by decide) (by decide), er, zDiv2, if_pos (show A 1 0 / 2 ≤ nI (qah C) by rw [i_lt] at hah; rw [i_le]; omega), mR_idles_137, if_pos rfl, zBool_0]
theorem idle_loop (N : Nat) (hN : 200 < N) (n : Nat) (hn : n ≤ 20) {T : Nat} : ∀ (m k : Nat) {f : Nat} {t : Nat} {τ ρ A C H : ST}, k + m = n → m < f → t + 3 * m < 7000000 → Nw t τ ρ A C H → Rs T τ ρ →
    ∃ v τ' ρ' A' C' H', zIt (mT_X7_idle_B15 N) (fun _ _ _ => none) f τ (nI n) (nI k) = some (v, τ') ∧ zIt (mR_idle_B21 N) (fun _ _ _ => none) f ρ (nI n) (nI k) = some (v, ρ') ∧ Nw (t + 3 * m) τ' ρ' A' C' H' ∧ Rs T τ' ρ' := by
  intro m
  induction m with
  | zero =>
    intro k f t τ ρ A C H hk hf ht h hr
    obtain ⟨f, rfl⟩ : ∃ g, f = g + 1 := ⟨f - 1, by omega⟩
    rw [zIt_s, zIt_s, mT_X7_idle_B15, mR_idle_B21, if_pos (nI_le (by omega) (by omega)), if_pos (nI_le (by omega) (by omega)), mT_X7_idle_36, mR_idle_39]
    exact ⟨_, τ, ρ, A, C, H, rfl, rfl, h, hr⟩
  | succ m ih =>
    intro k f t τ ρ A C H hk hf ht h hr
    obtain ⟨f, rfl⟩ : ∃ g, f = g + 1 := ⟨f - 1, by omega⟩
    rw [zIt_s, zIt_s, mT_X7_idle_B15, mR_idle_B21, if_neg (nI_ge (by omega) (by omega)), if_neg (nI_ge (by omega) (by omega))]
    rcases step_idle N hN h hr (by omega) with ⟨s1, s2⟩ | ⟨κ', ρ', A', C', s1, s2, s3, s4⟩
    · rw [zqE s1, s2, zCall_some, if_pos rfl, if_pos rfl, mT_X7_idle_36, mR_idle_39]
      exact ⟨_, τ, ρ, A, C, H, rfl, rfl, ⟨h.1, h.2.1, St_mono h.2.2 (by omega)⟩, hr⟩
    · rw [zCallL_eq s1, s2, zCall_some, if_neg n10, if_neg n10, zLet_eq, zLet_eq, nI_1]
      obtain ⟨w, τ', ρ', A', C', H', q1, q2, q3, q4⟩ := ih (k + 1) (f := f) (by omega) (by omega) (by omega) s3 s4
      exact ⟨w, τ', ρ', A', C', H', q1, q2, ⟨q3.1, q3.2.1, St_mono q3.2.2 (by omega)⟩, q4⟩
theorem s_idle (N : Nat) (hN : 200 < N) (κ : Nat) (hκ : κ < 512) : Sm_idle N (II κ) (II (κ + 1)) := by
  intro τ ρ z hI
  obtain ⟨⟨A, C, H, n1, n2, n3⟩, hr⟩ := id hI
  have hth := RR_thr n2
  have e1 : (1 : Int32).toInt = 1 := by decide
  have e20 : (20 : Int32).toInt = 20 := by decide
  rw [mT_X7_idle, mR_idle, zLet_eq, zLet_eq, r_in N _ z 1 20 (m := 1) (n := 20) (by decide) (by decide), zCall_some]
  by_cases c1 : 1 ≤ z.toInt ∧ z.toInt ≤ 20
  · obtain ⟨d1, d2⟩ := clamp_toInt (x := z) (by omega)
    generalize z.toNatClampNeg = n at *
    subst d2
    rw [if_pos c1, if_neg n10, if_neg (show ¬ nI n < 1 by rw [i_lt, e1]; omega), if_pos (show nI n ≤ 20 by rw [i_le, e20]; omega)]
    have hrs : Rs (4100 * (κ + 1)) τ (zUp ρ 0 0 0) := Rs_k (Rs_mono hr (by omega)) (fun _ _ _ _ _ _ _ _ => rfl) (fun c hc => q_uc (by omega)) (RR_13 hth)
    obtain ⟨v, τ', ρ', A', C', H', q1, q2, q3, q4⟩ := idle_loop N hN n (by omega) n 0 (f := N) (by omega) (by omega) (by omega) ⟨n1, hth, n3⟩ hrs
    exact ⟨v, τ', ρ', q1, q2, ⟨A', C', H', q3.1, q3.2.1, St_mono q3.2.2 (by omega)⟩, q4⟩
  · rw [if_neg c1, if_pos rfl, mT_X7_idle_11]
    by_cases c2 : z < 1
    · rw [if_pos c2]
      exact ⟨_, _, _, rfl, rfl, II_thr hI⟩
    · rw [if_neg c2, if_neg (show ¬ z ≤ 20 by rw [i_lt, e1] at c2; rw [i_le, e20]; omega)]
      exact ⟨_, _, _, rfl, rfl, II_thr hI⟩
