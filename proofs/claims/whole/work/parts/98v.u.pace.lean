/-! pace -/
def qdd (t : Nat) : Int32 := if t % 2 = 0 then nI (t / 2 + 1) else -(nI (t / 2 + 1))
def qpc (bk : Nat → Nat) (l : Nat) : Nat → Int32 × Int32
  | 0 => (0, 0)
  | t + 1 => if (qrow bk (qdd t) l).2.1 ≤ (qpc bk l t).2 then qpc bk l t else (qdd t, (qrow bk (qdd t) l).2.1)
theorem u_pace (N : Nat) (hN : 401 < N) {τ H : ST} (h : RU (pU τ) H) {l : Nat} (hl : l ≤ 400) (l0 : 0 < l) (e : H 18 4 = nI l) {bk : Nat → Nat} (hb : BK H l bk) (hz : ∀ b, b < 10000 → pU τ 1 b = 0) (x1 : Int32) : ∀ m t : Nat, ∀ (τ' : ST) (x2 : Int32), (∀ c, c ≠ 500 → τ' c = τ c) → (x2 = (qpc bk l t).1 ∨ t = 0) → t ≤ 128 → 128 - t < m → (t = 128 → x2 = (qpc bk l t).1) → ∃ τ'', zIt (mT_X7_pace_B31 N) (fun _ _ _ _ _ => none) m τ' x1 x2 (qpc bk l t).2 (nI (t + 2)) = some (if x1 = 0 then (qpc bk l 128).1 else (qpc bk l 128).2, τ'') ∧ ∀ c, c ≠ 500 → τ'' c = τ c := by
  intro m
  induction m with
  | zero => intro t τ' x2 _ _ _ _; omega
  | succ m ih =>
    intro t τ' x2 hk hx ht hm hx2
    have nx := ih (t + 1)
    rw [zIt_s]
    generalize zIt (mT_X7_pace_B31 N) (fun _ _ _ _ _ => none) m = hd at *
    rw [mT_X7_pace_B31]
    by_cases et : t = 128
    · subst et
      have hx2 := hx2 rfl
      rw [if_pos (by decide), mT_X7_pace_98, mT_X7_pace_98, hx2]
      refine ⟨τ', ?_, hk⟩
      by_cases g : x1 = 0
      · rw [if_pos g, if_pos g]
      · rw [if_neg g, if_neg g]
    · have hu' : RU (pU τ') H := RU_k h (fun c c1 c2 => by
        unfold pU
        rw [if_neg (by omega), if_neg (by omega)]
        exact hk _ (by omega))
      have hz' : ∀ b, b < 10000 → pU τ' 1 b = 0 := fun b hb => by
        rw [← hz b hb]
        unfold pU
        rw [if_pos (by omega), if_pos (by omega), hk _ (by omega)]
      obtain ⟨s, s1, s2⟩ := u_row N hN hu' hl e hb hz' (qdd t)
      have body : ∃ τ'', mT_X7_pace_58 N hd τ' x1 x2 (qpc bk l t).2 (nI (t + 2)) (qdd t) = some (if x1 = 0 then (qpc bk l 128).1 else (qpc bk l 128).2, τ'') ∧ ∀ c, c ≠ 500 → τ'' c = τ c := by
        have hk' : ∀ c, c ≠ 500 → zUp τ' 500 5 s c = τ c := fun c hc => by rw [q_uc hc]; exact hk c hc
        have hq : qpc bk l (t + 1) = if (qrow bk (qdd t) l).2.1 ≤ (qpc bk l t).2 then qpc bk l t else (qdd t, (qrow bk (qdd t) l).2.1) := by rw [qpc]
        rw [mT_X7_pace_58, zCallL_eq s1, iU_up]
        by_cases c : (qrow bk (qdd t) l).2.1 ≤ (qpc bk l t).2
        · rw [if_pos c] at hq
          have t0 : ¬ t = 0 := fun w => by
            subst w
            have := (qrow_pos bk (qdd 0) l).2 l0
            rw [i_le] at c
            have c' : (qrow bk (qdd 0) l).2.1.toInt ≤ 0 := c
            omega
          have hx' := hx.resolve_right t0
          rw [if_pos c, mT_X7_pace_83, zLet_eq, nI_1]
          have := nx (zUp τ' 500 5 s) x2 hk' (Or.inl (by rw [hq]; exact hx')) (by omega) (by omega) (fun _ => by rw [hq]; exact hx')
          rw [hq] at this
          exact this
        · rw [if_neg c] at hq
          rw [if_neg c, mT_X7_pace_83, zLet_eq, nI_1]
          have := nx (zUp τ' 500 5 s) (qdd t) hk' (Or.inl (by rw [hq])) (by omega) (by omega) (fun _ => by rw [hq])
          rw [hq] at this
          exact this
      rw [if_neg (show ¬ (129 : Int32) < nI (t + 2) by rw [i_lt, nI_toInt (by omega), show (129 : Int32).toInt = 129 by decide]; omega), q_rm (by omega) (by omega) (by omega)]
      by_cases g : t % 2 = 0
      · have : qdd t = nI ((t + 2) / 2) := by unfold qdd; rw [if_pos g]; congr 1; omega
        rw [this] at body
        rw [if_pos (show nI ((t + 2) % 2) = 0 by rw [show (t + 2) % 2 = 0 by omega]; rfl), q_dv (by omega) (by omega) (by omega)]
        exact body
      · have : qdd t = -(nI ((t + 2) / 2)) := by unfold qdd; rw [if_neg g]; congr 2; omega
        rw [this] at body
        rw [if_neg (show ¬ nI ((t + 2) % 2) = 0 by rw [show (t + 2) % 2 = 1 by omega]; decide), q_dv (by omega) (by omega) (by omega), zLet_eq]
        exact body
theorem r_pace_in (N : Nat) (hN : 401 < N) {ρ H : ST} {l : Nat} (hl : l ≤ 400) (e22 : ρ 1 22 = nI l) (h3 : ∀ i, i < l → ρ 1 (774 + 3 * i) = H 19 i ∧ ρ 1 (775 + 3 * i) = H 20 i ∧ ρ 1 (776 + 3 * i) = H 21 i) {bk : Nat → Nat} (hb : BK H l bk) {ρ' : ST} (hk : Kr ρ ρ') (x1 x4 x5 : Int32) {t : Nat} (hx : ¬ x5 < -1) (ed : x5 * x4 = qdd t) (hd34 : ST → Int32 → Int32 → Int32 → Int32 → Option (Int32 × ST)) (hd44 : ST → Int32 → Int32 → Int32 → Int32 → Int32 → Option (Int32 × ST)) : ∃ ρ1, Kr ρ ρ1 ∧ mR_pace_B44 N hd34 hd44 ρ' x1 (qpc bk l t).1 (qpc bk l t).2 x4 x5 = hd44 ρ1 x1 (qpc bk l (t + 1)).1 (qpc bk l (t + 1)).2 x4 (x5 + -2) := by
  have k1 := hk.1 1 (by omega) (by omega)
  obtain ⟨ρ1, a1, a2, a3, a4⟩ := r_layRow N hN hl (by rw [k1]; exact e22) (by rw [k1]; exact h3) hb (qdd t) (ρ := ρ')
  refine ⟨ρ1, Kr_t hk a2, ?_⟩
  rw [mR_pace_B44, if_neg hx, zLet_eq, ed, a1, zCallu_some, zLet_eq, a3, qpc, zLet_eq, zLet_eq, mR_pace_78, mR_pace_78, zLet_eq, zLet_eq]
  by_cases c : (qrow bk (qdd t) l).2.1 ≤ (qpc bk l t).2
  · rw [if_pos c, if_pos c]
  · rw [if_neg c, if_neg c]
theorem r_pace (N : Nat) (hN : 401 < N) {ρ H : ST} {l : Nat} (hl : l ≤ 400) (e22 : ρ 1 22 = nI l) (h3 : ∀ i, i < l → ρ 1 (774 + 3 * i) = H 19 i ∧ ρ 1 (775 + 3 * i) = H 20 i ∧ ρ 1 (776 + 3 * i) = H 21 i) {bk : Nat → Nat} (hb : BK H l bk) (x1 : Int32) : ∀ m k : Nat, ∀ ρ' : ST, Kr ρ ρ' → k ≤ 64 → 64 - k < m → ∃ ρ'', zIt (mR_pace_B34 N) (fun _ _ _ _ _ => none) m ρ' x1 (qpc bk l (2 * k)).1 (qpc bk l (2 * k)).2 (nI (k + 1)) = some (if x1 = 0 then (qpc bk l 128).1 else (qpc bk l 128).2, ρ'') ∧ Kr ρ ρ'' := by
  intro m
  induction m with
  | zero => intro k ρ' _ _ _; omega
  | succ m ih =>
    intro k ρ' hk hkk hm
    have nx := ih (k + 1)
    rw [zIt_s]
    generalize zIt (mR_pace_B34 N) (fun _ _ _ _ _ => none) m = hd at *
    rw [mR_pace_B34]
    by_cases ek : k = 64
    · subst ek
      rw [if_pos (by decide), mR_pace_99, mR_pace_99]
      refine ⟨ρ', ?_, hk⟩
      by_cases g : x1 = 0
      · rw [if_pos g, if_pos g]
      · rw [if_neg g, if_neg g]
    · obtain ⟨g, rfl⟩ : ∃ g, N = g + 3 := ⟨N - 3, by omega⟩
      have d1 : (1 : Int32) * nI (k + 1) = qdd (2 * k) := by
        unfold qdd
        rw [if_pos (by omega), Int32.one_mul]
        congr 1
        omega
      have d2 : (-1 : Int32) * nI (k + 1) = qdd (2 * k + 1) := by
        unfold qdd
        rw [if_neg (by omega), Int32.neg_mul, Int32.one_mul]
        congr 2
        omega
      obtain ⟨ρ1, p1, p2⟩ := r_pace_in (g + 3) hN hl e22 h3 hb hk x1 (nI (k + 1)) 1 (by decide) d1 hd (zIt (mR_pace_B44 (g + 3) hd) (fun _ _ _ _ _ _ => none) (g + 2))
      obtain ⟨ρ2, q1, q2⟩ := r_pace_in (g + 3) hN hl e22 h3 hb p1 x1 (nI (k + 1)) (-1) (by decide) d2 hd (zIt (mR_pace_B44 (g + 3) hd) (fun _ _ _ _ _ _ => none) (g + 1))
      rw [if_neg (show ¬ (64 : Int32) < nI (k + 1) by rw [i_lt, nI_toInt (by omega), show (64 : Int32).toInt = 64 by decide]; omega), mR_pace_44, zIt_s, p2, show (1 : Int32) + -2 = -1 by decide, zIt_s, q2, show (-1 : Int32) + -2 = -3 by decide, zIt_s, mR_pace_B44, if_pos (by decide), zLet_eq, nI_1]
      exact nx ρ2 q1 (by omega) (by omega)
theorem s_pace (N : Nat) (hN : 500 < N) (κ : Nat) : Sm_pace N (II κ) (II (κ + 1)) := by
  intro τ ρ x1 hI
  obtain ⟨⟨A, C, H, n1, n2, n3⟩, hr⟩ := id hI
  have hth := RR_thr n2
  have hu := RU_of n1
  have htb := GT_b n3.1.1.1
  obtain ⟨l, l1, l2, l3⟩ := hth.2.2.2.2.1
  have hb := BK_of n3.2.1 l2 l1 (by omega)
  have hz : ∀ b, b < 10000 → pU τ 1 b = 0 := fun b hb => hr.2.2.2 b hb
  have e22 : zUp ρ 0 0 0 1 22 = nI l := by rw [hth.2.1.2.2.1, l2]
  have e4 : τ 18 4 = nI l := u_len hu l1 l2
  have e0 : (0 : Int32).toInt = 0 := by decide
  have e1 : (1 : Int32).toInt = 1 := by decide
  have hin2 := r_in N (zUp ρ 0 0 0) x1 0 1 (m := 0) (n := 1) (by decide) (by decide)
  by_cases c : ¬ l = 0 ∧ (0 ≤ x1.toInt ∧ x1.toInt ≤ 1)
  · obtain ⟨c1, c4⟩ := c
    have n0 : ¬ nI l = 0 := fun w => c1 (nI_inj (b := 0) (by omega) (by omega) w)
    obtain ⟨τ2, s1, s2⟩ := u_pace N (by omega) hu l1 (by omega) l2 hb hz x1 N 0 τ (-1) (fun _ _ => rfl) (Or.inr rfl) (by omega) (by omega) (fun w => by omega)
    obtain ⟨ρ2, p1, p2⟩ := r_pace N (by omega) l1 e22 l3 hb x1 N 0 (zUp ρ 0 0 0) (Kr_r _) (by omega) (by omega)
    refine ⟨if x1 = 0 then (qpc (fun i => (H 19 i).toNatClampNeg) l 128).1 else (qpc (fun i => (H 19 i).toNatClampNeg) l 128).2, τ2, ρ2, ?_, ?_, II_s hI (fun c g _ _ _ => s2 c g) (fun c hc => by rw [p2.1 c (by omega) (by omega), q_uc (by omega)]) (by rw [p2.2 13 (by omega) (by omega), q_un (by omega)])⟩
    · rw [mT_X7_pace, if_neg (by rw [i_lt, e0]; omega), if_neg (by rw [i_lt, e1]; omega), zLet_eq, e4, if_neg n0]
      exact s1
    · rw [mR_pace, zLet_eq, zGet_at (i := 22) 22 rfl (by decide) (by decide), e22, if_neg n0, zLet_eq, hin2, zCall_some, if_pos c4, if_neg n10]
      exact p1
  · refine ⟨-1, τ, zUp ρ 0 0 0, ?_, ?_, II_thr hI⟩
    · rw [mT_X7_pace, mT_X7_pace_22]
      by_cases d4 : x1 < 0
      · rw [if_pos d4]
      · rw [if_neg d4]
        by_cases d5 : 1 < x1
        · rw [if_pos d5]
        · rw [if_neg d5, zLet_eq, e4]
          rw [i_lt, e0] at d4
          rw [i_lt, e1] at d5
          have : l = 0 := by
            apply Classical.byContradiction
            intro w
            exact c ⟨w, by omega⟩
          rw [if_pos (by rw [this]; rfl)]
    · rw [mR_pace, zLet_eq, zGet_at (i := 22) 22 rfl (by decide) (by decide), e22, mR_pace_25]
      by_cases d0 : l = 0
      · rw [if_pos (by rw [d0]; rfl)]
      · have n0 : ¬ nI l = 0 := fun w => d0 (nI_inj (b := 0) (by omega) (by omega) w)
        rw [if_neg n0, zLet_eq, hin2, zCall_some, if_neg (fun w => c ⟨d0, w⟩), if_pos rfl, mR_pace_25]
