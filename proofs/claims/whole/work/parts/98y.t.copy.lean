/-! copies -/
def EqA (A A' : ST) : Prop := (∀ k, k < 10 → A' 1 k = A 1 k) ∧ (∀ k, k < 34 → A' 2 k = A 2 k) ∧ (∀ p, p < 6 → ∀ k, k < 11 → A' (12 + p) k = A (12 + p) k) ∧ A' 22 = A 22 ∧ A' 23 = A 23 ∧ (∀ b, b < 10000 → A' 26 b = A 26 b)
theorem RR_EqA {F ρ A A' C H : ST} (h : RR F false ρ A C H) (e : EqA A A') : RR F false ρ A' C H := by
  obtain ⟨h1, h2, h3, h4, h5, h6, h7, h8, h9⟩ := h
  obtain ⟨e1, e2, e3, e4, e5, e6⟩ := e
  refine ⟨fun k hk => ?_, ⟨fun k i hk => ?_, h2.2.1, h2.2.2.1, ?_⟩, fun p hp => ?_, ?_, h5, ?_, fun b hb => ?_, h8, fun w => by cases w⟩
  · rw [e1 k hk]; exact h1 k hk
  · rw [e2 k (by unfold cmap at hk; omega)]; exact h2.1 k i hk
  · rw [e4]; exact h2.2.2.2
  · rcases h3 p hp with ⟨a1, a2⟩ | ⟨a1, a2, a3⟩
    · exact Or.inl ⟨a1, by rw [e3 p hp 0 (by omega)]; exact a2⟩
    · exact Or.inr ⟨a1, by rw [e3 p hp 0 (by omega)]; exact a2, fun k hk => by rw [e3 p hp k hk]; exact a3 k hk⟩
  · unfold RRl; rw [e4, e5]; exact h4
  · obtain ⟨r, r1, r2, r3, r4, r5⟩ := h6
    refine ⟨r, r1, by rw [e1 0 (by omega)]; exact r2, fun i hi => ?_, r4, r5⟩
    rcases r3 i hi with q | ⟨b, hb, q⟩
    · exact Or.inl q
    · refine Or.inr ⟨b, hb, ?_⟩
      unfold RRe at *
      rw [e6 b hb]
      exact q
  · rw [e6 b hb]; exact h7 b hb
theorem St_EqA {t : Nat} {A A' C H : ST} (h : St t A C H) (e : EqA A A') : St t A' C H := by
  obtain ⟨⟨⟨g1, g2, g3, g4, g5⟩, ⟨c1, c2, c3, c4⟩, go⟩, gh, gk, gx⟩ := h
  obtain ⟨e1, e2, e3, e4, e5, e6⟩ := e
  refine ⟨⟨⟨fun k hk => ?_, fun k hk => ?_, fun p hp hn => ?_, fun p q hp hq => ?_, ?_⟩, ⟨c1, ?_, c3, ?_⟩, fun b p hb hp => ?_⟩, ?_, fun b hb => ?_, GQ_c gx.1 (fun k hk => e2 k hk), GM_A gx.2 (fun p hp => ⟨e3 p hp 0 (by omega), e3 p hp 1 (by omega), e3 p hp 2 (by omega), e3 p hp 5 (by omega)⟩) (by rw [e2 0 (by omega)]; exact Int.le_refl _)⟩
  · rw [e1 k hk]; exact g1 k hk
  · rw [e2 k (by omega)]; exact g2 k hk
  · rw [e3 p hp 0 (by omega)] at hn
    have := g3 p hp hn
    unfold GSr at *
    rw [e3 p hp 0 (by omega), e3 p hp 1 (by omega), e3 p hp 2 (by omega), e3 p hp 3 (by omega), e3 p hp 4 (by omega), e3 p hp 5 (by omega), e2 14 (by omega), e1 7 (by omega), e1 3 (by omega)]
    exact this
  · rw [e3 p hp 0 (by omega), e3 q hq 0 (by omega)]; exact g4 p q hp hq
  · unfold GL; rw [e4]; exact g5
  · rw [e2 14 (by omega), e1 7 (by omega)]; exact c2
  · rw [e1 0 (by omega)]; exact c4
  · rw [e3 p hp 0 (by omega), e3 p hp 2 (by omega)]; exact go b p hb hp
  · unfold GH; rw [e1 7 (by omega)]; exact gh
  · rw [e6 b hb]; exact gk b hb
theorem RR_rho {F ρ ρ' A C H : ST} (h : RR F false ρ A C H) (h1 : ∀ j, j < 1974 → ρ' 1 j = ρ 1 j) (h4 : ∀ b, b < 10000 → ρ' 4 b = ρ 4 b ∧ ρ' 5 b = ρ 5 b) (h13 : 0 ≤ (ρ' 0 13).toInt ∧ (ρ' 0 13).toInt ≤ 64) : RR ρ' false ρ' A C H := by
  obtain ⟨a1, a2, a3, a4, a5, a6, a7, a8, a9⟩ := h
  refine ⟨fun k hk => ?_, ⟨fun k i hk => ?_, ?_, ?_, ?_⟩, fun p hp => ?_, ?_, ?_, ?_, fun b hb => ?_, ⟨fun _ _ _ _ => rfl, fun _ _ _ _ => rfl, rfl, rfl, h13⟩, fun w => by cases w⟩
  · rw [h1 k (by omega)]; exact a1 k hk
  · rw [h1 i (by unfold cmap at hk; omega)]; exact a2.1 k i hk
  · rw [h1 21 (by omega)]; exact a2.2.1
  · rw [h1 22 (by omega)]; exact a2.2.2.1
  · rw [h1 26 (by omega)]; exact a2.2.2.2
  · rw [h1 (542 + 12 * p) (by omega)]
    rcases a3 p hp with q | ⟨q1, q2, q3⟩
    · exact Or.inl q
    · exact Or.inr ⟨q1, q2, fun k hk => by rw [h1 (543 + 12 * p + k) (by omega)]; exact q3 k hk⟩
  · obtain ⟨l, l1, l2, l3⟩ := a4
    exact ⟨l, l1, l2, fun k hk => by rw [h1 (614 + k) (by omega)]; exact l3 k hk⟩
  · obtain ⟨l, l1, l2, l3⟩ := a5
    exact ⟨l, l1, l2, fun i hi => by rw [h1 (774 + 3 * i) (by omega), h1 (775 + 3 * i) (by omega), h1 (776 + 3 * i) (by omega)]; exact l3 i hi⟩
  · obtain ⟨r, r1, r2, r3, r4, r5⟩ := a6
    refine ⟨r, r1, r2, fun i hi => ?_, fun b hb hc => ?_, fun i j hi hj => ?_⟩
    · rw [h1 (30 + 8 * i) (by omega)]
      rcases r3 i hi with q | ⟨b, hb, q⟩
      · exact Or.inl q
      · refine Or.inr ⟨b, hb, ?_⟩
        unfold RRe at *
        rw [h1 (30 + 8 * i) (by omega), h1 (31 + 8 * i) (by omega), h1 (32 + 8 * i) (by omega), h1 (33 + 8 * i) (by omega), h1 (34 + 8 * i) (by omega), h1 (35 + 8 * i) (by omega), h1 (36 + 8 * i) (by omega), h1 (37 + 8 * i) (by omega)]
        exact q
    · obtain ⟨i, i1, i2⟩ := r4 b hb hc
      exact ⟨i, i1, by rw [h1 (30 + 8 * i) (by omega)]; exact i2⟩
    · rw [h1 (30 + 8 * i) (by omega), h1 (30 + 8 * j) (by omega)]
      exact r5 i j hi hj
  · rw [(h4 b hb).1, (h4 b hb).2]; exact a7 b hb
theorem va_s {σ : ST} {c : Nat} {g : Nat → Int32} : va_up σ c g c = g := if_pos rfl
theorem va_n {σ : ST} {c d : Nat} {g : Nat → Int32} (h : d ≠ c) : va_up σ c g d = σ d := if_neg h
theorem cpy_0 {f g : Nat → Int32} {n : Nat} {x : Int32} (hx : x = nI n) (hn : n < 2 ^ 31) {j : Nat} (h : j < n) : va_cpy f g (0 : Int32).toNatClampNeg (0 : Int32).toNatClampNeg x.toNatClampNeg j = f j := by
  rw [hx, nI_clamp hn, show (0 : Int32).toNatClampNeg = 0 from rfl]
  unfold va_cpy
  rw [if_pos (by omega)]
  congr 1
  omega
/-- the copy's own cache forgets all -/
theorem y_clear (N : Nat) (hN : 100 < N) {y C0 : ST} (h : RKc y C0) : ∃ y', mY_X0_clear N y = some y' ∧ (∀ b, b < 10000 → y' 10 b = 0) ∧ ∀ c, c ≠ 3 → c ≠ 10 → y' c = y c := by
  obtain ⟨-, -, n, hn, e7, h1, h2, h3⟩ := h
  have key : ∀ m i : Nat, ∀ y1 : ST, (∀ c, c ≠ 10 → y1 c = y c) → (∀ b, b < 10000 → (∀ s, i ≤ s → s < n → ¬ y 4 s = nI b) → y1 10 b = 0) → i ≤ n → n - i < m → ∃ y', zIt (mY_X0_clear_B2 N) (fun _ _ => none) m y1 (nI i) = some y' ∧ (∀ b, b < 10000 → y' 10 b = 0) ∧ ∀ c, c ≠ 3 → c ≠ 10 → y' c = y c := by
    intro m
    induction m with
    | zero => intro i y1 _ _ _ _; omega
    | succ m ih =>
      intro i y1 k1 k2 hi hm
      rw [zIt_s, mY_X0_clear_B2, zLet_eq, k1 3 (by omega), e7]
      by_cases ei : i = n
      · subst ei
        rw [if_pos (nI_le (by omega) (by omega)), zLet_eq, zLet_eq, zLet_eq]
        refine ⟨_, rfl, fun b hb => ?_, fun c c1 c2 => ?_⟩
        · rw [q_uc (by omega), q_uc (by omega), q_uc (by omega)]
          exact k2 b hb (fun s _ _ => by omega)
        · rw [q_uc c1, q_uc c1, q_uc c1]
          exact k1 c c2
      · obtain ⟨b, b1, b2, b3, b4, -⟩ := h1 i (by omega)
        rw [if_neg (nI_ge (by omega) (by omega)), zGet_nI (by omega) (by omega), k1 4 (by omega), b4, mY_X0_mark, if_neg (show ¬ nI b < 0 by rw [i_lt, nI_toInt (by omega), show (0 : Int32).toInt = 0 by decide]; omega), if_neg (show ¬ (10000 : Int32) ≤ nI b from nI_ge (a := b) (b := 10000) (by omega) (by omega)), zSet_nI b1 (by omega), mY_X0_mark_18, zCallu_some, zLet_eq, nI_1]
        refine ih (i + 1) _ (fun c hc => by rw [q_uc hc]; exact k1 c hc) (fun b' hb' hs => ?_) (by omega) (by omega)
        by_cases g : b' = b
        · rw [g, q_ue rfl rfl]
        · rw [q_un (by omega)]
          refine k2 b' hb' (fun s s1 s2 => ?_)
          by_cases g2 : s = i
          · rw [g2, b4]
            exact fun w => g (nI_inj (by omega) (by omega) w).symm
          · exact hs s (by omega) s2
  refine key N 0 y (fun _ _ => rfl) (fun b hb hs => ?_) (by omega) (by omega)
  refine h3 b hb (fun w => ?_)
  obtain ⟨s, s1, s2⟩ := h2 b hb w
  exact hs s (by omega) s1 s2
theorem y_cache (N : Nat) (hN : 100 < N) {y C0 C : ST} (h : RKc y C0) (hs : RKc (fun c => y (100 + c)) C) : ∃ y', mY_X0_copyFrom N y = some y' ∧ RKc y' C ∧ ∀ c, (c < 3 ∨ 10 < c) → y' c = y c := by
  obtain ⟨y0, a1, a2, a3⟩ := y_clear N hN h
  obtain ⟨d9, d8, n, hn, d7, h1, h2, h3⟩ := hs
  rw [mY_X0_copyFrom, a1, zCallu_some]
  simp only [zLet_eq]
  generalize hz : va_up (va_up (va_up (va_up (va_up (zUp (zUp (zUp y0 3 7 (y0 103 7)) 3 8 (zUp y0 3 7 (y0 103 7) 103 8)) 3 9 (zUp (zUp y0 3 7 (y0 103 7)) 3 8 (zUp y0 3 7 (y0 103 7) 103 8) 103 9)) 4 _) 5 _) 6 _) 7 _) 8 _ = z
  have z3 : ∀ c, c = 3 ∨ c = 4 ∨ c = 5 ∨ c = 6 ∨ c = 7 ∨ c = 8 ∨ z c = y0 c := by
    intro c
    by_cases g : c = 3 ∨ c = 4 ∨ c = 5 ∨ c = 6 ∨ c = 7 ∨ c = 8
    · omega
    · have : z c = y0 c := by
        rw [← hz, va_n (by omega), va_n (by omega), va_n (by omega), va_n (by omega), va_n (by omega), q_uc (by omega), q_uc (by omega), q_uc (by omega)]
      simp [this]
  have w7 : z 3 7 = nI n := by
    rw [← hz, va_n (by omega), va_n (by omega), va_n (by omega), va_n (by omega), va_n (by omega), q_un (by omega), q_un (by omega), q_ue rfl rfl, a3 103 (by omega) (by omega)]
    exact d7
  have w8 : z 3 8 = nI (qah C) := by
    rw [← hz, va_n (by omega), va_n (by omega), va_n (by omega), va_n (by omega), va_n (by omega), q_un (by omega), q_ue rfl rfl, q_un (by omega), a3 103 (by omega) (by omega)]
    exact d8
  have w9 : z 3 9 = C 10000 0 := by
    rw [← hz, va_n (by omega), va_n (by omega), va_n (by omega), va_n (by omega), va_n (by omega), q_ue rfl rfl, q_un (by omega), q_un (by omega), a3 103 (by omega) (by omega)]
    exact d9
  have e64 : (64 : Int32) = nI 64 := rfl
  have w4 : ∀ s, s < 64 → z 4 s = y 104 s := fun s hs => by
    rw [← hz, va_n (by omega), va_n (by omega), va_n (by omega), va_n (by omega), va_s, cpy_0 e64 (by omega) hs, q_uc (by omega), q_uc (by omega), q_uc (by omega), a3 104 (by omega) (by omega)]
  have w5 : ∀ s, s < 64 → z 5 s = y 105 s := fun s hs => by
    rw [← hz, va_n (by omega), va_n (by omega), va_n (by omega), va_s, cpy_0 e64 (by omega) hs, va_n (by omega), q_uc (by omega), q_uc (by omega), q_uc (by omega), a3 105 (by omega) (by omega)]
  have w6 : ∀ s, s < 64 → z 6 s = y 106 s := fun s hs => by
    rw [← hz, va_n (by omega), va_n (by omega), va_s, cpy_0 e64 (by omega) hs, va_n (by omega), va_n (by omega), q_uc (by omega), q_uc (by omega), q_uc (by omega), a3 106 (by omega) (by omega)]
  have wv7 : ∀ s, s < 64 → z 7 s = y 107 s := fun s hs => by
    rw [← hz, va_n (by omega), va_s, cpy_0 e64 (by omega) hs, va_n (by omega), va_n (by omega), va_n (by omega), q_uc (by omega), q_uc (by omega), q_uc (by omega), a3 107 (by omega) (by omega)]
  have wv8 : ∀ s, s < 64 → z 8 s = y 108 s := fun s hs => by
    rw [← hz, va_s, cpy_0 e64 (by omega) hs, va_n (by omega), va_n (by omega), va_n (by omega), va_n (by omega), q_uc (by omega), q_uc (by omega), q_uc (by omega), a3 108 (by omega) (by omega)]
  clear hz
  have zo : ∀ c, c < 3 ∨ 10 < c → z c = y c := fun c hc => by
    have := z3 c
    have e : z c = y0 c := by
      rcases this with w | w | w | w | w | w | w
      · omega
      · omega
      · omega
      · omega
      · omega
      · omega
      · exact w
    rw [e, a3 c (by omega) (by omega)]
  have z10 : ∀ b, b < 10000 → z 10 b = 0 := fun b hb => by
    have e : z 10 = y0 10 := by
      rcases z3 10 with w | w | w | w | w | w | w
      · omega
      · omega
      · omega
      · omega
      · omega
      · omega
      · exact w
    rw [e]; exact a2 b hb
  have key : ∀ m i : Nat, ∀ y1 : ST, (∀ c, c ≠ 9 → c ≠ 10 → y1 c = z c) → (∀ s, s < i → y1 9 s = y 109 s ∧ ∀ b, b < 10000 → y 104 s = nI b → y1 10 b = nI (s + 1)) → (∀ b, b < 10000 → (∀ s, s < i → ¬ y 104 s = nI b) → y1 10 b = 0) → i ≤ n → n - i < m → ∃ y', zIt (mY_X0_copyFrom_B105 N) (fun _ _ => none) m y1 (nI i) = some y' ∧ (∀ c, c ≠ 9 → c ≠ 10 → y' c = z c) ∧ (∀ s, s < n → y' 9 s = y 109 s ∧ ∀ b, b < 10000 → y 104 s = nI b → y' 10 b = nI (s + 1)) ∧ (∀ b, b < 10000 → (∀ s, s < n → ¬ y 104 s = nI b) → y' 10 b = 0) := by
    intro m
    induction m with
    | zero => intro i y1 _ _ _ _ _; omega
    | succ m ih =>
      intro i y1 k1 k2 k3 hi hm
      rw [zIt_s, mY_X0_copyFrom_B105, zLet_eq, k1 3 (by omega) (by omega), w7]
      by_cases ei : i = n
      · subst ei
        rw [if_pos (nI_le (by omega) (by omega)), mY_X0_copyFrom_150]
        exact ⟨_, rfl, k1, k2, k3⟩
      · obtain ⟨b, b1, b2, b3, b4, b5, b6, b7, b8, b9, b10⟩ := h1 i (by omega)
        have b4 : y 104 i = nI b := b4
        have b9 : y 109 i = C b 5 := b9
        have en : vp_nar .boolean (y1 109 i) = y 109 i := by
          rw [k1 109 (by omega) (by omega), zo 109 (by omega), b9]
          rcases b10 with w | w
          · rw [w, vn_0]
          · rw [w, vn_1]
        rw [if_neg (nI_ge (by omega) (by omega)), if_neg (show ¬ (64 : Int32) ≤ nI i from nI_ge (a := i) (b := 64) (by omega) (by omega)), zGet_nI (by omega) (by omega), en, zSet_nI (by omega) (by omega), zGet_nI (by omega) (by omega), q_uc (by omega), k1 4 (by omega) (by omega), w4 i (by omega), b4, zLet_eq, nI_1, mY_X0_mark, if_neg (show ¬ nI b < 0 by rw [i_lt, nI_toInt (by omega), show (0 : Int32).toInt = 0 by decide]; omega), if_neg (show ¬ (10000 : Int32) ≤ nI b from nI_ge (a := b) (b := 10000) (by omega) (by omega)), zSet_nI b1 (by omega), mY_X0_mark_18, zCallu_some, zLet_eq]
        refine ih (i + 1) _ (fun c c1 c2 => by rw [q_uc c2, q_uc c1]; exact k1 c c1 c2) (fun s hs => ⟨?_, fun b' hb' hx => ?_⟩) (fun b' hb' hx => ?_) (by omega) (by omega)
        · rw [q_uc (by omega)]
          by_cases g : s = i
          · rw [g, q_ue rfl rfl]
          · rw [q_un (by omega)]
            exact (k2 s (by omega)).1
        · by_cases g : s = i
          · subst g
            have : b' = b := nI_inj (by omega) (by omega) (hx.symm.trans b4)
            rw [this, q_ue rfl rfl]
          · have hne : ¬ b' = b := fun w => by
              subst w
              obtain ⟨b2', q1, q2, q3, q4, -⟩ := h1 s (by omega)
              have q4 : y 104 s = nI b2' := q4
              have eb : b2' = b' := nI_inj (by omega) (by omega) (q4.symm.trans hx)
              rw [eb] at q3
              have := nI_inj (by omega) (by omega) (q3.symm.trans b3)
              omega
            rw [q_un (by omega), q_un (by omega)]
            exact (k2 s (by omega)).2 b' hb' hx
        · have hne : ¬ b' = b := fun w => by
            subst w
            exact hx i (by omega) b4
          rw [q_un (by omega), q_un (by omega)]
          exact k3 b' hb' (fun s hs => hx s (by omega))
  obtain ⟨y', p1, p2, p3, p4⟩ := key N 0 z (fun _ _ _ => rfl) (fun s hs => by omega) (fun b hb _ => z10 b hb) (by omega) (by omega)
  refine ⟨y', p1, ⟨?_, ?_, n, hn, ?_, fun s hs => ?_, fun b hb hc => ?_, fun b hb hc => ?_⟩, fun c hc => ?_⟩
  · rw [p2 3 (by omega) (by omega)]; exact w9
  · rw [p2 3 (by omega) (by omega)]; exact w8
  · rw [p2 3 (by omega) (by omega)]; exact w7
  · obtain ⟨b, b1, b2, b3, b4, b5, b6, b7, b8, b9, b10⟩ := h1 s hs
    refine ⟨b, b1, b2, (p3 s hs).2 b b1 b4, ?_, ?_, ?_, ?_, ?_, ?_, b10⟩
    · rw [p2 4 (by omega) (by omega), w4 s (by omega)]; exact b4
    · rw [p2 5 (by omega) (by omega), w5 s (by omega)]; exact b5
    · rw [p2 6 (by omega) (by omega), w6 s (by omega)]; exact b6
    · rw [p2 7 (by omega) (by omega), wv7 s (by omega)]; exact b7
    · rw [p2 8 (by omega) (by omega), wv8 s (by omega)]; exact b8
    · rw [(p3 s hs).1]; exact b9
  · obtain ⟨s, s1, s2⟩ := h2 b hb hc
    exact ⟨s, s1, by rw [p2 4 (by omega) (by omega), w4 s (by omega)]; exact s2⟩
  · refine p4 b hb (fun s hs w => ?_)
    obtain ⟨b2, q1, q2, q3, q4, -⟩ := h1 s hs
    have q4 : y 104 s = nI b2 := q4
    have : b2 = b := nI_inj (by omega) (by omega) (q4.symm.trans w)
    rw [this] at q2
    exact hc q2
  · rw [p2 c (by omega) (by omega)]; exact zo c hc
theorem y_stream (N : Nat) (σ : ST) {p : Nat} (hp : p < 6) : ∃ σ', mY_X4_copyFrom N σ ⟨p, hp⟩ ⟨p, hp⟩ = some σ' ∧ (∀ c, c ≠ 12 + p → σ' c = σ c) ∧ ∀ k, k < 11 → σ' (12 + p) k = σ (112 + p) k := by
  rw [mY_X4_copyFrom]
  simp only [zLet_eq, zCallu_some, mY_X4_begin]
  refine ⟨_, rfl, fun c hc => ?_, fun k hk => ?_⟩
  · simp -implicitDefEqProofs (disch := first | assumption | omega) only [q_uc]
  · have hc : ¬ 112 + p = 12 + p := by omega
    simp -implicitDefEqProofs (disch := first | assumption | omega) only [q_uc]
    rcases (show k = 0 ∨ k = 1 ∨ k = 2 ∨ k = 3 ∨ k = 4 ∨ k = 5 ∨ k = 6 ∨ k = 7 ∨ k = 8 ∨ k = 9 ∨ k = 10 by omega) with w | w | w | w | w | w | w | w | w | w | w <;> subst w <;> simp -implicitDefEqProofs (disch := first | assumption | omega) only [q_ue, q_un, q_uc]
theorem y_copy (N : Nat) (hN : 100 < N) {y C0 A C H : ST} (h : RKc y C0) (hs : Rp (fun c => y (100 + c)) A C H) : ∃ y', mY_X2_copyFrom N y = some y' ∧ Rp y' A C H ∧ (∀ c, 25 ≤ c → y' c = y c) ∧ (∀ k, k < 10 → y' 1 k = y 101 k) ∧ (∀ k, k < 34 → y' 2 k = y 102 k) ∧ (∀ p, p < 6 → ∀ k, k < 11 → y' (12 + p) k = y (112 + p) k) := by
  have h0 : RKc (va_up (va_up y 1 (va_cpy (y 101) (y 1) (0 : Int32).toNatClampNeg (0 : Int32).toNatClampNeg (10 : Int32).toNatClampNeg)) 2 (va_cpy (va_up y 1 (va_cpy (y 101) (y 1) (0 : Int32).toNatClampNeg (0 : Int32).toNatClampNeg (10 : Int32).toNatClampNeg) 102) (va_up y 1 (va_cpy (y 101) (y 1) (0 : Int32).toNatClampNeg (0 : Int32).toNatClampNeg (10 : Int32).toNatClampNeg) 2) (0 : Int32).toNatClampNeg (0 : Int32).toNatClampNeg (34 : Int32).toNatClampNeg)) C0 := RKc_k (fun c c1 c2 => by rw [va_n (by omega), va_n (by omega)]) h
  rw [mY_X2_copyFrom, mY_X2_copyTerms, zLet_eq, zCallu_some, zLet_eq]
  generalize hz : va_up (va_up y 1 (va_cpy (y 101) (y 1) (0 : Int32).toNatClampNeg (0 : Int32).toNatClampNeg (10 : Int32).toNatClampNeg)) 2 _ = z at *
  have z0 : ∀ c, c ≠ 1 → c ≠ 2 → z c = y c := fun c c1 c2 => by rw [← hz, va_n c2, va_n c1]
  have z1 : ∀ k, k < 10 → z 1 k = y 101 k := fun k hk => by rw [← hz, va_n (by omega), va_s, cpy_0 (show (10 : Int32) = nI 10 from rfl) (by omega) hk]
  have z2 : ∀ k, k < 34 → z 2 k = y 102 k := fun k hk => by rw [← hz, va_s, cpy_0 (show (34 : Int32) = nI 34 from rfl) (by omega) hk, va_n (by omega)]
  clear hz
  obtain ⟨w, w1, w2, w3⟩ := y_cache N hN h0 (RKc_k (fun c c1 c2 => z0 (100 + c) (by omega) (by omega)) hs.2.1)
  rw [w1, zCallu_some]
  have key : ∀ m i : Nat, ∀ y1 : ST, (∀ c, (c < 12 ∨ 18 ≤ c) → y1 c = w c) → (∀ p, p < i → ∀ k, k < 11 → y1 (12 + p) k = y (112 + p) k) → i ≤ 6 → 6 - i < m → ∃ y', zIt (mY_X2_copyFrom_B33 N) (fun _ _ => none) m y1 (nI i) = some y' ∧ Rp y' A C H ∧ (∀ c, 25 ≤ c → y' c = y c) ∧ (∀ k, k < 10 → y' 1 k = y 101 k) ∧ (∀ k, k < 34 → y' 2 k = y 102 k) ∧ (∀ p, p < 6 → ∀ k, k < 11 → y' (12 + p) k = y (112 + p) k) := by
    intro m
    induction m with
    | zero => intro i y1 _ _ _ _; omega
    | succ m ih =>
      intro i y1 k1 k2 hi hm
      rw [zIt_s, mY_X2_copyFrom_B33]
      by_cases ei : i = 6
      · subst ei
        have f : ∀ c, c = 0 ∨ c = 1 ∨ c = 2 ∨ (18 ≤ c) → c ≠ 1 → c ≠ 2 → y1 c = y c := fun c c0 c1 c2 => by rw [k1 c (by omega), w3 c (by omega), z0 c c1 c2]
        rw [if_pos (by decide), mY_X3_copyFrom]
        simp only [zLet_eq, zCallu_some, mY_X6_copyFrom]
        obtain ⟨hl, hc, hh⟩ := hs
        refine ⟨_, rfl, ⟨?_, ?_, ?_⟩, fun c hc => ?_, fun k hk => ?_, fun k hk => ?_, fun p hp k hk => ?_⟩
        · obtain ⟨nx, l, a1, a2, a3, a4, a5, a6⟩ := hl
          refine ⟨nx, l, a1, a2, ?_, ?_, a5, fun i w hi hw => ?_⟩
          · rw [q_un (by omega), q_un (by omega), va_n (by omega), q_un (by omega), q_ue rfl rfl]
            simp only [va_n (show (122 : Nat) ≠ 21 by omega), va_n (show (122 : Nat) ≠ 20 by omega), va_n (show (122 : Nat) ≠ 19 by omega), q_uc (show (122 : Nat) ≠ 18 by omega)]
            rw [f 122 (by omega) (by omega) (by omega)]
            exact a3
          · rw [q_un (by omega), q_un (by omega), va_n (by omega), q_ue rfl rfl, q_un (by omega)]
            simp only [va_n (show (122 : Nat) ≠ 21 by omega), va_n (show (122 : Nat) ≠ 20 by omega), va_n (show (122 : Nat) ≠ 19 by omega), q_uc (show (122 : Nat) ≠ 18 by omega)]
            rw [f 122 (by omega) (by omega) (by omega)]
            exact a4
          · rw [q_uc (by omega), q_uc (by omega), va_s, cpy_0 (show (160 : Int32) = nI 160 from rfl) (by omega) (by omega)]
            simp only [va_n (show (123 : Nat) ≠ 21 by omega), va_n (show (123 : Nat) ≠ 20 by omega), va_n (show (123 : Nat) ≠ 19 by omega), q_uc (show (123 : Nat) ≠ 18 by omega), q_uc (show (123 : Nat) ≠ 22 by omega)]
            rw [f 123 (by omega) (by omega) (by omega)]
            exact a6 i w hi hw
        · refine RKc_k (fun c c1 c2 => ?_) w2
          rw [q_uc (by omega), q_uc (by omega), va_n (by omega), q_uc (by omega), q_uc (by omega), va_n (by omega), va_n (by omega), va_n (by omega), q_uc (by omega), q_uc (by omega)]
          exact k1 c (by omega)
        · obtain ⟨el, l, a1, a2, a3, a4, a5, a6⟩ := hh
          have g : ∀ c, 118 ≤ c → c ≤ 121 → y1 c = y c := fun c c1 c2 => f c (by omega) (by omega) (by omega)
          refine ⟨el, l, a1, a2, ?_, ?_, a5, fun i hi => ?_⟩
          · rw [q_uc (by omega), q_uc (by omega), va_n (by omega), q_uc (by omega), q_uc (by omega), va_n (by omega), va_n (by omega), va_n (by omega), q_un (by omega), q_ue rfl rfl, g 118 (by omega) (by omega)]
            exact a3
          · rw [q_uc (by omega), q_uc (by omega), va_n (by omega), q_uc (by omega), q_uc (by omega), va_n (by omega), va_n (by omega), va_n (by omega), q_ue rfl rfl, q_uc (by omega), g 118 (by omega) (by omega)]
            exact a4
          · have hm : (el + i) % 400 < 400 := Nat.mod_lt _ (by omega)
            obtain ⟨b1, b2, b3⟩ := a6 i hi
            refine ⟨?_, ?_, ?_⟩
            · rw [q_uc (by omega), q_uc (by omega), va_n (by omega), q_uc (by omega), q_uc (by omega), va_n (by omega), va_n (by omega), va_s, cpy_0 (show (400 : Int32) = nI 400 from rfl) (by omega) hm, q_uc (by omega), q_uc (by omega), g 119 (by omega) (by omega)]
              exact b1
            · rw [q_uc (by omega), q_uc (by omega), va_n (by omega), q_uc (by omega), q_uc (by omega), va_n (by omega), va_s, cpy_0 (show (400 : Int32) = nI 400 from rfl) (by omega) hm, va_n (by omega), q_uc (by omega), q_uc (by omega), g 120 (by omega) (by omega)]
              exact b2
            · rw [q_uc (by omega), q_uc (by omega), va_n (by omega), q_uc (by omega), q_uc (by omega), va_s, cpy_0 (show (400 : Int32) = nI 400 from rfl) (by omega) hm, va_n (by omega), va_n (by omega), q_uc (by omega), q_uc (by omega), g 121 (by omega) (by omega)]
              exact b3
        · rw [q_uc (by omega), q_uc (by omega), va_n (by omega), q_uc (by omega), q_uc (by omega), va_n (by omega), va_n (by omega), va_n (by omega), q_uc (by omega), q_uc (by omega)]
          exact f c (by omega) (by omega) (by omega)
        · rw [q_uc (by omega), q_uc (by omega), va_n (by omega), q_uc (by omega), q_uc (by omega), va_n (by omega), va_n (by omega), va_n (by omega), q_uc (by omega), q_uc (by omega), k1 1 (by omega), w3 1 (by omega)]
          exact z1 k hk
        · rw [q_uc (by omega), q_uc (by omega), va_n (by omega), q_uc (by omega), q_uc (by omega), va_n (by omega), va_n (by omega), va_n (by omega), q_uc (by omega), q_uc (by omega), k1 2 (by omega), w3 2 (by omega)]
          exact z2 k hk
        · rw [q_uc (by omega), q_uc (by omega), va_n (by omega), q_uc (by omega), q_uc (by omega), va_n (by omega), va_n (by omega), va_n (by omega), q_uc (by omega), q_uc (by omega)]
          exact k2 p hp k hk
      · obtain ⟨σ', s1, s2, s3⟩ := y_stream N y1 (p := i) (by omega)
        rw [if_neg (show ¬ (6 : Int32) ≤ nI i from nI_ge (a := i) (b := 6) (by omega) (by omega)), q_g6 (by omega), q_g6 (by omega), s1, zCallu_some, zLet_eq, nI_1]
        refine ih (i + 1) σ' (fun c hc => by rw [s2 c (by omega)]; exact k1 c hc) (fun p hp k hk => ?_) (by omega) (by omega)
        by_cases g : p = i
        · subst g
          rw [s3 k hk, k1 (112 + p) (by omega), w3 (112 + p) (by omega), z0 _ (by omega) (by omega)]
        · rw [s2 _ (by omega)]
          exact k2 p (by omega) k hk
  exact key N 0 w (fun _ _ => rfl) (fun p hp => by omega) (by omega) (by omega)
