/-! tune -/
def Bq (p q r p' q' r' : Int32) : Prop := p = p' ∧ q = q' ∧ r = r' ∧ 0 ≤ r.toInt ∧ r.toInt ≤ 50000
def Bi (p q r p' q' r' : Int32) : Prop := (p = -1 ∧ q = -1 ∧ r = 2147483647 ∧ p' = 0 ∧ q' = 0 ∧ r' = -2147483648) ∨ Bq p q r p' q' r'
theorem isT_1 {n : Nat} (h : 1 ≤ n) (h2 : n ≤ 4) : isT (nI 1) (nI n) := by
  rw [show isT (nI 1) (nI n) = ((0 ≤ (nI 1).toInt ∧ (nI 1).toInt ≤ 9) ∧ (lowF (nI 1).toNatClampNeg).toInt ≤ (nI n).toInt ∧ (nI n).toInt ≤ (highF (nI 1).toNatClampNeg).toInt) from rfl, nI_toInt (n := n) (by omega), show (lowF (nI 1).toNatClampNeg).toInt = 1 by decide, show (highF (nI 1).toNatClampNeg).toInt = 4 by decide]
  exact ⟨by decide, by omega, by omega⟩
theorem isT_2 {n : Nat} (h : 1 ≤ n) (h2 : n ≤ 8) : isT (nI 2) (nI n) := by
  rw [show isT (nI 2) (nI n) = ((0 ≤ (nI 2).toInt ∧ (nI 2).toInt ≤ 9) ∧ (lowF (nI 2).toNatClampNeg).toInt ≤ (nI n).toInt ∧ (nI n).toInt ≤ (highF (nI 2).toNatClampNeg).toInt) from rfl, nI_toInt (n := n) (by omega), show (lowF (nI 2).toNatClampNeg).toInt = 1 by decide, show (highF (nI 2).toNatClampNeg).toInt = 8 by decide]
  exact ⟨by decide, by omega, by omega⟩
theorem Tr_up {l : Nat} {τ0 ρ0 τ ρ : ST} (h : Tr l τ0 ρ0 τ ρ) (k : Nat) (v : Int32) : Tr l τ0 ρ0 τ (zUp ρ 1 k v) := by
  obtain ⟨h1, h2, h3, h4, h5⟩ := h
  exact ⟨h1, h2, fun c c0 c1 c2 => by rw [q_uc c1]; exact h3 c c0 c1 c2, by rw [q_uc (by omega)]; exact h4, by rw [q_uc (by omega)]; exact h5⟩
theorem tn_in (N : Nat) (hN : 2000 < N) {l : Nat} {τ0 ρ0 A H : ST} (hB : Bs l τ0 ρ0 A H) (hdA hdB : ST → Int32 → Int32 → Int32 → Int32 → Int32 → Option (Int32 × ST)) (x1 : Int32) {n : Nat} (hn : 1 ≤ n) (hn2 : n ≤ 4) : ∀ (m f j : Nat) {τ ρ : ST} {p q r p' q' r' : Int32}, f + j = 9 → 1 ≤ f → j < m → Tr l τ0 ρ0 τ ρ → (∀ k, k < 10 → k ≠ 1 → k ≠ 2 → ρ 1 k = A 1 k) → Bi p q r p' q' r' → (f ≠ 1 → Bq p q r p' q' r') → ∃ τ' ρ' P Q R, zIt (mT_X7_tune_B43 N hdA) (fun _ _ _ _ _ _ _ => none) m τ x1 p q r (nI n) (nI f) = hdA τ' x1 P Q R (nI (n + 1)) ∧ zIt (mR_tune_B47 N hdB) (fun _ _ _ _ _ _ _ => none) m ρ x1 p' q' r' (nI n) (nI f) = hdB ρ' x1 P Q R (nI (n + 1)) ∧ Tr l τ0 ρ0 τ' ρ' ∧ (∀ k, k < 10 → k ≠ 1 → k ≠ 2 → ρ' 1 k = A 1 k) ∧ Bq P Q R P Q R := by
  intro m
  induction m with
  | zero => intro f j τ ρ p q r p' q' r' _ _ _ _ _ _ _; omega
  | succ m ih =>
    intro f j τ ρ p q r p' q' r' hf hf1 hm hT hρ hb hb2
    have nx := fun {τ ρ : ST} {p q r p' q' r' : Int32} => ih (f + 1) (j - 1) (τ := τ) (ρ := ρ) (p := p) (q := q) (r := r) (p' := p') (q' := q') (r' := r')
    rw [zIt_s, zIt_s]
    generalize zIt (mT_X7_tune_B43 N hdA) (fun _ _ _ _ _ _ _ => none) m = h1 at *
    generalize zIt (mR_tune_B47 N hdB) (fun _ _ _ _ _ _ _ => none) m = h2 at *
    rw [mT_X7_tune_B43, mR_tune_B47, zGet_at (i := 2) 2 rfl (by decide) (by decide), show highF 2 = nI 8 from rfl, show (8 : Int32) = nI 8 from rfl]
    by_cases e : f = 9
    · subst e
      rw [if_pos (nI_lt (by omega) (by omega)), if_pos (nI_lt (by omega) (by omega)), zLet_eq, zLet_eq, nI_1]
      obtain ⟨a1, a2, a3, a4, a5⟩ := hb2 (by omega)
      subst a1; subst a2; subst a3
      exact ⟨τ, ρ, p, q, r, rfl, rfl, hT, hρ, rfl, rfl, rfl, a4, a5⟩
    · have hlt : ¬ nI 8 < nI f := by rw [i_lt, nI_toInt (by omega), nI_toInt (by omega)]; omega
      rw [if_neg hlt, if_neg hlt, zSet_at (i := 1) 1 rfl (by decide) (by decide), zSet_at (i := 2) 2 rfl (by decide) (by decide)]
      obtain ⟨τ', ρ', A', C', H', p1, p2, p3, p4, p5, p6, p7, p8⟩ := p_replay N hN hB (Tr_up (Tr_up hT 1 (nI n)) 2 (nI f)) (a := 1) (b := 2) (by omega) (by omega) (isT_1 hn hn2) (isT_2 hf1 (by omega)) (by rw [if_neg (by omega), if_neg (by omega)]) (fun k hk => by
        by_cases g2 : k = 2
        · rw [if_pos g2, g2, q_ue rfl rfl]
        · rw [if_neg g2, q_un (by omega)]
          by_cases g1 : k = 1
          · rw [if_pos g1, g1, q_ue rfl rfl]
          · rw [if_neg g1, q_un (by omega), hρ k hk g1 g2])
      have hρ' : ∀ k, k < 10 → k ≠ 1 → k ≠ 2 → ρ' 1 k = A 1 k := fun k hk g1 g2 => by rw [p5 k hk, q_un (by omega), q_un (by omega), hρ k hk g1 g2]
      have p1' : mT_X7_replayWith N τ 1 (nI n) 2 (nI f) = some τ' := p1
      have keep : ∀ {p q r : Int32}, Bq p q r p q r → ∃ τ'' ρ'' P Q R, h1 τ' x1 p q r (nI n) (nI (f + 1)) = hdA τ'' x1 P Q R (nI (n + 1)) ∧ h2 ρ' x1 p q r (nI n) (nI (f + 1)) = hdB ρ'' x1 P Q R (nI (n + 1)) ∧ Tr l τ0 ρ0 τ'' ρ'' ∧ (∀ k, k < 10 → k ≠ 1 → k ≠ 2 → ρ'' 1 k = A 1 k) ∧ Bq P Q R P Q R := fun hq => nx (by omega) (by omega) (by omega) p4 hρ' (Or.inr hq) (fun _ => hq)
      rw [p1', zCallu_some, p2, zCallu_some, zGet_at (i := 2) 2 rfl (by decide) (by decide), zGet_at (i := 2) 2 rfl (by decide) (by decide), zGet_at (i := 12) 12 rfl (by decide) (by decide), ← p6, mT_X7_tune_94, mT_X7_tune_94, mR_tune_93, zGet_at (i := 12) 12 rfl (by decide) (by decide), ← p6, mR_tune_108, mR_tune_108]
      simp only [zLet_eq]
      rw [nI_1]
      have hset := keep (p := nI n) (q := nI f) (r := τ' 102 2) ⟨rfl, rfl, rfl, p7, p8⟩
      rcases hb with ⟨b1, b2, b3, b4, b5, b6⟩ | hq
      · have c1 : ¬ r ≤ τ' 102 2 := by
          rw [b3, i_le, show (2147483647 : Int32).toInt = 2147483647 by decide]
          omega
        rw [if_neg c1, if_pos b6]
        exact hset
      · obtain ⟨a1, a2, a3, a4, a5⟩ := id hq
        subst a1; subst a2; subst a3
        have c1 : ¬ r = -2147483648 := fun w => by
          rw [w, show (-2147483648 : Int32).toInt = -2147483648 by decide] at a4
          omega
        rw [if_neg c1]
        by_cases c2 : r ≤ τ' 102 2
        · rw [if_pos c2, if_pos c2]
          exact keep hq
        · rw [if_neg c2, if_neg c2]
          exact hset
theorem tn_out (N : Nat) (hN : 2000 < N) {l : Nat} {τ0 ρ0 A H : ST} (hB : Bs l τ0 ρ0 A H) (x1 : Int32) : ∀ (m n j : Nat) {τ ρ : ST} {p q r p' q' r' : Int32}, n + j = 5 → 1 ≤ n → j < m → Tr l τ0 ρ0 τ ρ → (∀ k, k < 10 → k ≠ 1 → k ≠ 2 → ρ 1 k = A 1 k) → Bi p q r p' q' r' → (n ≠ 1 → Bq p q r p' q' r') → ∃ v τ' ρ', zIt (mT_X7_tune_B26 N) (fun _ _ _ _ _ _ => none) m τ x1 p q r (nI n) = some (v, τ') ∧ (∀ ρ3, mR_endThought N ρ' = some ρ3 → zIt (mR_tune_B38 N) (fun _ _ _ _ _ _ => none) m ρ x1 p' q' r' (nI n) = some (v, ρ3)) ∧ Tr l τ0 ρ0 τ' ρ' := by
  intro m
  induction m with
  | zero => intro n j τ ρ p q r p' q' r' _ _ _ _ _ _ _; omega
  | succ m ih =>
    intro n j τ ρ p q r p' q' r' hn hn1 hm hT hρ hb hb2
    have nx := fun {τ ρ : ST} {p q r p' q' r' : Int32} => ih (n + 1) (j - 1) (τ := τ) (ρ := ρ) (p := p) (q := q) (r := r) (p' := p') (q' := q') (r' := r')
    rw [zIt_s, zIt_s]
    generalize zIt (mT_X7_tune_B26 N) (fun _ _ _ _ _ _ => none) m = h1 at *
    generalize zIt (mR_tune_B38 N) (fun _ _ _ _ _ _ => none) m = h2 at *
    rw [mT_X7_tune_B26, mR_tune_B38, zGet_at (i := 1) 1 rfl (by decide) (by decide), show highF 1 = nI 4 from rfl, show (4 : Int32) = nI 4 from rfl]
    by_cases e : n = 5
    · subst e
      obtain ⟨a1, a2, a3, a4, a5⟩ := hb2 (by omega)
      subst a1; subst a2; subst a3
      rw [if_pos (nI_lt (by omega) (by omega)), if_pos (nI_lt (by omega) (by omega)), mT_X7_tune_125, mT_X7_tune_125, mT_X7_tune_125]
      refine ⟨if x1 = 0 then p else if x1 = 1 then q else r, τ, ρ, ?_, fun ρ3 h3 => ?_, hT⟩
      · by_cases v0 : x1 = 0
        · rw [if_pos v0, if_pos v0]
        · rw [if_neg v0, if_neg v0]
          by_cases v1 : x1 = 1
          · rw [if_pos v1, if_pos v1]
          · rw [if_neg v1, if_neg v1]
      · rw [h3, zCallu_some, mR_tune_143, mR_tune_143, mR_tune_143]
        by_cases v0 : x1 = 0
        · rw [if_pos v0, if_pos v0]
        · rw [if_neg v0, if_neg v0]
          by_cases v1 : x1 = 1
          · rw [if_pos v1, if_pos v1]
          · rw [if_neg v1, if_neg v1]
    · have hlt : ¬ nI 4 < nI n := by rw [i_lt, nI_toInt (by omega), nI_toInt (by omega)]; omega
      obtain ⟨τ', ρ', P, Q, R, s1, s2, s3, s4, s5⟩ := tn_in N hN hB h1 h2 x1 hn1 (show n ≤ 4 by omega) N 1 8 (τ := τ) (ρ := ρ) (p := p) (q := q) (r := r) (p' := p') (q' := q') (r' := r') (by omega) (by omega) (by omega) hT hρ hb (fun w => absurd rfl w)
      have s1' : mT_X7_tune_43 N h1 τ x1 p q r (nI n) (nI 1) = _ := s1
      have s2' : mR_tune_47 N h2 ρ x1 p' q' r' (nI n) (nI 1) = _ := s2
      rw [if_neg hlt, if_neg hlt, zGet_at (i := 2) 2 rfl (by decide) (by decide), show lowF 2 = nI 1 from rfl, s1', show (1 : Int32) = nI 1 from rfl, s2']
      exact nx (by omega) (by omega) (by omega) s3 s4 (Or.inr s5) (fun _ => s5)
theorem s_tune (N : Nat) (hN : 2000 < N) (κ : Nat) : Sm_tune N (II κ) (II (κ + 1)) := by
  intro τ ρ x1 hI
  obtain ⟨⟨A, C, H, n1, n2, n3⟩, hr⟩ := id hI
  have hth := RR_thr n2
  have e0 : (0 : Int32).toInt = 0 := by decide
  have e2 : (2 : Int32).toInt = 2 := by decide
  have hin := r_in N (zUp ρ 0 0 0) x1 0 2 (m := 0) (n := 2) (by decide) (by decide)
  by_cases c : 0 ≤ x1.toInt ∧ x1.toInt ≤ 2
  · obtain ⟨l, ρ1, ρ2, q1, q2, q3, q4, q5, q6, q7⟩ := th_start N hN n1 n3 hr (Kt_r τ) (fun _ _ _ => rfl) hth
    obtain ⟨v, τ', ρ', s1, s2, s3⟩ := tn_out N hN q3 x1 N 1 4 (τ := τ) (ρ := ρ2) (p := -1) (q := -1) (r := 2147483647) (p' := 0) (q' := 0) (r' := -2147483648) (by omega) (by omega) (by omega) q4 (fun k hk _ _ => q5 k hk) (Or.inl ⟨rfl, rfl, rfl, rfl, rfl, rfl⟩) (fun w => absurd rfl w)
    obtain ⟨ρ3, z1, z2⟩ := th_end N hN hI (Kt_r τ) s3 q6 q7 (fun c w0 _ _ => q_uc w0)
    refine ⟨v, τ', ρ3, ?_, ?_, z2⟩
    · rw [mT_X7_tune, if_neg (by rw [i_lt, e0]; omega), if_pos (by rw [i_le, e2]; omega), zGet_at (i := 1) 1 rfl (by decide) (by decide), show lowF 1 = nI 1 from rfl]
      exact s1
    · rw [mR_tune, zLet_eq, zLet_eq, hin, zCall_some, if_pos c, if_neg n10, q1, zCallu_some, q2, zCallu_some]
      exact s2 ρ3 z1
  · refine ⟨-1, τ, zUp ρ 0 0 0, ?_, ?_, II_thr hI⟩
    · rw [mT_X7_tune, mT_X7_tune_9]
      by_cases g : x1 < 0
      · rw [if_pos g]
      · rw [i_lt, e0] at g
        rw [if_neg (by rw [i_lt, e0]; exact g), if_neg (by rw [i_le, e2]; omega)]
    · rw [mR_tune, zLet_eq, zLet_eq, hin, zCall_some, if_neg c, if_pos rfl]
/-! best -/
theorem bs_loop (N : Nat) (hN : 2000 < N) {l : Nat} {τ0 ρ0 A H : ST} (hB : Bs l τ0 ρ0 A H) {a lo hi : Nat} (ha : a < 10) (ha7 : a ≠ 7) (hlo : lowF a = nI lo) (hhi : highF a = nI hi) (hh : hi ≤ 10000) (h10 : ρ0 10 a = nI hi) (x2 : Int32) : ∀ (m v j : Nat) {τ ρ : ST} {p r p' r' : Int32}, v + j = hi + 1 → lo ≤ v → j < m → Tr l τ0 ρ0 τ ρ → (∀ k, k < 10 → k ≠ a → ρ 1 k = A 1 k) → ((v = lo ∧ p = -1 ∧ r = 2147483647 ∧ p' = -1 ∧ r' = 0) ∨ (p = p' ∧ r = r' ∧ ¬ p = -1)) → (v = hi + 1 → p = p' ∧ r = r') → ∃ w τ' ρ', zIt (mT_X7_best_B40 N) (fun _ _ _ _ _ _ => none) m τ (nI a) x2 p r (nI v) = some (w, τ') ∧ (∀ ρ3, mR_endThought N ρ' = some ρ3 → zIt (mR_best_B56 N) (fun _ _ _ _ _ _ => none) m ρ (nI a) x2 p' r' (nI v) = some (w, ρ3)) ∧ Tr l τ0 ρ0 τ' ρ' := by
  intro m
  induction m with
  | zero => intro v j τ ρ p r p' r' _ _ _ _ _ _ _; omega
  | succ m ih =>
    intro v j τ ρ p r p' r' hv hv1 hm hT hρ hb hb2
    have nx := fun {τ ρ : ST} {p r p' r' : Int32} => ih (v + 1) (j - 1) (τ := τ) (ρ := ρ) (p := p) (r := r) (p' := p') (r' := r')
    rw [zIt_s, zIt_s]
    generalize zIt (mT_X7_best_B40 N) (fun _ _ _ _ _ _ => none) m = h1 at *
    generalize zIt (mR_best_B56 N) (fun _ _ _ _ _ _ => none) m = h2 at *
    have r10 : ρ 10 a = nI hi := by rw [hT.2.2.1 10 (by omega) (by omega) (by omega)]; exact h10
    rw [mT_X7_best_B40, mR_best_B56, zGet_nI ha (by omega), zGet_nI ha (by omega), hhi, r10]
    by_cases e : v = hi + 1
    · obtain ⟨b1, b2⟩ := hb2 e
      subst b1; subst b2
      rw [if_pos (nI_lt (by omega) (by omega)), if_pos (nI_lt (by omega) (by omega)), mT_X7_best_104, mT_X7_best_104]
      refine ⟨if x2 = 0 then p else r, τ, ρ, ?_, fun ρ3 h3 => ?_, hT⟩
      · by_cases v0 : x2 = 0
        · rw [if_pos v0, if_pos v0]
        · rw [if_neg v0, if_neg v0]
      · rw [h3, zCallu_some, mR_best_128, mR_best_128]
        by_cases v0 : x2 = 0
        · rw [if_pos v0, if_pos v0]
        · rw [if_neg v0, if_neg v0]
    · have hlt : ¬ nI hi < nI v := by rw [i_lt, nI_toInt (by omega), nI_toInt (by omega)]; omega
      have hT' : isT (nI a) (nI v) := by
        have ca : (nI a).toNatClampNeg = a := nI_clamp (by omega)
        refine ⟨by rw [nI_toInt (by omega)]; omega, ?_⟩
        rw [ca, hlo, hhi, nI_toInt (by omega), nI_toInt (by omega), nI_toInt (by omega)]
        omega
      rw [if_neg hlt, if_neg hlt, zSet_nI (by omega) (by omega)]
      obtain ⟨τ', ρ', A', C', H', p1, p2, p3, p4, p5, p6, p7, p8⟩ := p_replay N hN hB (Tr_up hT a (nI v)) (a := a) (b := a) ha ha hT' hT' (by rw [if_neg (by omega), if_neg (by omega)]) (fun k hk => by
        by_cases g1 : k = a
        · rw [if_pos g1, g1, q_ue rfl rfl]
        · rw [if_neg g1, if_neg g1, q_un (by omega), hρ k hk g1])
      have hρ' : ∀ k, k < 10 → k ≠ a → ρ' 1 k = A 1 k := fun k hk g1 => by rw [p5 k hk, q_un (by omega), hρ k hk g1]
      have keep : ∀ {p r : Int32}, ¬ p = -1 → ∃ w τ'' ρ'', h1 τ' (nI a) x2 p r (nI (v + 1)) = some (w, τ'') ∧ (∀ ρ3, mR_endThought N ρ'' = some ρ3 → h2 ρ' (nI a) x2 p r (nI (v + 1)) = some (w, ρ3)) ∧ Tr l τ0 ρ0 τ'' ρ'' := fun hq => nx (by omega) (by omega) (by omega) p4 hρ' (Or.inr ⟨rfl, rfl, hq⟩) (fun _ => ⟨rfl, rfl⟩)
      rw [p1, zCallu_some, p2, zCallu_some, zGet_at (i := 2) 2 rfl (by decide) (by decide), zGet_at (i := 2) 2 rfl (by decide) (by decide), zGet_at (i := 12) 12 rfl (by decide) (by decide), ← p6, mT_X7_best_88, mT_X7_best_88, mR_best_96, zGet_at (i := 12) 12 rfl (by decide) (by decide), ← p6, mR_best_108, mR_best_108]
      simp only [zLet_eq]
      rw [nI_1]
      have hset := keep (p := nI v) (r := τ' 102 2) (q_m1 (by omega))
      rcases hb with ⟨-, b1, b2, b3, b4⟩ | ⟨b1, b2, b3⟩
      · have c1 : ¬ r ≤ τ' 102 2 := by
          rw [b2, i_le, show (2147483647 : Int32).toInt = 2147483647 by decide]
          omega
        rw [if_neg c1, if_pos b3]
        exact hset
      · subst b1; subst b2
        rw [if_neg b3]
        by_cases c2 : r ≤ τ' 102 2
        · rw [if_pos c2, if_pos c2]
          exact keep b3
        · rw [if_neg c2, if_neg c2]
          exact hset
theorem lh_tab {a : Nat} (ha : a < 10) : ∃ lo hi, lowF a = nI lo ∧ highF a = nI hi ∧ lo ≤ hi ∧ hi ≤ 10000 := by
  rcases (show a = 0 ∨ a = 1 ∨ a = 2 ∨ a = 3 ∨ a = 4 ∨ a = 5 ∨ a = 6 ∨ a = 7 ∨ a = 8 ∨ a = 9 by omega) with w | w | w | w | w | w | w | w | w | w <;> subst w
  · exact ⟨4, 64, rfl, rfl, by omega, by omega⟩
  · exact ⟨1, 4, rfl, rfl, by omega, by omega⟩
  · exact ⟨1, 8, rfl, rfl, by omega, by omega⟩
  · exact ⟨1, 32, rfl, rfl, by omega, by omega⟩
  · exact ⟨1, 200, rfl, rfl, by omega, by omega⟩
  · exact ⟨0, 100, rfl, rfl, by omega, by omega⟩
  · exact ⟨1, 6, rfl, rfl, by omega, by omega⟩
  · exact ⟨1, 10000, rfl, rfl, by omega, by omega⟩
  · exact ⟨0, 2, rfl, rfl, by omega, by omega⟩
  · exact ⟨0, 8, rfl, rfl, by omega, by omega⟩
theorem s_best (N : Nat) (hN : 10002 < N) (κ : Nat) : Sm_best N (II κ) (II (κ + 1)) := by
  intro τ ρ x1 x2 hI
  obtain ⟨⟨A, C, H, n1, n2, n3⟩, hr⟩ := id hI
  have hth := RR_thr n2
  have hN2 : 2000 < N := by omega
  have e0 : (0 : Int32).toInt = 0 := by decide
  have e1 : (1 : Int32).toInt = 1 := by decide
  have e7 : (7 : Int32).toInt = 7 := by decide
  have e10 : (10 : Int32).toInt = 10 := by decide
  have hin := r_in N (zUp ρ 0 0 0) x1 0 9 (m := 0) (n := 9) (by decide) (by decide)
  have hin2 := r_in N (zUp ρ 0 0 0) x2 0 1 (m := 0) (n := 1) (by decide) (by decide)
  by_cases c : (0 ≤ x1.toInt ∧ x1.toInt ≤ 9) ∧ ¬ x1 = 7 ∧ (0 ≤ x2.toInt ∧ x2.toInt ≤ 1)
  · obtain ⟨c1, c2, c3⟩ := c
    obtain ⟨d1, d2⟩ := clamp_toInt c1.1
    generalize x1.toNatClampNeg = a at *
    subst d2
    have ha : a < 10 := by omega
    have ha7 : a ≠ 7 := fun w => c2 (by rw [w]; rfl)
    obtain ⟨lo, hi, f1, f2, f3, f4⟩ := lh_tab ha
    obtain ⟨l, ρ1, ρ2, q1, q2, q3, q4, q5, q6, q7⟩ := th_start N hN2 n1 n3 hr (Kt_r τ) (fun _ _ _ => rfl) hth
    have h10 : ρ2 10 a = nI hi := by rw [q7 10 (by omega) (by omega) (by omega), q_uc (by omega), (hr.2.2.1 a ha).2, f2]
    have h9 : ρ2 9 a = nI lo := by rw [q7 9 (by omega) (by omega) (by omega), q_uc (by omega), (hr.2.2.1 a ha).1, f1]
    obtain ⟨v, τ', ρ', s1, s2, s3⟩ := bs_loop N hN2 q3 ha ha7 f1 f2 f4 h10 x2 N lo (hi + 1 - lo) (τ := τ) (ρ := ρ2) (p := -1) (r := 2147483647) (p' := -1) (r' := 0) (by omega) (by omega) (by omega) q4 (fun k hk _ => q5 k hk) (Or.inl ⟨rfl, rfl, rfl, rfl, rfl⟩) (fun w => by omega)
    obtain ⟨ρ3, z1, z2⟩ := th_end N hN2 hI (Kt_r τ) s3 q6 q7 (fun c w0 _ _ => q_uc w0)
    refine ⟨v, τ', ρ3, ?_, ?_, z2⟩
    · rw [mT_X7_best, if_neg (show ¬ nI a < 0 by rw [i_lt, e0]; omega), if_neg (show ¬ (10 : Int32) ≤ nI a by rw [i_le, e10]; omega), if_neg c2, if_neg (by rw [i_lt, e0]; omega), if_pos (by rw [i_le, e1]; omega), zGet_nI ha (by omega), f1]
      exact s1
    · rw [mR_best, zLet_eq, zLet_eq, hin, zCall_some, if_pos c1, if_neg n10, if_neg c2, zLet_eq, hin2, zCall_some, if_pos c3, if_neg n10, q1, zCallu_some, q2, zCallu_some, zGet_nI ha (by omega), h9]
      exact s2 ρ3 z1
  · refine ⟨-1, τ, zUp ρ 0 0 0, ?_, ?_, II_thr hI⟩
    · rw [mT_X7_best, mT_X7_best_25]
      by_cases g1 : x1 < 0
      · rw [if_pos g1]
      · rw [if_neg g1]
        by_cases g2 : 10 ≤ x1
        · rw [if_pos g2]
        · rw [if_neg g2]
          by_cases g3 : x1 = 7
          · rw [if_pos g3]
          · rw [if_neg g3]
            by_cases g4 : x2 < 0
            · rw [if_pos g4]
            · rw [if_neg g4, if_neg (show ¬ x2 ≤ 1 from fun w => by
                rw [i_lt, e0] at g1 g4
                rw [i_le, e10] at g2
                rw [i_le, e1] at w
                exact c ⟨by omega, g3, by omega⟩)]
    · rw [mR_best, zLet_eq, zLet_eq, hin, zCall_some, mR_best_33]
      by_cases g1 : 0 ≤ x1.toInt ∧ x1.toInt ≤ 9
      · rw [if_pos g1, if_neg n10]
        by_cases g3 : x1 = 7
        · rw [if_pos g3]
        · rw [if_neg g3, zLet_eq, hin2, zCall_some, if_neg (fun w => c ⟨g1, g3, w⟩), if_pos rfl, mR_best_33]
      · rw [if_neg g1, if_pos rfl]
