/-! misses -/
def MS (φ : Nat → Nat) (n : Nat) (u ρ : ST) (w : Nat → Nat) : Prop := n ≤ 64 ∧ (∀ k, k < n → u 3 k = ρ 19 k ∧ u 4 k = nI (φ (w k)) ∧ ρ 20 k = nI (w k) ∧ w k ≤ 401) ∧ ∀ i k, i < n → k < n → ρ 19 i = ρ 19 k → i = k
theorem MS_put {φ : Nat → Nat} {n : Nat} {u ρ : ST} {w : Nat → Nat} (h : MS φ n u ρ w) {p t : Nat} {x : Int32} (hp : p ≤ n) (hp2 : p < 64) (hx : ∀ k, k < n → ρ 19 k = x → k = p) (ht : t ≤ 401) {n' : Nat} (hn : n' = max n (p + 1)) : MS φ n' (zUp (zUp u 3 p x) 4 p (nI (φ t))) (zUp (zUp ρ 19 p x) 20 p (nI t)) (fun k => if k = p then t else w k) := by
  have hn64 := h.1
  refine ⟨by omega, fun k hk => ?_, fun i k hi hk => ?_⟩
  · dsimp only
    by_cases g : k = p
    · subst g
      rw [if_pos rfl, q_un (by omega), q_ue rfl rfl, q_un (by omega), q_ue rfl rfl, q_ue rfl rfl, q_ue rfl rfl]
      exact ⟨rfl, rfl, rfl, ht⟩
    · rw [if_neg g, q_un (by omega), q_un (by omega), q_un (by omega), q_un (by omega), q_un (by omega), q_un (by omega), q_un (by omega), q_un (by omega)]
      exact h.2.1 k (by omega)
  · rw [q_un (by omega), q_un (σ := zUp ρ 19 p x) (by omega)]
    by_cases g1 : i = p
    · by_cases g2 : k = p
      · omega
      · rw [g1, q_ue rfl rfl, q_un (by omega)]
        intro e
        have := hx k (by omega) e.symm
        omega
    · by_cases g2 : k = p
      · rw [g2, q_ue rfl rfl, q_un (by omega)]
        intro e
        have := hx i (by omega) e
        omega
      · rw [q_un (by omega), q_un (by omega)]
        exact h.2.2 i k (by omega) (by omega)
theorem u_slot_some (N : Nat) (hN : 401 < N) {u : ST} {n k : Nat} {x : Int32} (hn : n ≤ 64) (hk : k < n) (h : u 3 k = x) (hu : ∀ i, i < n → u 3 i = x → i = k) : mU_X5_slotHolding N u x (nI n) = some (nI k, u) := by
  have key : ∀ m i : Nat, i ≤ k → k - i < m → zIt (mU_X5_slotHolding_B2 N) (fun _ _ _ _ => none) m u x (nI n) (nI i) = some (nI k, u) := by
    intro m
    induction m with
    | zero => intro i _ _; omega
    | succ m ih =>
      intro i hi hm
      rw [zIt_s, mU_X5_slotHolding_B2, if_neg (nI_ge (by omega) (by omega)), if_neg (show ¬ (64 : Int32) ≤ nI i from nI_ge (a := i) (b := 64) (by omega) (by omega)), zGet_nI (by omega) (by omega)]
      by_cases g : i = k
      · subst g
        rw [if_pos h]
      · rw [if_neg (fun w => g (hu i (by omega) w)), zLet_eq, nI_1]
        exact ih (i + 1) (by omega) (by omega)
  exact key N 0 (by omega) (by omega)
theorem u_slot_none (N : Nat) (hN : 401 < N) {u : ST} {n : Nat} {x : Int32} (hn : n ≤ 64) (hu : ∀ i, i < n → ¬ u 3 i = x) : mU_X5_slotHolding N u x (nI n) = some (-1, u) := by
  have key : ∀ m i : Nat, i ≤ n → n - i < m → zIt (mU_X5_slotHolding_B2 N) (fun _ _ _ _ => none) m u x (nI n) (nI i) = some (-1, u) := by
    intro m
    induction m with
    | zero => intro i _ _; omega
    | succ m ih =>
      intro i hi hm
      rw [zIt_s, mU_X5_slotHolding_B2]
      by_cases g : i = n
      · subst g
        rw [if_pos (nI_le (by omega) (by omega)), mU_X5_slotHolding_31]
      · rw [if_neg (nI_ge (by omega) (by omega)), if_neg (show ¬ (64 : Int32) ≤ nI i from nI_ge (a := i) (b := 64) (by omega) (by omega)), zGet_nI (by omega) (by omega), if_neg (hu i (by omega)), zLet_eq, nI_1]
        exact ih (i + 1) (by omega) (by omega)
  exact key N 0 (by omega) (by omega)
theorem u_hold (N : Nat) {u : ST} {p : Nat} (hp : p < 64) (x t : Int32) : mU_X5_hold N u (nI p) x t = some (zUp (zUp u 3 p x) 4 p t) := by
  rw [mU_X5_hold, if_neg (show ¬ nI p < 0 by rw [i_lt, nI_toInt (by omega), show (0 : Int32).toInt = 0 by decide]; omega), if_neg (show ¬ (64 : Int32) ≤ nI p from nI_ge (a := p) (b := 64) (by omega) (by omega)), zSet_nI hp (by omega), zSet_nI hp (by omega), mU_X5_hold_24]
theorem r_slot_some (N : Nat) (hN : 401 < N) {ρ H : ST} {l j : Nat} (hl : l ≤ 400) (h3 : ∀ i, i < l → ρ 1 (774 + 3 * i) = H 19 i ∧ ρ 1 (775 + 3 * i) = H 20 i ∧ ρ 1 (776 + 3 * i) = H 21 i) (hj : j < l) {n k : Nat} (hn : n ≤ 64) (hk : k < n) (h : ρ 19 k = H 19 j) (hu : ∀ i, i < n → ρ 19 i = H 19 j → i = k) (hd : ST → Int32 → Int32 → Int32 → Int32 → Int32 → Option (Int32 × ST)) (x1 x2 x4 : Int32) : mR_missesBy_26 N hd ρ x1 x2 (nI n) x4 (nI j) (-1) 0 = mR_missesBy_102 N hd ρ x1 x2 (nI n) x4 (nI j) (nI k) (nI n) := by
  have key : ∀ m i : Nat, i ≤ n → n - i < m → zIt (mR_missesBy_B26 N hd) (fun _ _ _ _ _ _ _ _ => none) m ρ x1 x2 (nI n) x4 (nI j) (if i ≤ k then -1 else nI k) (nI i) = mR_missesBy_102 N hd ρ x1 x2 (nI n) x4 (nI j) (nI k) (nI n) := by
    intro m
    induction m with
    | zero => intro i _ _; omega
    | succ m ih =>
      intro i hi hm
      have nx := ih (i + 1)
      rw [zIt_s]
      generalize zIt (mR_missesBy_B26 N hd) (fun _ _ _ _ _ _ _ _ => none) m = hd2 at *
      rw [mR_missesBy_B26]
      by_cases g : i = n
      · subst g
        rw [if_pos (nI_le (by omega) (by omega)), if_neg (show ¬ i ≤ k by omega), if_neg (q_m1 (by omega))]
      · have nx := nx (by omega) (by omega)
        rw [if_neg (nI_ge (by omega) (by omega)), zGet_nI (by omega) (by omega), r_traced N hl h3 hj, zCall_some, mR_missesBy_55, mR_missesBy_55, zLet_eq, zLet_eq, nI_1]
        by_cases g2 : i = k
        · subst g2
          rw [if_neg (show ¬ i + 1 ≤ i by omega)] at nx
          rw [if_pos h]
          exact nx
        · rw [if_neg (fun w => g2 (hu i (by omega) w))]
          by_cases g3 : i ≤ k
          · rw [if_pos (show i + 1 ≤ k by omega)] at nx
            rw [if_pos g3]
            exact nx
          · rw [if_neg (show ¬ i + 1 ≤ k by omega)] at nx
            rw [if_neg g3]
            exact nx
  have := key N 0 (by omega) (by omega)
  rw [if_pos (by omega)] at this
  exact this
theorem r_slot_none (N : Nat) (hN : 401 < N) {ρ H : ST} {l j : Nat} (hl : l ≤ 400) (h3 : ∀ i, i < l → ρ 1 (774 + 3 * i) = H 19 i ∧ ρ 1 (775 + 3 * i) = H 20 i ∧ ρ 1 (776 + 3 * i) = H 21 i) (hj : j < l) {n : Nat} (hn : n ≤ 64) (hu : ∀ i, i < n → ¬ ρ 19 i = H 19 j) (hd : ST → Int32 → Int32 → Int32 → Int32 → Int32 → Option (Int32 × ST)) (x1 x2 x4 : Int32) : mR_missesBy_26 N hd ρ x1 x2 (nI n) x4 (nI j) (-1) 0 = if x1 ≤ nI n then zCall (mR_outOf N ρ (nI n) x2) fun v84 s84 => mR_missesBy_87 N hd s84 x1 x2 (nI n) (x4 + 1) (nI j) (-1) (nI n) v84 else mR_missesBy_87 N hd ρ x1 x2 (nI n) (x4 + 1) (nI j) (-1) (nI n) (nI n) := by
  have key : ∀ m i : Nat, i ≤ n → n - i < m → zIt (mR_missesBy_B26 N hd) (fun _ _ _ _ _ _ _ _ => none) m ρ x1 x2 (nI n) x4 (nI j) (-1) (nI i) = if x1 ≤ nI n then zCall (mR_outOf N ρ (nI n) x2) fun v84 s84 => mR_missesBy_87 N hd s84 x1 x2 (nI n) (x4 + 1) (nI j) (-1) (nI n) v84 else mR_missesBy_87 N hd ρ x1 x2 (nI n) (x4 + 1) (nI j) (-1) (nI n) (nI n) := by
    intro m
    induction m with
    | zero => intro i _ _; omega
    | succ m ih =>
      intro i hi hm
      have nx := ih (i + 1)
      rw [zIt_s]
      generalize zIt (mR_missesBy_B26 N hd) (fun _ _ _ _ _ _ _ _ => none) m = hd2 at *
      rw [mR_missesBy_B26]
      by_cases g : i = n
      · subst g
        rw [if_pos (nI_le (by omega) (by omega)), if_pos rfl, zLet_eq]
      · have nx := nx (by omega) (by omega)
        rw [if_neg (nI_ge (by omega) (by omega)), zGet_nI (by omega) (by omega), r_traced N hl h3 hj, zCall_some, if_neg (hu i (by omega)), mR_missesBy_55, zLet_eq, nI_1]
        exact nx
  exact key N 0 (by omega) (by omega)
theorem r_87 (N : Nat) (hd : ST → Int32 → Int32 → Int32 → Int32 → Int32 → Option (Int32 × ST)) (ρ : ST) {c n : Nat} (hc : c ≤ 64) (hn : n ≤ c) (x2 x4 x5 x6 x7 k0 : Int32) : mR_missesBy_87 N hd ρ (nI c) x2 (nI n) x4 x5 x6 x7 k0 = mR_missesBy_102 N hd ρ (nI c) x2 (nI (if n < c then n + 1 else n)) x4 x5 k0 x7 := by
  rw [mR_missesBy_87, mR_missesBy_100, mR_missesBy_100, zLet_eq, zLet_eq, nI_1, Int32.add_zero]
  by_cases g : n < c
  · rw [if_neg (nI_ge (by omega) (by omega)), if_pos g]
  · rw [if_pos (nI_le (by omega) (by omega)), if_neg g]
theorem u_mn {c n : Nat} (hc : c ≤ 64) (hn : n ≤ c) : (if nI (n + 1) < nI c then nI (n + 1) else nI c) = nI (if n < c then n + 1 else n) := by
  by_cases g : n + 1 < c
  · rw [if_pos (show nI (n + 1) < nI c from nI_lt g (by omega)), if_pos (by omega)]
  · rw [if_neg (show ¬ nI (n + 1) < nI c by rw [i_lt, nI_toInt (by omega), nI_toInt (by omega)]; omega)]
    by_cases g2 : n < c
    · rw [if_pos g2, show n + 1 = c by omega]
    · rw [if_neg g2, show n = c by omega]
theorem r_102_0 (N : Nat) {ρ H : ST} {l j : Nat} (hl : l ≤ 400) (h3 : ∀ i, i < l → ρ 1 (774 + 3 * i) = H 19 i ∧ ρ 1 (775 + 3 * i) = H 20 i ∧ ρ 1 (776 + 3 * i) = H 21 i) (hj : j < l) {p : Nat} (hp : p < 64) (hd : ST → Int32 → Int32 → Int32 → Int32 → Int32 → Option (Int32 × ST)) (x1 x3 x4 x7 : Int32) : mR_missesBy_102 N hd ρ x1 0 x3 x4 (nI j) (nI p) x7 = hd (zUp (zUp ρ 19 p (H 19 j)) 20 p (nI j)) x1 0 x3 x4 (nI (j + 1)) := by
  rw [mR_missesBy_102, r_traced N hl h3 hj, zCall_some, zSet_nI hp (by omega), if_pos rfl, mR_missesBy_144, zSet_nI hp (by omega), zLet_eq, nI_1]
def AG (H : ST) (l : Nat) (v : Int32) (a r : Nat) : Prop := (r = 401 ∧ ∀ i, a ≤ i → i < l → ¬ H 19 i = v) ∨ (a ≤ r ∧ r < l ∧ H 19 r = v ∧ ∀ i, a ≤ i → i < r → ¬ H 19 i = v)
theorem AG_ex (H : ST) (l : Nat) (v : Int32) : ∀ d a : Nat, l - a ≤ d → ∃ r, AG H l v a r := by
  intro d
  induction d with
  | zero => intro a h; exact ⟨401, Or.inl ⟨rfl, fun i _ _ => by omega⟩⟩
  | succ d ih =>
    intro a h
    by_cases g : a < l
    · by_cases c : H 19 a = v
      · exact ⟨a, Or.inr ⟨by omega, g, c, fun i _ _ => by omega⟩⟩
      · obtain ⟨r, hr⟩ := ih (a + 1) (by omega)
        refine ⟨r, ?_⟩
        have st : ∀ i, a ≤ i → ¬ a + 1 ≤ i → ¬ H 19 i = v := fun i h1 h2 => by
          rw [show i = a by omega]; exact c
        rcases hr with ⟨r1, r2⟩ | ⟨r1, r2, r3, r4⟩
        · refine Or.inl ⟨r1, fun i i1 i2 => ?_⟩
          by_cases q : a + 1 ≤ i
          · exact r2 i q i2
          · exact st i i1 q
        · refine Or.inr ⟨by omega, r2, r3, fun i i1 i2 => ?_⟩
          by_cases q : a + 1 ≤ i
          · exact r4 i q i2
          · exact st i i1 q
    · exact ⟨401, Or.inl ⟨rfl, fun i _ _ => by omega⟩⟩
theorem AG_le {H : ST} {l : Nat} {v : Int32} {a r : Nat} (h : AG H l v a r) (hl : l ≤ 400) : r ≤ 401 ∧ (r = 401 ∨ r < 400) := by
  rcases h with ⟨r1, _⟩ | ⟨_, r2, _⟩ <;> omega
theorem r_again (N : Nat) (hN : 401 < N) {ρ H : ST} {l : Nat} (hl : l ≤ 400) (e22 : ρ 1 22 = nI l) (h3 : ∀ i, i < l → ρ 1 (774 + 3 * i) = H 19 i ∧ ρ 1 (775 + 3 * i) = H 20 i ∧ ρ 1 (776 + 3 * i) = H 21 i) {v : Int32} {a r : Nat} (ha : a ≤ l) (h : AG H l v a r) : mR_againAt N ρ v (nI a) = some (nI r, ρ) := by
  have key : ∀ m i : Nat, a ≤ i → i ≤ l → (i ≤ r) → l - i < m → zIt (mR_againAt_B2 N) (fun _ _ _ _ => none) m ρ v (nI a) (nI i) = some (nI r, ρ) := by
    intro m
    induction m with
    | zero => intro i _ _ _ _; omega
    | succ m ih =>
      intro i h1 h2 h4 hm
      rw [zIt_s, mR_againAt_B2, zGet_at (i := 22) 22 rfl (by decide) (by decide), e22]
      by_cases g : i = l
      · subst g
        have : r = 401 := by
          rcases h with ⟨r1, _⟩ | ⟨_, r2, _⟩ <;> omega
        rw [if_pos (nI_le (by omega) (by omega)), this]
        rfl
      · rw [if_neg (nI_ge (by omega) (by omega)), r_traced N hl h3 (by omega), zCall_some]
        by_cases c : H 19 i = v
        · have : r = i := by
            rcases h with ⟨_, r2⟩ | ⟨_, _, _, r4⟩
            · exact absurd c (r2 i h1 (by omega))
            · apply Classical.byContradiction
              intro w
              exact r4 i h1 (by omega) c
          rw [if_pos c, this]
        · rw [if_neg c, zLet_eq, nI_1]
          refine ih (i + 1) (by omega) (by omega) ?_ (by omega)
          rcases h with ⟨r1, _⟩ | ⟨_, _, r3, _⟩
          · omega
          · apply Classical.byContradiction
            intro w
            have : r = i := by omega
            rw [this] at r3
            exact c r3
  exact key N a (by omega) ha (by
    rcases h with ⟨r1, _⟩ | ⟨r1, _⟩ <;> omega) (by omega)
theorem r_102_1 (N : Nat) (hN : 401 < N) {ρ H : ST} {l j : Nat} (hl : l ≤ 400) (e22 : ρ 1 22 = nI l) (h3 : ∀ i, i < l → ρ 1 (774 + 3 * i) = H 19 i ∧ ρ 1 (775 + 3 * i) = H 20 i ∧ ρ 1 (776 + 3 * i) = H 21 i) (hj : j < l) {p r : Nat} (hp : p < 64) (hr : AG H l (H 19 j) (j + 1) r) (hd : ST → Int32 → Int32 → Int32 → Int32 → Int32 → Option (Int32 × ST)) (x1 x3 x4 x7 : Int32) : mR_missesBy_102 N hd ρ x1 1 x3 x4 (nI j) (nI p) x7 = hd (zUp (zUp ρ 19 p (H 19 j)) 20 p (nI r)) x1 1 x3 x4 (nI (j + 1)) := by
  have k1 : zUp ρ 19 p (H 19 j) 1 = ρ 1 := q_uc (by omega)
  rw [mR_missesBy_102, r_traced N hl h3 hj, zCall_some, zSet_nI hp (by omega), if_neg n10, r_traced N hl (by rw [k1]; exact h3) hj, zCall_some, zLet_eq, nI_1, r_again N hN hl (by rw [k1]; exact e22) (by rw [k1]; exact h3) (by omega) hr, zCall_some, mR_missesBy_144, zSet_nI hp (by omega), zLet_eq, nI_1]
/-! which one goes -/
theorem out_0 (N : Nat) (hN : 401 < N) {u ρ : ST} {n : Nat} {w : Nat → Nat} (h : MS (fun x => x) n u ρ w) (hn : 0 < n) (hw : ∀ i k, i < n → k < n → w i = w k → i = k) : ∃ p, p < n ∧ mU_X5_longestUnread N u (nI n) = some (nI p, u) ∧ mR_outOf N ρ (nI n) 0 = some (nI p, ρ) := by
  have hn64 := h.1
  have key : ∀ m i p : Nat, p < i → i ≤ n → n - i < m → ∃ p', p' < n ∧ zIt (mU_X5_longestUnread_B4 N) (fun _ _ _ _ => none) m u (nI n) (nI p) (nI i) = some (nI p', u) ∧ zIt (mR_outOf_B5 N) (fun _ _ _ _ _ => none) m ρ (nI n) 0 (nI p) (nI i) = some (nI p', ρ) := by
    intro m
    induction m with
    | zero => intro i p _ _ _; omega
    | succ m ih =>
      intro i p hp hi hm
      rw [zIt_s, zIt_s, mU_X5_longestUnread_B4, mR_outOf_B5]
      by_cases g : i = n
      · subst g
        rw [if_pos (nI_le (by omega) (by omega)), if_pos (nI_le (by omega) (by omega)), mU_X5_longestUnread_38]
        exact ⟨p, hp, rfl, rfl⟩
      · obtain ⟨a1, a2, a3, a4⟩ := h.2.1 i (by omega)
        obtain ⟨b1, b2, b3, b4⟩ := h.2.1 p (by omega)
        dsimp only at a2 b2
        rw [if_neg (nI_ge (by omega) (by omega)), if_neg (nI_ge (by omega) (by omega)), if_neg (show ¬ (64 : Int32) ≤ nI i from nI_ge (a := i) (b := 64) (by omega) (by omega)), zGet_nI (by omega) (by omega), zGet_nI (by omega) (by omega), if_pos rfl, zGet_nI (by omega) (by omega), zGet_nI (by omega) (by omega), a2, a3, b2, b3, mU_X5_longestUnread_32, mU_X5_longestUnread_32, zLet_eq, zLet_eq, nI_1]
        by_cases c : w p ≤ w i
        · have ne : ¬ w i = w p := fun e => by
            have := hw i p (by omega) (by omega) e
            omega
          rw [if_pos (nI_le c (by omega)), if_pos (nI_le c (by omega)), mR_outOf_60, if_pos rfl, zGet_nI (by omega) (by omega), zGet_nI (by omega) (by omega), a3, b3, if_neg (fun z => ne (nI_inj (by omega) (by omega) z)), mR_outOf_104, mR_outOf_105, zLet_eq, nI_1]
          exact ih (i + 1) p (by omega) (by omega) (by omega)
        · rw [if_neg (nI_ge (by omega) (by omega)), if_neg (nI_ge (by omega) (by omega)), mR_outOf_60, if_neg n10, mR_outOf_99, mR_outOf_105, zLet_eq, nI_1]
          exact ih (i + 1) i (by omega) (by omega) (by omega)
  exact key N 1 0 (by omega) (by omega) (by omega)
def phi1 (w : Nat) : Nat := if w = 401 then 2147483647 else w + 1
theorem phi1_lt {a b : Nat} (ha : a = 401 ∨ a < 400) (hb : b = 401 ∨ b < 400) : phi1 a < phi1 b ↔ a < b := by
  unfold phi1
  split <;> split <;> omega
theorem phi1_eq {a b : Nat} (ha : a = 401 ∨ a < 400) (hb : b = 401 ∨ b < 400) : phi1 a = phi1 b ↔ a = b := by
  unfold phi1
  split <;> split <;> omega
theorem phi1_r (a : Nat) (ha : a ≤ 401) : phi1 a < 2 ^ 31 := by
  unfold phi1
  split <;> omega
theorem out_1 (N : Nat) (hN : 401 < N) {u ρ : ST} {n : Nat} {w : Nat → Nat} (h : MS phi1 n u ρ w) (hn : 0 < n) (hw : ∀ i, i < n → w i = 401 ∨ w i < 400) : ∃ p, p < n ∧ mU_X5_lastReadAgain N u (nI n) = some (nI p, u) ∧ mR_outOf N ρ (nI n) 1 = some (nI p, ρ) := by
  have hn64 := h.1
  have key : ∀ m i p : Nat, p < i → i ≤ n → n - i < m → ∃ p', p' < n ∧ zIt (mU_X5_lastReadAgain_B4 N) (fun _ _ _ _ => none) m u (nI n) (nI p) (nI i) = some (nI p', u) ∧ zIt (mR_outOf_B5 N) (fun _ _ _ _ _ => none) m ρ (nI n) 1 (nI p) (nI i) = some (nI p', ρ) := by
    intro m
    induction m with
    | zero => intro i p _ _ _; omega
    | succ m ih =>
      intro i p hp hi hm
      by_cases g : i = n
      · subst g
        rw [zIt_s, zIt_s, mU_X5_lastReadAgain_B4, mR_outOf_B5, if_pos (nI_le (by omega) (by omega)), if_pos (nI_le (by omega) (by omega)), mU_X5_lastReadAgain_68]
        exact ⟨p, hp, rfl, rfl⟩
      · obtain ⟨a1, a2, a3, a4⟩ := h.2.1 i (by omega)
        obtain ⟨b1, b2, b3, b4⟩ := h.2.1 p (by omega)
        have wi := hw i (by omega)
        have wp := hw p (by omega)
        have f1 := phi1_r _ a4
        have f2 := phi1_r _ b4
        have pl := phi1_lt wp wi
        have pe := phi1_eq wi wp
        have sc : ∀ hd, mU_X5_lastReadAgain_B4 N hd u (nI n) (nI p) (nI i) = hd u (nI n) (nI (if w p < w i ∨ (w i = w p ∧ ¬ ρ 19 p ≤ ρ 19 i) then i else p)) (nI (i + 1)) := fun hd => by
          rw [mU_X5_lastReadAgain_B4, if_neg (nI_ge (by omega) (by omega)), if_neg (show ¬ (64 : Int32) ≤ nI i from nI_ge (a := i) (b := 64) (by omega) (by omega)), zGet_nI (by omega) (by omega), zGet_nI (by omega) (by omega), a2, b2]
          by_cases c : w p < w i
          · rw [if_pos (show nI (phi1 (w p)) < nI (phi1 (w i)) from nI_lt (pl.mpr c) f1), mU_X5_lastReadAgain_60, mU_X5_lastReadAgain_62, zLet_eq, nI_1, if_pos (Or.inl c)]
          · have nl : ¬ phi1 (w p) < phi1 (w i) := fun z => c (pl.mp z)
            rw [if_neg (show ¬ nI (phi1 (w p)) < nI (phi1 (w i)) by rw [i_lt, nI_toInt f1, nI_toInt f2]; omega), zGet_nI (by omega) (by omega), zGet_nI (by omega) (by omega), a2, b2]
            by_cases c2 : w i = w p
            · rw [if_pos (show nI (phi1 (w i)) = nI (phi1 (w p)) by rw [c2]), zGet_nI (by omega) (by omega), zGet_nI (by omega) (by omega), a1, b1]
              by_cases c3 : ρ 19 p ≤ ρ 19 i
              · rw [if_pos c3, mU_X5_lastReadAgain_62, zLet_eq, nI_1, if_neg (fun z => z.elim c (fun z => z.2 c3))]
              · rw [if_neg c3, mU_X5_lastReadAgain_60, mU_X5_lastReadAgain_62, zLet_eq, nI_1, if_pos (Or.inr ⟨c2, c3⟩)]
            · rw [if_neg (show ¬ nI (phi1 (w i)) = nI (phi1 (w p)) from fun z => c2 (pe.mp (nI_inj f1 f2 z))), mU_X5_lastReadAgain_62, zLet_eq, nI_1, if_neg (fun z => z.elim c (fun z => c2 z.1))]
        have sr : ∀ hd, mR_outOf_B5 N hd ρ (nI n) 1 (nI p) (nI i) = hd ρ (nI n) 1 (nI (if w p < w i ∨ (w i = w p ∧ ¬ ρ 19 p ≤ ρ 19 i) then i else p)) (nI (i + 1)) := fun hd => by
          rw [mR_outOf_B5, if_neg (nI_ge (by omega) (by omega)), if_neg n10, zGet_nI (by omega) (by omega), zGet_nI (by omega) (by omega), a3, b3]
          by_cases c : w p < w i
          · rw [if_neg (nI_ge (by omega) (by omega)), mR_outOf_60, if_neg n10, mR_outOf_99, mR_outOf_105, zLet_eq, nI_1, if_pos (Or.inl c)]
          · rw [if_pos (nI_le (by omega) (by omega)), mR_outOf_60, if_pos rfl, zGet_nI (by omega) (by omega), zGet_nI (by omega) (by omega), a3, b3]
            by_cases c2 : w i = w p
            · rw [if_pos (show nI (w i) = nI (w p) by rw [c2]), zGet_nI (by omega) (by omega), zGet_nI (by omega) (by omega)]
              by_cases c3 : ρ 19 p ≤ ρ 19 i
              · rw [if_pos c3, mR_outOf_104, mR_outOf_105, zLet_eq, nI_1, if_neg (fun z => z.elim c (fun z => z.2 c3))]
              · rw [if_neg c3, mR_outOf_99, mR_outOf_105, zLet_eq, nI_1, if_pos (Or.inr ⟨c2, c3⟩)]
            · rw [if_neg (show ¬ nI (w i) = nI (w p) from fun z => c2 (nI_inj (by omega) (by omega) z)), mR_outOf_104, mR_outOf_105, zLet_eq, nI_1, if_neg (fun z => z.elim c (fun z => c2 z.1))]
        rw [zIt_s, zIt_s, sc, sr]
        refine ih (i + 1) _ ?_ (by omega) (by omega)
        split <;> omega
  exact key N 1 0 (by omega) (by omega) (by omega)
