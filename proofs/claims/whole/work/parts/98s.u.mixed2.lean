/-! mixed: streams -/
def rd (f : Nat → Int32) (v : Int32) (a n : Nat) : Nat := qcnt (fun i => decide (a ≤ i) && decide (f i = v)) n
theorem rd_s (f : Nat → Int32) (v : Int32) (a n : Nat) : rd f v a (n + 1) = rd f v a n + (if a ≤ n ∧ f n = v then 1 else 0) := by
  unfold rd
  rw [qcnt_s]
  by_cases c : a ≤ n ∧ f n = v
  · rw [if_pos c, if_pos (by simp [c])]
  · rw [if_neg c, if_neg (fun w => c (by simpa using w))]
theorem rd_le (f : Nat → Int32) (v : Int32) (a n : Nat) : rd f v a n ≤ n := qcnt_le _ _
theorem rd_0 (f : Nat → Int32) (v : Int32) (a : Nat) : ∀ n, n ≤ a → rd f v a n = 0 := by
  intro n hn
  exact qcnt_zero (fun i hi => by simp; omega)
theorem rd_mono (f : Nat → Int32) (v : Int32) (a : Nat) {m n : Nat} (h : m ≤ n) : rd f v a m ≤ rd f v a n := by
  induction n with
  | zero => rw [show m = 0 by omega]; exact Nat.le_refl _
  | succ n ih =>
    by_cases e : m = n + 1
    · rw [e]; exact Nat.le_refl _
    · rw [rd_s]
      have := ih (by omega)
      omega
theorem rd_z {f : Nat → Int32} {v : Int32} {a n : Nat} : rd f v a n = 0 ↔ ∀ i, a ≤ i → i < n → ¬ f i = v := by
  induction n with
  | zero => exact ⟨fun _ i _ hi => by omega, fun _ => rfl⟩
  | succ n ih =>
    rw [rd_s]
    constructor
    · intro h i h1 h2 h3
      by_cases e : i = n
      · subst e
        rw [if_pos ⟨h1, h3⟩] at h
        omega
      · exact ih.mp (by omega) i h1 (by omega) h3
    · intro h
      rw [ih.mpr (fun i h1 h2 => h i h1 (by omega)), if_neg (fun w => h n w.1 (by omega) w.2)]
theorem rd_a {f : Nat → Int32} {v : Int32} {a b n : Nat} (hab : a ≤ b) (h : ∀ i, a ≤ i → i < b → ¬ f i = v) : rd f v a n = rd f v b n := by
  unfold rd
  apply qcnt_congr
  intro i _
  by_cases c : b ≤ i
  · have : a ≤ i := by omega
    simp [c, this]
  · by_cases c2 : a ≤ i
    · have := h i c2 (by omega)
      simp [c, c2, this]
    · simp [c, c2]
theorem rd_sub {f : Nat → Int32} {v : Int32} {a b n : Nat} (hab : a ≤ b) : rd f v b n ≤ rd f v a n := by
  unfold rd
  apply qcnt_mono
  intro i _ h
  simp at h ⊢
  exact ⟨by omega, h.2⟩
/-- the largest -/
def qmax (g : Nat → Nat) : Nat → Nat
  | 0 => 0
  | n + 1 => max (qmax g n) (g n)
theorem qmax_le {g : Nat → Nat} {n M : Nat} : qmax g n ≤ M ↔ ∀ i, i < n → g i ≤ M := by
  induction n with
  | zero => exact ⟨fun _ i hi => by omega, fun _ => Nat.zero_le _⟩
  | succ n ih =>
    rw [qmax, Nat.max_le, ih]
    constructor
    · intro h i hi
      by_cases e : i = n
      · rw [e]; exact h.2
      · exact h.1 i (by omega)
    · intro h
      exact ⟨fun i hi => h i (by omega), h n (by omega)⟩
theorem first_of {f : Nat → Int32} {v : Int32} : ∀ {n : Nat}, (∃ i, i < n ∧ f i = v) → ∃ i, i < n ∧ f i = v ∧ ∀ j, j < i → ¬ f j = v := by
  intro n
  induction n with
  | zero => rintro ⟨i, hi, _⟩; omega
  | succ n ih =>
    rintro ⟨i, hi, e⟩
    by_cases h : ∃ i, i < n ∧ f i = v
    · obtain ⟨j, j1, j2, j3⟩ := ih h
      exact ⟨j, by omega, j2, j3⟩
    · have : i = n := by
        by_cases g : i < n
        · exact absurd ⟨i, g, e⟩ h
        · omega
      subst this
      exact ⟨i, by omega, e, fun j hj w => h ⟨j, hj, w⟩⟩
theorem last_of {f : Nat → Int32} {v : Int32} : ∀ {n : Nat}, (∃ i, i < n ∧ f i = v) → ∃ i, i < n ∧ f i = v ∧ ∀ j, i < j → j < n → ¬ f j = v := by
  intro n
  induction n with
  | zero => rintro ⟨i, hi, _⟩; omega
  | succ n ih =>
    rintro ⟨i, hi, e⟩
    by_cases h : f n = v
    · exact ⟨n, by omega, h, fun j _ _ => by omega⟩
    · obtain ⟨j, j1, j2, j3⟩ := ih ⟨i, by
        by_cases g : i = n
        · subst g; exact absurd e h
        · omega, e⟩
      refine ⟨j, by omega, j2, fun k k1 k2 => ?_⟩
      by_cases g : k = n
      · rw [g]; exact h
      · exact j3 k k1 (by omega)
theorem most_eq (f : Nat → Int32) (l : Nat) : qmax (fun j => rd f (f j) j l) l = qmax (fun j => rd f (f j) 0 l) l := by
  apply Nat.le_antisymm
  · rw [qmax_le]
    intro i hi
    have := qmax_le.mp (Nat.le_refl (qmax (fun j => rd f (f j) 0 l) l)) i hi
    have h2 := rd_sub (f := f) (v := f i) (n := l) (Nat.zero_le i)
    omega
  · rw [qmax_le]
    intro i hi
    obtain ⟨j, j1, j2, j3⟩ := first_of (f := f) (v := f i) ⟨i, hi, rfl⟩
    have := qmax_le.mp (Nat.le_refl (qmax (fun j => rd f (f j) j l) l)) j j1
    rw [j2] at this
    rw [rd_a (Nat.zero_le j) (fun k _ hk => j3 k hk)]
    exact this
theorem firsts_eq (f : Nat → Int32) (l : Nat) : qcnt (fun j => decide (rd f (f j) (j + 1) l = 0)) l = qcnt (fun j => decide (rd f (f j) 0 j = 0)) l := by
  induction l with
  | zero => rfl
  | succ l ih =>
    rw [qcnt_s, qcnt_s, ← ih]
    have hl : decide (rd f (f l) (l + 1) (l + 1) = 0) = true := decide_eq_true (rd_0 _ _ _ _ (Nat.le_refl _))
    rw [if_pos hl]
    have st : ∀ j, j < l → (rd f (f j) (j + 1) (l + 1) = 0 ↔ rd f (f j) (j + 1) l = 0 ∧ ¬ f j = f l) := fun j hj => by
      rw [rd_s]
      by_cases c : f l = f j
      · rw [if_pos ⟨by omega, c⟩]
        exact ⟨fun w => by omega, fun w => absurd c.symm w.2⟩
      · rw [if_neg (fun w => c w.2)]
        exact ⟨fun w => ⟨w, fun z => c z.symm⟩, fun w => w.1⟩
    by_cases c : ∃ i, i < l ∧ f i = f l
    · obtain ⟨i, i1, i2, i3⟩ := last_of c
      have hr : ¬ rd f (f l) 0 l = 0 := fun w => rd_z.mp w i (Nat.zero_le _) i1 i2
      rw [if_neg (by simpa using hr)]
      have hi : decide (rd f (f i) (i + 1) l = 0) = true := decide_eq_true (rd_z.mpr (fun k k1 k2 => by rw [i2]; exact i3 k (by omega) k2))
      rw [qcnt_rem (P := fun j => decide (rd f (f j) (j + 1) l = 0)) i1 hi]
      refine congrArg (· + 1) (qcnt_congr ?_)
      intro j hj
      by_cases e : j = i
      · subst e
        have : ¬ rd f (f j) (j + 1) (l + 1) = 0 := fun w => ((st j hj).mp w).2 i2
        simp [this]
      · by_cases g : rd f (f j) (j + 1) l = 0
        · have h2 : ¬ f j = f l := fun w => by
            by_cases o : j < i
            · exact rd_z.mp g i (by omega) i1 (by rw [i2, w])
            · exact i3 j (by omega) hj w
          have : rd f (f j) (j + 1) (l + 1) = 0 := (st j hj).mpr ⟨g, h2⟩
          simp [this, g, e]
        · have : ¬ rd f (f j) (j + 1) (l + 1) = 0 := fun w => g ((st j hj).mp w).1
          simp [this, g]
    · have hr : rd f (f l) 0 l = 0 := rd_z.mpr (fun i _ h w => c ⟨i, h, w⟩)
      rw [if_pos (decide_eq_true hr)]
      refine congrArg (· + 1) (qcnt_congr ?_)
      intro j hj
      by_cases g : rd f (f j) (j + 1) l = 0
      · have : rd f (f j) (j + 1) (l + 1) = 0 := (st j hj).mpr ⟨g, fun w => c ⟨j, hj, w⟩⟩
        simp [this, g]
      · have : ¬ rd f (f j) (j + 1) (l + 1) = 0 := fun w => g ((st j hj).mp w).1
        simp [this, g]
theorem u_readsOf (N : Nat) (hN : 401 < N) {u H : ST} (h : RU u H) {l : Nat} (hl : l ≤ 400) (e : H 18 4 = nI l) (v : Int32) {a : Nat} (ha : a ≤ l) : mU_X5_readsOfStream N u v (nI a) = some (nI (rd (H 20) v a l), u) := by
  have e4 := u_len h hl e
  have key : ∀ m j : Nat, a ≤ j → j ≤ l → l - j < m → zIt (mU_X5_readsOfStream_B5 N) (fun _ _ _ _ _ => none) m u v (nI a) (nI (rd (H 20) v a j)) (nI j) = some (nI (rd (H 20) v a l), u) := by
    intro m
    induction m with
    | zero => intro j _ _ _; omega
    | succ m ih =>
      intro j hj0 hj hm
      rw [zIt_s, mU_X5_readsOfStream_B5, zLet_eq, e4]
      by_cases ej : j = l
      · subst ej
        rw [if_pos (nI_le (by omega) (by omega))]
      · have ihj := ih (j + 1) (by omega) (by omega) (by omega)
        rw [rd_s] at ihj
        rw [if_neg (nI_ge (by omega) (by omega)), u_numberAt N h (u_lt hl e (by omega)) (by omega), zCall_some]
        by_cases c : H 20 j = v
        · rw [if_pos ⟨hj0, c⟩] at ihj
          rw [if_pos c, zLet_eq, mU_X5_readsOfStream_33, zLet_eq, nI_1, nI_1]
          exact ihj
        · rw [if_neg (fun w => c w.2)] at ihj
          rw [if_neg c, mU_X5_readsOfStream_33, zLet_eq, nI_1]
          exact ihj
  have := key N a (by omega) ha (by omega)
  rw [rd_0 _ _ _ _ (Nat.le_refl a)] at this
  exact this
theorem u_streams (N : Nat) (hN : 401 < N) {u H : ST} (h : RU u H) {l : Nat} (hl : l ≤ 400) (e : H 18 4 = nI l) : mU_X5_streamsRead N u = some (nI (qcnt (fun j => decide (rd (H 20) (H 20 j) (j + 1) l = 0)) l), u) := by
  have e4 := u_len h hl e
  have key : ∀ m j : Nat, j ≤ l → l - j < m → zIt (mU_X5_streamsRead_B4 N) (fun _ _ _ => none) m u (nI (qcnt (fun j => decide (rd (H 20) (H 20 j) (j + 1) l = 0)) j)) (nI j) = some (nI (qcnt (fun j => decide (rd (H 20) (H 20 j) (j + 1) l = 0)) l), u) := by
    intro m
    induction m with
    | zero => intro j _ _; omega
    | succ m ih =>
      intro j hj hm
      rw [zIt_s, mU_X5_streamsRead_B4, zLet_eq, e4]
      by_cases ej : j = l
      · subst ej
        rw [if_pos (nI_le (by omega) (by omega))]
      · have ihj := ih (j + 1) (by omega) (by omega)
        rw [qcnt_s] at ihj
        have hle := rd_le (H 20) (H 20 j) (j + 1) l
        rw [if_neg (nI_ge (by omega) (by omega)), u_numberAt N h (u_lt hl e (by omega)) (by omega), zCall_some, zLet_eq, nI_1, u_readsOf N hN h hl e _ (by omega), zCall_some]
        by_cases c : rd (H 20) (H 20 j) (j + 1) l = 0
        · rw [if_pos (decide_eq_true c)] at ihj
          rw [if_pos (show nI (rd (H 20) (H 20 j) (j + 1) l) = 0 by rw [c]; rfl), zLet_eq, mU_X5_streamsRead_36, zLet_eq, nI_1, nI_1]
          exact ihj
        · rw [if_neg (by simpa using c)] at ihj
          rw [if_neg (show ¬ nI (rd (H 20) (H 20 j) (j + 1) l) = 0 from fun w => c (nI_inj (b := 0) (by omega) (by omega) w)), mU_X5_streamsRead_36, zLet_eq, nI_1]
          exact ihj
  exact key N 0 (by omega) (by omega)
theorem mx_nI {a b : Nat} (ha : a ≤ 100000) (hb : b ≤ 100000) : (if nI a < nI b then nI b else nI a) = nI (max a b) := by
  by_cases g : a < b
  · rw [if_pos (show nI a < nI b by rw [i_lt, nI_toInt (by omega), nI_toInt (by omega)]; omega), Nat.max_eq_right (by omega)]
  · rw [if_neg (show ¬ nI a < nI b by rw [i_lt, nI_toInt (by omega), nI_toInt (by omega)]; omega), Nat.max_eq_left (by omega)]
theorem u_most (N : Nat) (hN : 401 < N) {u H : ST} (h : RU u H) {l : Nat} (hl : l ≤ 400) (e : H 18 4 = nI l) : mU_X5_mostOfOneStream N u = some (nI (qmax (fun j => rd (H 20) (H 20 j) j l) l), u) := by
  have e4 := u_len h hl e
  have key : ∀ m j : Nat, j ≤ l → l - j < m → zIt (mU_X5_mostOfOneStream_B4 N) (fun _ _ _ => none) m u (nI (qmax (fun j => rd (H 20) (H 20 j) j l) j)) (nI j) = some (nI (qmax (fun j => rd (H 20) (H 20 j) j l) l), u) := by
    intro m
    induction m with
    | zero => intro j _ _; omega
    | succ m ih =>
      intro j hj hm
      rw [zIt_s, mU_X5_mostOfOneStream_B4, zLet_eq, e4]
      by_cases ej : j = l
      · subst ej
        rw [if_pos (nI_le (by omega) (by omega))]
      · have ihj := ih (j + 1) (by omega) (by omega)
        rw [qmax] at ihj
        have hle := rd_le (H 20) (H 20 j) j l
        have hq : qmax (fun j => rd (H 20) (H 20 j) j l) j ≤ l := qmax_le.mpr (fun i _ => rd_le _ _ _ _)
        rw [if_neg (nI_ge (by omega) (by omega)), u_numberAt N h (u_lt hl e (by omega)) (by omega), zCall_some, u_readsOf N hN h hl e _ (by omega), zCall_some, zLet_eq, zLet_eq, nI_1, mx_nI (by omega) (by omega)]
        exact ihj
  exact key N 0 (by omega) (by omega)
theorem r_mixed_in (N : Nat) {ρ H : ST} {l : Nat} (hl : l ≤ 400) (e22 : ρ 1 22 = nI l) (h3 : ∀ i, i < l → ρ 1 (774 + 3 * i) = H 19 i ∧ ρ 1 (775 + 3 * i) = H 20 i ∧ ρ 1 (776 + 3 * i) = H 21 i) (hd : ST → Int32 → Int32 → Int32 → Int32 → Int32 → Option (Int32 × ST)) (x1 x2 : Int32) {j s w : Nat} (hj : j < l) (hw : w ≤ 400) :
    ∀ m i : Nat, i ≤ l → l - i < m → zIt (mR_mixed_B80 N hd) (fun _ _ _ _ _ _ _ _ _ => none) m ρ x1 x2 (nI s) (nI w) (nI j) (nI (rd (H 20) (H 20 j) 0 i)) (if rd (H 20) (H 20 j) 0 (min i j) = 0 then 1 else 0) (nI i) = hd ρ x1 x2 (nI (s + (if rd (H 20) (H 20 j) 0 j = 0 then 1 else 0))) (nI (max w (rd (H 20) (H 20 j) 0 l))) (nI (j + 1)) := by
  intro m
  induction m with
  | zero => intro i _ _; omega
  | succ m ih =>
    intro i hi hm
    have nx := ih (i + 1)
    rw [zIt_s]
    generalize zIt (mR_mixed_B80 N hd) (fun _ _ _ _ _ _ _ _ _ => none) m = hd2 at *
    rw [mR_mixed_B80, zGet_at (i := 22) 22 rfl (by decide) (by decide), e22]
    by_cases ei : i = l
    · subst ei
      have hle := rd_le (H 20) (H 20 j) 0 i
      rw [if_pos (nI_le (by omega) (by omega)), Nat.min_eq_right (by omega)]
      have em : ∀ y : Int32, mR_mixed_184 N hd ρ x1 x2 y (nI w) (nI j) (nI (rd (H 20) (H 20 j) 0 i)) y (nI i) (nI w) = hd ρ x1 x2 y (nI w) (nI (j + 1)) := fun y => by rw [mR_mixed_184, zLet_eq, nI_1]
      have fin : ∀ (y z : Int32), mR_mixed_168 N hd ρ x1 x2 (nI s) (nI w) (nI j) (nI (rd (H 20) (H 20 j) 0 i)) y (nI i) (nI s) z = hd ρ x1 x2 (nI s + z) (nI (max w (rd (H 20) (H 20 j) 0 i))) (nI (j + 1)) := fun y z => by
        rw [mR_mixed_168, zLet_eq, mR_mixed_184, mR_mixed_184, zLet_eq, zLet_eq, nI_1]
        by_cases g : rd (H 20) (H 20 j) 0 i ≤ w
        · rw [if_pos (show nI (rd (H 20) (H 20 j) 0 i) ≤ nI w from nI_le g (by omega)), Nat.max_eq_left g]
        · rw [if_neg (show ¬ nI (rd (H 20) (H 20 j) 0 i) ≤ nI w from nI_ge (by omega) (by omega)), Nat.max_eq_right (by omega)]
      rw [fin, fin]
      by_cases c : rd (H 20) (H 20 j) 0 j = 0
      · rw [if_pos c, if_neg n10, if_pos c, nI_1]
      · rw [if_neg c, if_pos rfl, if_neg c]
        congr 1
        exact Int32.add_zero _
    · have nx := nx (by omega) (by omega)
      rw [if_neg (nI_ge (by omega) (by omega)), r_numberAt N hl h3 (by omega), zCall_some, r_numberAt N hl h3 hj, zCall_some]
      have body : ∀ (y : Int32), nI (rd (H 20) (H 20 j) 0 i) + y = nI (rd (H 20) (H 20 j) 0 (i + 1)) → mR_mixed_114 N hd hd2 ρ x1 x2 (nI s) (nI w) (nI j) (nI (rd (H 20) (H 20 j) 0 i)) (if rd (H 20) (H 20 j) 0 (min i j) = 0 then 1 else 0) (nI i) (nI (rd (H 20) (H 20 j) 0 i)) y = hd ρ x1 x2 (nI (s + (if rd (H 20) (H 20 j) 0 j = 0 then 1 else 0))) (nI (max w (rd (H 20) (H 20 j) 0 l))) (nI (j + 1)) := by
        intro y ey
        rw [mR_mixed_114, zLet_eq, ey]
        by_cases c : rd (H 20) (H 20 j) 0 (min i j) = 0
        · rw [if_pos c, if_neg n10]
          by_cases g : j ≤ i
          · rw [Nat.min_eq_right (by omega)] at nx c
            rw [if_pos (nI_le g (by omega)), mR_mixed_144, mR_mixed_149, zLet_eq, nI_1]
            rw [if_pos c] at nx
            exact nx
          · rw [Nat.min_eq_left (by omega)] at nx c
            rw [if_neg (nI_ge (by omega) (by omega)), r_numberAt N hl h3 (by omega), zCall_some, r_numberAt N hl h3 hj, zCall_some]
            by_cases q : H 20 i = H 20 j
            · rw [if_pos q, mR_mixed_148, mR_mixed_149, zLet_eq, nI_1]
              rw [if_neg (show ¬ rd (H 20) (H 20 j) 0 (i + 1) = 0 by rw [rd_s, if_pos ⟨Nat.zero_le _, q⟩]; omega)] at nx
              exact nx
            · rw [if_neg q, mR_mixed_144, mR_mixed_149, zLet_eq, nI_1]
              rw [if_pos (show rd (H 20) (H 20 j) 0 (i + 1) = 0 by rw [rd_s, if_neg (fun w => q w.2), c])] at nx
              exact nx
        · rw [if_neg c, if_pos rfl, mR_mixed_148, mR_mixed_149, zLet_eq, nI_1]
          have := rd_mono (H 20) (H 20 j) 0 (show min i j ≤ min (i + 1) j by omega)
          rw [if_neg (show ¬ rd (H 20) (H 20 j) 0 (min (i + 1) j) = 0 by omega)] at nx
          exact nx
      by_cases q : H 20 i = H 20 j
      · rw [if_pos q]
        exact body 1 (by rw [nI_1, rd_s, if_pos ⟨Nat.zero_le _, q⟩])
      · rw [if_neg q]
        exact body 0 (by rw [rd_s, if_neg (fun w => q w.2)]; exact Int32.add_zero _)
theorem r_mixed_loop (N : Nat) (hN : 401 < N) {ρ H : ST} {l : Nat} (hl : l ≤ 400) (e22 : ρ 1 22 = nI l) (h3 : ∀ i, i < l → ρ 1 (774 + 3 * i) = H 19 i ∧ ρ 1 (775 + 3 * i) = H 20 i ∧ ρ 1 (776 + 3 * i) = H 21 i) (x1 : Int32) :
    ∀ m j : Nat, j ≤ l → l - j < m → zIt (mR_mixed_B29 N) (fun _ _ _ _ _ _ => none) m ρ x1 (nI (qcnt (qu_ch H) j)) (nI (qcnt (fun j => decide (rd (H 20) (H 20 j) 0 j = 0)) j)) (nI (qmax (fun j => rd (H 20) (H 20 j) 0 l) j)) (nI j) = some (if x1 = 0 then nI (qcnt (qu_ch H) l) else if x1 = 1 then nI (qcnt (fun j => decide (rd (H 20) (H 20 j) 0 j = 0)) l) else nI (qmax (fun j => rd (H 20) (H 20 j) 0 l) l), ρ) := by
  intro m
  induction m with
  | zero => intro j _ _; omega
  | succ m ih =>
    intro j hj hm
    have nx := ih (j + 1)
    rw [zIt_s]
    generalize zIt (mR_mixed_B29 N) (fun _ _ _ _ _ _ => none) m = hd at *
    rw [mR_mixed_B29, zGet_at (i := 22) 22 rfl (by decide) (by decide), e22]
    by_cases ej : j = l
    · subst ej
      rw [if_pos (nI_le (by omega) (by omega)), mR_mixed_211, mR_mixed_211, mR_mixed_211]
      by_cases c : x1 = 0
      · rw [if_pos c, if_pos c]
      · rw [if_neg c, if_neg c]
        by_cases c : x1 = 1
        · rw [if_pos c, if_pos c]
        · rw [if_neg c, if_neg c]
    · have nx := nx (by omega) (by omega)
      have hq : qmax (fun j => rd (H 20) (H 20 j) 0 l) j ≤ l := qmax_le.mpr (fun i _ => rd_le _ _ _ _)
      have step : ∀ y : Int32, nI (qcnt (qu_ch H) j) + y = nI (qcnt (qu_ch H) (j + 1)) → mR_mixed_69 N hd ρ x1 (nI (qcnt (qu_ch H) j)) (nI (qcnt (fun j => decide (rd (H 20) (H 20 j) 0 j = 0)) j)) (nI (qmax (fun j => rd (H 20) (H 20 j) 0 l) j)) (nI j) (nI (qcnt (qu_ch H) j)) y = some (if x1 = 0 then nI (qcnt (qu_ch H) l) else if x1 = 1 then nI (qcnt (fun j => decide (rd (H 20) (H 20 j) 0 j = 0)) l) else nI (qmax (fun j => rd (H 20) (H 20 j) 0 l) l), ρ) := by
        intro y ey
        have hin := r_mixed_in N hl e22 h3 hd x1 (nI (qcnt (qu_ch H) (j + 1))) (j := j) (s := qcnt (fun j => decide (rd (H 20) (H 20 j) 0 j = 0)) j) (w := qmax (fun j => rd (H 20) (H 20 j) 0 l) j) (by omega) (by omega) N 0 (by omega) (by omega)
        rw [Nat.zero_min, rd_0 _ _ _ _ (Nat.le_refl 0), if_pos rfl] at hin
        rw [mR_mixed_69, zLet_eq, ey, mR_mixed_80]
        rw [show nI 0 = 0 from rfl] at hin
        rw [hin, ← nx]
        congr 2
        rw [qcnt_s]
        by_cases c : rd (H 20) (H 20 j) 0 j = 0
        · rw [if_pos c, if_pos (decide_eq_true c)]
        · rw [if_neg c, if_neg (by simpa using c)]
      by_cases j0 : j = 0
      · subst j0
        rw [if_neg (nI_ge (by omega) (by omega)), if_pos (by decide), mR_mixed_68]
        exact step 0 (by rw [qcnt_s, if_neg (show ¬ qu_ch H 0 = true from Bool.false_ne_true)]; exact Int32.add_zero _)
      · have e1 : nI j - 1 = nI (j - 1) := by rw [show (1 : Int32) = nI 1 from rfl, pk_sub (by omega)]
        rw [if_neg (nI_ge (by omega) (by omega)), if_neg (show ¬ nI j ≤ 0 from nI_ge (a := 0) (b := j) (by omega) (by omega)), r_numberAt N hl h3 (by omega), zCall_some, zLet_eq, e1, r_numberAt N hl h3 (by omega), zCall_some]
        by_cases c : H 20 j = H 20 (j - 1)
        · rw [if_pos c, mR_mixed_68]
          exact step 0 (by rw [qcnt_s, if_neg (show ¬ qu_ch H j = true by unfold qu_ch; simp [c])]; exact Int32.add_zero _)
        · rw [if_neg c]
          exact step 1 (by rw [qcnt_s, if_pos (show qu_ch H j = true by unfold qu_ch; simp [c]; omega), nI_1])
theorem s_mixed (N : Nat) (hN : 500 < N) (κ : Nat) : Sm_mixed N (II κ) (II (κ + 1)) := by
  intro τ ρ x1 hI
  obtain ⟨⟨A, C, H, n1, n2, n3⟩, hr⟩ := id hI
  have hth := RR_thr n2
  have hu := RU_of n1
  obtain ⟨l, l1, l2, l3⟩ := hth.2.2.2.2.1
  have e22 : zUp ρ 0 0 0 1 22 = nI l := by rw [hth.2.1.2.2.1, l2]
  have e0 : (0 : Int32).toInt = 0 := by decide
  have e1 : (1 : Int32).toInt = 1 := by decide
  have e2 : (2 : Int32).toInt = 2 := by decide
  have hin := r_in N (zUp ρ 0 0 0) x1 0 2 (m := 0) (n := 2) (by decide) (by decide)
  suffices hv : ∃ v, mT_X7_mixed N τ x1 = some (v, τ) ∧ mR_mixed N ρ x1 = some (v, zUp ρ 0 0 0) by
    obtain ⟨v, v1, v2⟩ := hv
    exact ⟨v, _, _, v1, v2, II_thr hI⟩
  rw [mT_X7_mixed, mR_mixed, zLet_eq, zLet_eq, hin, zCall_some, zqU (u_changes N (by omega) hu l1 l2), zqU (u_streams N (by omega) hu l1 l2), zqU (u_most N (by omega) hu l1 l2), most_eq, firsts_eq]
  have hlp := r_mixed_loop N (by omega) l1 e22 l3 x1 N 0 (by omega) (by omega)
  generalize zUp ρ 0 0 0 = ρ0 at *
  have hlp' : mR_mixed_29 N ρ0 x1 0 0 0 0 = _ := hlp
  rw [hlp']
  by_cases c0 : x1 = 0
  · rw [if_pos c0, if_pos c0, if_pos (show 0 ≤ x1.toInt ∧ x1.toInt ≤ 2 by rw [c0, e0]; omega), if_neg n10]
    exact ⟨_, rfl, rfl⟩
  · rw [if_neg c0, if_neg c0]
    by_cases c1 : x1 = 1
    · rw [if_pos c1, if_pos c1, if_pos (show 0 ≤ x1.toInt ∧ x1.toInt ≤ 2 by rw [c1, e1]; omega), if_neg n10]
      exact ⟨_, rfl, rfl⟩
    · rw [if_neg c1, if_neg c1]
      by_cases c2 : x1 = 2
      · rw [if_pos c2, if_pos (show 0 ≤ x1.toInt ∧ x1.toInt ≤ 2 by rw [c2, e2]; omega), if_neg n10]
        exact ⟨_, rfl, rfl⟩
      · have : ¬ (0 ≤ x1.toInt ∧ x1.toInt ≤ 2) := fun w => by
          have h0 : ¬ x1.toInt = 0 := fun z => c0 (i_eq.mpr (by rw [z, e0]))
          have h1 : ¬ x1.toInt = 1 := fun z => c1 (i_eq.mpr (by rw [z, e1]))
          have h2 : ¬ x1.toInt = 2 := fun z => c2 (i_eq.mpr (by rw [z, e2]))
          omega
        rw [if_neg c2, if_neg this, if_pos rfl]
        exact ⟨_, rfl, rfl⟩
