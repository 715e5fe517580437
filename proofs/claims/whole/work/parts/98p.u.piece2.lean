/-! piece: the class -/
theorem u_len {u H : ST} (h : RU u H) {l : Nat} (hl : l ≤ 400) (e : H 18 4 = nI l) : u 5 4 = nI l := by
  obtain ⟨el, l', h1, h2, e1, e2, e3, h3⟩ := h
  rw [e2, ← e3, e]
theorem u_lt {H : ST} {l j : Nat} (hl : l ≤ 400) (e : H 18 4 = nI l) (hj : j < l) : nI j < H 18 4 := by
  rw [e, i_lt, nI_toInt (by omega), nI_toInt (by omega)]
  omega
theorem u_pieces (N : Nat) (hN : 401 < N) {u H : ST} (h : RU u H) {l : Nat} (hl : l ≤ 400) (e : H 18 4 = nI l) : mU_X5_pieces N u = some (nI (qcnt (qu_st H) l), u) := by
  have e4 := u_len h hl e
  have key : ∀ m j : Nat, j ≤ l → l - j < m → zIt (mU_X5_pieces_B4 N) (fun _ _ _ => none) m u (nI (qcnt (qu_st H) j)) (nI j) = some (nI (qcnt (qu_st H) l), u) := by
    intro m
    induction m with
    | zero => intro j _ _; omega
    | succ m ih =>
      intro j hj hm
      rw [zIt_s, mU_X5_pieces_B4, zLet_eq, e4]
      by_cases ej : j = l
      · subst ej
        rw [if_pos (nI_le (by omega) (by omega))]
      · have ihj := ih (j + 1) (by omega) (by omega)
        rw [qcnt_s] at ihj
        rw [if_neg (nI_ge (by omega) (by omega)), u_starts N h (u_lt hl e (by omega)) (by omega), zCall_some]
        by_cases st : qu_st H j = true
        · rw [if_pos st] at ihj ⊢
          rw [if_neg n10, zLet_eq, mU_X5_pieces_26, zLet_eq, nI_1, nI_1]
          exact ihj
        · rw [if_neg st] at ihj ⊢
          rw [if_pos rfl, mU_X5_pieces_26, zLet_eq, nI_1]
          exact ihj
  exact key N 0 (by omega) (by omega)
theorem qu_lr_le (H : ST) : ∀ j, (qu_lr H j).1 ≤ j ∧ (qu_lr H j).2 ≤ j := by
  intro j
  induction j with
  | zero => exact ⟨Nat.le_refl _, Nat.le_refl _⟩
  | succ j ih =>
    rw [qu_lr]
    by_cases st : qu_st H j = true
    · rw [if_pos st]
      dsimp only
      omega
    · rw [if_neg st]
      dsimp only
      omega
theorem u_longest (N : Nat) (hN : 401 < N) {u H : ST} (h : RU u H) {l : Nat} (hl : l ≤ 400) (e : H 18 4 = nI l) : mU_X5_longestPiece N u = some (nI (qu_lr H l).1, u) := by
  have e4 := u_len h hl e
  have mx : ∀ a b : Nat, a ≤ 1000 → b ≤ 1000 → (if nI a < nI b then nI b else nI a) = nI (max a b) := fun a b ha hb => by
    by_cases g : a < b
    · rw [if_pos (show nI a < nI b by rw [i_lt, nI_toInt (by omega), nI_toInt (by omega)]; omega), Nat.max_eq_right (by omega)]
    · rw [if_neg (show ¬ nI a < nI b by rw [i_lt, nI_toInt (by omega), nI_toInt (by omega)]; omega), Nat.max_eq_left (by omega)]
  have key : ∀ m j : Nat, j ≤ l → l - j < m → zIt (mU_X5_longestPiece_B6 N) (fun _ _ _ _ => none) m u (nI (qu_lr H j).1) (nI (qu_lr H j).2) (nI j) = some (nI (qu_lr H l).1, u) := by
    intro m
    induction m with
    | zero => intro j _ _; omega
    | succ m ih =>
      intro j hj hm
      rw [zIt_s, mU_X5_longestPiece_B6, zLet_eq, e4]
      by_cases ej : j = l
      · subst ej
        rw [if_pos (nI_le (by omega) (by omega))]
      · have ihj := ih (j + 1) (by omega) (by omega)
        have hle := qu_lr_le H j
        rw [qu_lr] at ihj
        rw [if_neg (nI_ge (by omega) (by omega)), u_starts N h (u_lt hl e (by omega)) (by omega), zCall_some]
        by_cases st : qu_st H j = true
        · rw [if_pos st] at ihj ⊢
          dsimp only at ihj
          rw [if_neg n10, mU_X5_longestPiece_32, zLet_eq, zLet_eq, nI_1, show (1 : Int32) = nI 1 from rfl, mx _ _ (by omega) (by omega)]
          exact ihj
        · rw [if_neg st] at ihj ⊢
          dsimp only at ihj
          rw [if_pos rfl, zLet_eq, nI_1, mU_X5_longestPiece_32, zLet_eq, zLet_eq, nI_1, mx _ _ (by omega) (by omega)]
          exact ihj
  exact key N 0 (by omega) (by omega)
theorem u_start (N : Nat) (hN : 401 < N) {u H : ST} (h : RU u H) {l : Nat} (hl : l ≤ 400) (e : H 18 4 = nI l) (x1 : Int32) {s : Nat} (hs : s ≤ l) (q3 : ∀ j, j < s → qu_st H j = true → ¬ x1 = nI (qcnt (qu_st H) j)) (q : s < l → qu_st H s = true ∧ x1 = nI (qcnt (qu_st H) s)) : mU_X5_pieceStart N u x1 = some (if s < l then nI s else -1, u) := by
  have e4 := u_len h hl e
  have key : ∀ m j : Nat, j ≤ s → l - j < m → zIt (mU_X5_pieceStart_B4 N) (fun _ _ _ _ => none) m u x1 (nI (qcnt (qu_st H) j)) (nI j) = some (if s < l then nI s else -1, u) := by
    intro m
    induction m with
    | zero => intro j _ _; omega
    | succ m ih =>
      intro j hj hm
      rw [zIt_s, mU_X5_pieceStart_B4, zLet_eq, e4]
      by_cases ej : j = l
      · subst ej
        rw [if_pos (nI_le (by omega) (by omega)), if_neg (by omega)]
      · rw [if_neg (nI_ge (by omega) (by omega)), u_starts N h (u_lt hl e (by omega)) (by omega), zCall_some]
        by_cases es : j = s
        · subst es
          obtain ⟨a1, a2⟩ := q (by omega)
          rw [if_pos a1, if_neg n10, if_pos a2.symm, if_pos (by omega)]
        · have ihj := ih (j + 1) (by omega) (by omega)
          rw [qcnt_s] at ihj
          by_cases st : qu_st H j = true
          · rw [if_pos st] at ihj ⊢
            rw [if_neg n10, if_neg (fun w => q3 j (by omega) st w.symm), zLet_eq, mU_X5_pieceStart_33, zLet_eq, nI_1, nI_1]
            exact ihj
          · rw [if_neg st] at ihj ⊢
            rw [if_pos rfl, mU_X5_pieceStart_33, zLet_eq, nI_1]
            exact ihj
  exact key N 0 (by omega) (by omega)
theorem u_plen (N : Nat) (hN : 401 < N) {u H : ST} (h : RU u H) {l : Nat} (hl : l ≤ 400) (e : H 18 4 = nI l) {s i : Nat} (hs : s < i) (hi : i ≤ l) (q2 : ∀ j, s < j → j < i → qu_st H j = false) (q : i = l ∨ qu_st H i = true) : mU_X5_pieceLength N u (nI s) = some (nI (i - s), u) := by
  have e4 := u_len h hl e
  have key : ∀ m j : Nat, s < j → j ≤ i → l - j < m → zIt (mU_X5_pieceLength_B4 N) (fun _ _ _ => none) m u (nI s) (nI j) = some (nI (i - s), u) := by
    intro m
    induction m with
    | zero => intro j _ _ _; omega
    | succ m ih =>
      intro j hj0 hj hm
      rw [zIt_s, mU_X5_pieceLength_B4, zLet_eq, e4]
      by_cases ej : j = l
      · have : i = j := by omega
        subst this
        rw [if_pos (nI_le (by omega) (by omega)), mU_X5_pieceLength_29, zLet_eq, pk_sub (by omega)]
      · rw [if_neg (nI_ge (by omega) (by omega)), u_starts N h (u_lt hl e (by omega)) (by omega), zCall_some]
        by_cases es : j = i
        · subst es
          rw [if_pos (q.resolve_left ej), if_neg n10, mU_X5_pieceLength_29, zLet_eq, pk_sub (by omega)]
        · rw [if_neg (show ¬ qu_st H j = true by rw [q2 j hj0 (by omega)]; exact Bool.false_ne_true), if_pos rfl, zLet_eq, nI_1]
          exact ih (j + 1) (by omega) (by omega) (by omega)
  rw [mU_X5_pieceLength, zLet_eq, nI_1]
  exact key N (s + 1) (by omega) (by omega) (by omega)
