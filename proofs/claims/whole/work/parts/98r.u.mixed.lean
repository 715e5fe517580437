/-! mixed: changes of stream -/
def qu_ch (H : ST) (j : Nat) : Bool := decide (0 < j) && decide (¬ H 20 j = H 20 (j - 1))
theorem u_changes (N : Nat) (hN : 401 < N) {u H : ST} (h : RU u H) {l : Nat} (hl : l ≤ 400) (e : H 18 4 = nI l) : mU_X5_changesOfStream N u = some (nI (qcnt (qu_ch H) l), u) := by
  have e4 := u_len h hl e
  have z1 : qcnt (qu_ch H) 1 = 0 := by
    rw [qcnt_s, if_neg (show ¬ qu_ch H 0 = true from Bool.false_ne_true)]
    rfl
  by_cases lz : l = 0
  · subst lz
    obtain ⟨g, rfl⟩ : ∃ g, N = g + 1 := ⟨N - 1, by omega⟩
    rw [mU_X5_changesOfStream, mU_X5_changesOfStream_4, zIt_s, mU_X5_changesOfStream_B4, zLet_eq, e4, if_pos (by decide)]
    rfl
  have key : ∀ m j : Nat, 0 < j → j ≤ l → l - j < m → zIt (mU_X5_changesOfStream_B4 N) (fun _ _ _ => none) m u (nI (qcnt (qu_ch H) j)) (nI j) = some (nI (qcnt (qu_ch H) l), u) := by
    intro m
    induction m with
    | zero => intro j _ _ _; omega
    | succ m ih =>
      intro j hj0 hj hm
      rw [zIt_s, mU_X5_changesOfStream_B4, zLet_eq, e4]
      by_cases ej : j = l
      · subst ej
        rw [if_pos (nI_le (by omega) (by omega))]
      · have ihj := ih (j + 1) (by omega) (by omega) (by omega)
        have e1 : nI j - 1 = nI (j - 1) := by rw [show (1 : Int32) = nI 1 from rfl, pk_sub (by omega)]
        rw [qcnt_s] at ihj
        rw [if_neg (nI_ge (by omega) (by omega)), u_numberAt N h (u_lt hl e (by omega)) (by omega), zCall_some, zLet_eq, e1, u_numberAt N h (u_lt hl e (by omega)) (by omega), zCall_some]
        by_cases c : H 20 j = H 20 (j - 1)
        · rw [if_neg (show ¬ qu_ch H j = true by unfold qu_ch; simp [c])] at ihj
          rw [if_pos c, mU_X5_changesOfStream_39, zLet_eq, nI_1]
          exact ihj
        · rw [if_pos (show qu_ch H j = true by unfold qu_ch; simp [c, hj0])] at ihj
          rw [if_neg c, zLet_eq, mU_X5_changesOfStream_39, zLet_eq, nI_1, nI_1]
          exact ihj
  have := key N 1 (by omega) (by omega) (by omega)
  rw [z1] at this
  exact this
