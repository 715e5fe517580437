/-! THE REFERENCE: where a block lies -/
def fPl (R : Nat → Int32) (b : Int32) : Nat → Nat → Int32
  | 0, _ => -1
  | m + 1, j => if R (30 + 8 * j) = b + 1 then nI (30 + 8 * j) else fPl R b m (j + 1)
theorem pR_place_loop (N : Nat) (ρ : ST) (b : Int32) (room : Nat) (hr : ρ 1 0 = nI room) (h64 : room ≤ 64) : ∀ (n j : Nat), j ≤ room → room - j < n → zIt (mR_place_B2 N) (fun _ _ _ => none) n ρ b (nI j) = some (fPl (ρ 1) b (room - j) j, ρ) := by
  intro n
  induction n with
  | zero => intro j h1 h2; omega
  | succ n ih =>
    intro j hj hn
    rw [zIt_s, mR_place_B2, zGet_at (i := 0) 0 rfl (by decide) (by decide), hr]
    by_cases h : j = room
    · subst h
      rw [if_pos (nI_le (Nat.le_refl _) (by omega)), Nat.sub_self]
      rfl
    · have hlt : j < room := by omega
      rw [if_neg (nI_ge hlt (by omega)), zCall_eq (pR_cacheAt N ρ j), zGet_nI (by omega) (by decide), zLet_eq]
      rw [show room - j = (room - (j + 1)) + 1 by omega, fPl]
      by_cases hb : ρ 1 (30 + 8 * j) = b + 1
      · rw [if_pos hb, if_pos hb, zCall_eq (pR_cacheAt N ρ j)]
      · rw [if_neg hb, if_neg hb, zLet_eq, nI_1, ih (j + 1) (by omega) (by omega)]
/-- place(b): the first place below ROOM that holds b, as a number; -1 if none does; nothing changes -/
theorem pR_place (N : Nat) (hN : 64 < N) (ρ : ST) (b : Int32) (room : Nat) (hr : ρ 1 0 = nI room) (h64 : room ≤ 64) : mR_place N ρ b = some (fPl (ρ 1) b room 0, ρ) := by
  show zIt (mR_place_B2 N) (fun _ _ _ => none) N ρ b (nI 0) = _
  exact pR_place_loop N ρ b room hr h64 N 0 (by omega) (by omega)
