/-! THE FIRST STATES: what the constructors leave -/
theorem zRem_ok {β : Type} {x y : Int32} {k : Int32 → Option β} (h : ¬ y = 0) : zRem x y k = k (x - x / y * y) := if_neg h
theorem zDiv_ok {β : Type} {x y : Int32} {k : Int32 → Option β} (h : ¬ y = 0) : zDiv x y k = k (x / y) := if_neg h
theorem zLrem_ok {β : Type} {x y : Int64} {k : Int64 → Option β} (h : ¬ y = 0) : zLrem x y k = k (x - x / y * y) := if_neg h
/-- a loop that fills a row: after it the row holds g below its length, the rest as before -/
theorem pI_format_loop (N : Nat) (g : Nat → Int32) (hg : ∀ j, j < 10000 → (let v := (7919 : Int32) * nI j + 13; v - v / 1000003 * 1000003) = g j) : ∀ (n j : Nat) (σ : ST), j ≤ 10000 → 10000 - j < n → zIt (mI_X1_format_B2 N) (fun _ _ => none) n σ (nI j) = some (fun c => if c = 1 then (fun k => if j ≤ k ∧ k < 10000 then g k else σ 1 k) else σ c) := by
  intro n
  induction n with
  | zero => intro j σ h1 h2; omega
  | succ n ih =>
    intro j σ hj hn
    rw [zIt_s, mI_X1_format_B2]
    by_cases h : j = 10000
    · subst h
      rw [if_pos (by decide)]
      congr 1
      funext c
      by_cases hc : c = 1
      · subst hc
        rw [if_pos rfl]
        funext k
        rw [if_neg (by omega)]
      · rw [if_neg hc]
    · have hlt : j < 10000 := by omega
      rw [if_neg (show ¬ ((10000 : Int32) ≤ nI j) from nI_ge (a := j) (b := 10000) hlt (by decide))]
      rw [zLet_eq, zLet_eq]
      rw [zRem_ok (by decide), zSet_nI hlt (by decide), zLet_eq]
      have e : (7919 : Int32) * nI j + 13 - ((7919 : Int32) * nI j + 13) / 1000003 * 1000003 = g j := hg j hlt
      rw [e, nI_1, ih (j + 1) (zUp σ 1 j (g j)) (by omega) (by omega)]
      congr 1
      funext c
      by_cases hc : c = 1
      · subst hc
        rw [if_pos rfl, if_pos rfl]
        funext k
        by_cases hk : j + 1 ≤ k ∧ k < 10000
        · rw [if_pos hk, if_pos ⟨by omega, hk.2⟩]
        · rw [if_neg hk]
          by_cases hkj : k = j
          · subst hkj
            rw [zUp_s, if_pos ⟨Nat.le_refl _, hlt⟩]
          · rw [zUp_n σ (g j) hkj, if_neg (by omega)]
      · rw [if_neg hc, if_neg hc, zUp_c σ (g j) hc]
/-- the first content of a block -/
def fstF (j : Nat) : Int32 := nI ((7919 * j + 13) % 1000003)
theorem fstF_eq (j : Nat) (h : j < 10000) : (let v := (7919 : Int32) * nI j + 13; v - v / 1000003 * 1000003) = fstF j := by
  show (7919 : Int32) * nI j + 13 - ((7919 : Int32) * nI j + 13) / 1000003 * 1000003 = _
  have e : (7919 : Int32) * nI j + 13 = nI (7919 * j + 13) := by
    rw [show (7919 : Int32) = nI 7919 from rfl, show (13 : Int32) = nI 13 from rfl, pk_mul, nI_add]
  rw [e, show (1000003 : Int32) = nI 1000003 from rfl, pk_rem (by omega) (by decide) (by decide)]
  rfl
/-- (1) of NOTES.md: the disk is formatted -/
theorem pI_format (N : Nat) (hN : 10000 < N) : mI_X1_format N (fun _ _ => 0) = some (fun c => if c = 1 then (fun k => if 0 ≤ k ∧ k < 10000 then fstF k else 0) else fun _ => 0) := by
  show zIt (mI_X1_format_B2 N) (fun _ _ => none) N (fun _ _ => 0) (nI 0) = _
  rw [pI_format_loop N fstF fstF_eq N 0 (fun _ _ => 0) (by omega) (by omega)]
