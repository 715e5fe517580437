/-! PURE ROWS: what the functions of the walks compute -/
theorem zLet_eq {α β : Type} (x : α) (k : α → Option β) : zLet x k = k x := rfl
theorem zGet_ok {β : Type} {f : Nat → Int32} {n : Nat} {i : Int32} {k : Int32 → Option β} (h : vp_in i n) : zGet f n i k = k (f i.toNatClampNeg) := if_neg h
theorem zSet_ok {β : Type} {σ : ST} {c n : Nat} {i v : Int32} {k : ST → Option β} (h : vp_in i n) : zSet σ c n i v k = k (zUp σ c i.toNatClampNeg v) := if_neg h
theorem zGet_nI {β : Type} {f : Nat → Int32} {n i : Nat} {k : Int32 → Option β} (h : i < n) (hn : n < 2 ^ 31) : zGet f n (nI i) k = k (f i) := by
  rw [zGet_ok (vp_in_nI h hn), nI_clamp (by omega)]
theorem zSet_nI {β : Type} {σ : ST} {c n i : Nat} {v : Int32} {k : ST → Option β} (h : i < n) (hn : n < 2 ^ 31) : zSet σ c n (nI i) v k = k (zUp σ c i v) := by
  rw [zSet_ok (vp_in_nI h hn), nI_clamp (by omega)]
theorem zGet_at {β : Type} {f : Nat → Int32} {n : Nat} {i : Int32} {k : Int32 → Option β} (j : Nat) (e : i = nI j) (h : j < n) (hn : n < 2 ^ 31) : zGet f n i k = k (f j) := by
  rw [e, zGet_nI h hn]
theorem zSet_at {β : Type} {σ : ST} {c n : Nat} {i v : Int32} {k : ST → Option β} (j : Nat) (e : i = nI j) (h : j < n) (hn : n < 2 ^ 31) : zSet σ c n i v k = k (zUp σ c j v) := by
  rw [e, zSet_nI h hn]
theorem zCall_some {β : Type} {a : Int32} {s : ST} {k : Int32 → ST → Option β} : zCall (some (a, s)) k = k a s := rfl
theorem zCallu_some {β : Type} {s : ST} {k : ST → Option β} : zCallu (some s) k = k s := rfl
theorem zCall_eq {β : Type} {f : Option (Int32 × ST)} {a : Int32} {s : ST} {k : Int32 → ST → Option β} (h : f = some (a, s)) : zCall f k = k a s := by rw [h]; rfl
theorem zCallu_eq {β : Type} {f : Option ST} {s : ST} {k : ST → Option β} (h : f = some s) : zCallu f k = k s := by rw [h]; rfl
theorem zUp_s (σ : ST) (c k : Nat) (v : Int32) : zUp σ c k v c k = v := by
  unfold zUp va_up
  rw [if_pos rfl]
  exact pk_us
theorem zUp_n (σ : ST) {c k j : Nat} (v : Int32) (h : j ≠ k) : zUp σ c k v c j = σ c j := by
  unfold zUp va_up
  rw [if_pos rfl]
  exact pk_un h
theorem zUp_c (σ : ST) {c k d : Nat} (v : Int32) (h : d ≠ c) : zUp σ c k v d = σ d := by
  unfold zUp va_up
  rw [if_neg h]
theorem zUp_r (σ : ST) (c k : Nat) (v : Int32) : zUp σ c k v c = upd (σ c) k v := by
  unfold zUp va_up
  rw [if_pos rfl]
theorem zBool_0 {β : Type} (k : Option β) : zBool 0 k = k := if_pos (Or.inl rfl)
theorem zBool_1 {β : Type} (k : Option β) : zBool 1 k = k := if_pos (Or.inr rfl)
theorem zIt_s {β : Type} (B : β → β) (bot : β) (n : Nat) : zIt B bot (n + 1) = B (zIt B bot n) := rfl
/-- numbers: sums within the range -/
theorem i_add {a b : Int32} (h1 : -2147483648 ≤ a.toInt + b.toInt) (h2 : a.toInt + b.toInt < 2147483648) : (a + b).toInt = a.toInt + b.toInt := by
  rw [Int32.toInt_add]
  exact Int.bmod_eq_of_le (by omega) (by omega)
theorem i_sub {a b : Int32} (h1 : -2147483648 ≤ a.toInt - b.toInt) (h2 : a.toInt - b.toInt < 2147483648) : (a - b).toInt = a.toInt - b.toInt := by
  rw [Int32.toInt_sub]
  exact Int.bmod_eq_of_le (by omega) (by omega)
theorem i_mul {a b : Int32} (h1 : -2147483648 ≤ a.toInt * b.toInt) (h2 : a.toInt * b.toInt < 2147483648) : (a * b).toInt = a.toInt * b.toInt := by
  rw [Int32.toInt_mul]
  exact Int.bmod_eq_of_le (by omega) (by omega)
theorem i_rng (a : Int32) : -2147483648 ≤ a.toInt ∧ a.toInt < 2147483648 := by
  have h1 := Int32.le_toInt a
  have h2 := Int32.toInt_lt a
  constructor <;> omega
theorem i_lt {a b : Int32} : a < b ↔ a.toInt < b.toInt := Int32.lt_iff_toInt_lt
theorem i_le {a b : Int32} : a ≤ b ↔ a.toInt ≤ b.toInt := Int32.le_iff_toInt_le
theorem i_eq {a b : Int32} : a = b ↔ a.toInt = b.toInt := Int32.toInt_inj.symm
theorem l_lt {a b : Int64} : a < b ↔ a.toInt < b.toInt := Int64.lt_iff_toInt_lt
theorem l_le {a b : Int64} : a ≤ b ↔ a.toInt ≤ b.toInt := Int64.le_iff_toInt_le
theorem l_of (a : Int32) : a.toInt64.toInt = a.toInt := Int32.toInt_toInt64 a
theorem l_sub {a b : Int64} (h1 : -9223372036854775808 ≤ a.toInt - b.toInt) (h2 : a.toInt - b.toInt < 9223372036854775808) : (a - b).toInt = a.toInt - b.toInt := by
  rw [Int64.toInt_sub]
  exact Int.bmod_eq_of_le (by omega) (by omega)
theorem l_add {a b : Int64} (h1 : -9223372036854775808 ≤ a.toInt + b.toInt) (h2 : a.toInt + b.toInt < 9223372036854775808) : (a + b).toInt = a.toInt + b.toInt := by
  rw [Int64.toInt_add]
  exact Int.bmod_eq_of_le (by omega) (by omega)
theorem l_mul {a b : Int64} (h1 : -9223372036854775808 ≤ a.toInt * b.toInt) (h2 : a.toInt * b.toInt < 9223372036854775808) : (a * b).toInt = a.toInt * b.toInt := by
  rw [Int64.toInt_mul]
  exact Int.bmod_eq_of_le (by omega) (by omega)
/-! THE REFERENCE: small functions -/
theorem pR_cacheAt (N : Nat) (ρ : ST) (i : Nat) : mR_cacheAt N ρ (nI i) = some (nI (30 + 8 * i), ρ) := by
  show some ((30 : Int32) + (8 : Int32) * nI i, ρ) = _
  rw [show (8 : Int32) = nI 8 from rfl, show (30 : Int32) = nI 30 from rfl, pk_mul, nI_add]
theorem pR_streamAt (N : Nat) (ρ : ST) (i : Nat) : mR_streamAt N ρ (nI i) = some (nI (542 + 12 * i), ρ) := by
  show some ((542 : Int32) + (12 : Int32) * nI i, ρ) = _
  rw [show (12 : Int32) = nI 12 from rfl, show (542 : Int32) = nI 542 from rfl, pk_mul, nI_add]
theorem lg_lt0 (x y : Int64) : lg_cmp x y < 0 ↔ x.toInt < y.toInt := by
  unfold lg_cmp
  by_cases h : x > y
  · rw [if_pos h]
    have h1 : y.toInt < x.toInt := l_lt.mp h
    constructor
    · intro h2; exact absurd h2 (by decide)
    · intro h2; omega
  · rw [if_neg h]
    have h1 : ¬ y.toInt < x.toInt := fun q => h (l_lt.mpr q)
    by_cases e : x = y
    · rw [if_pos e, e]
      constructor
      · intro h2; exact absurd h2 (by decide)
      · intro h2; omega
    · rw [if_neg e]
      have h2 : x.toInt ≠ y.toInt := fun q => e (Int64.toInt_inj.mp q)
      constructor
      · intro _; omega
      · intro _; decide
theorem lg_gt0 (x y : Int64) : 0 < lg_cmp x y ↔ y.toInt < x.toInt := by
  unfold lg_cmp
  by_cases h : x > y
  · rw [if_pos h]
    exact ⟨fun _ => l_lt.mp h, fun _ => by decide⟩
  · rw [if_neg h]
    have h1 : ¬ y.toInt < x.toInt := fun q => h (l_lt.mpr q)
    by_cases e : x = y
    · rw [if_pos e]
      exact ⟨fun h2 => absurd h2 (by decide), fun h2 => absurd h2 h1⟩
    · rw [if_neg e]
      exact ⟨fun h2 => absurd h2 (by decide), fun h2 => absurd h2 h1⟩
theorem pR_in (N : Nat) (ρ : ST) (v a b : Int64) : mR_in N ρ v a b = some (if a.toInt ≤ v.toInt ∧ v.toInt ≤ b.toInt then 1 else 0, ρ) := by
  show (if lg_cmp v a < 0 then mR_in_17 N ρ v a b else if (0 : Int32) < lg_cmp v b then mR_in_17 N ρ v a b else mR_in_18 N ρ v a b 1) = _
  have e0 : mR_in_17 N ρ v a b = some (0, ρ) := zBool_0 _
  have e1 : mR_in_18 N ρ v a b 1 = some (1, ρ) := zBool_1 _
  rw [e0, e1]
  by_cases h1 : lg_cmp v a < 0
  · rw [if_pos h1, if_neg (fun h => by have := (lg_lt0 v a).mp h1; omega)]
  · rw [if_neg h1]
    have h1' : ¬ v.toInt < a.toInt := fun q => h1 ((lg_lt0 v a).mpr q)
    by_cases h2 : 0 < lg_cmp v b
    · rw [if_pos h2, if_neg (fun h => by have := (lg_gt0 v b).mp h2; omega)]
    · have h2' : ¬ b.toInt < v.toInt := fun q => h2 ((lg_gt0 v b).mpr q)
      rw [if_neg h2, if_pos ⟨by omega, by omega⟩]
theorem zBool_ite {β : Type} (c : Prop) [Decidable c] (k : Option β) : zBool (if c then 1 else 0) k = k := by
  by_cases h : c
  · rw [if_pos h]; exact zBool_1 k
  · rw [if_neg h]; exact zBool_0 k
theorem pR_isBlock (N : Nat) (ρ : ST) (b : Int32) : mR_isBlock N ρ b = some (if 0 ≤ b.toInt ∧ b.toInt < (ρ 1 7).toInt then 1 else 0, ρ) := by
  show zGet (ρ 1) 1974 (7 : Int32) (fun v9 => zCall (mR_in N ρ b.toInt64 0 (v9.toInt64 - 1)) fun v13 s13 => zBool v13 (some (v13, s13))) = _
  rw [zGet_at (i := 7) 7 rfl (by decide) (by decide), pR_in, zCall_some, zBool_ite]
  have h1 := i_rng (ρ 1 7)
  have h2 : ((ρ 1 7).toInt64 - 1).toInt = (ρ 1 7).toInt - 1 := by
    have h3 : (1 : Int64).toInt = 1 := by decide
    have h4 := l_of (ρ 1 7)
    rw [l_sub (by rw [h3, h4]; omega) (by rw [h3, h4]; omega), h3, h4]
  rw [h2, l_of, show (0 : Int64).toInt = 0 from by decide]
  have e : (0 ≤ b.toInt ∧ b.toInt ≤ (ρ 1 7).toInt - 1) = (0 ≤ b.toInt ∧ b.toInt < (ρ 1 7).toInt) := by
    apply propext
    omega
  simp only [e]
theorem pR_lesser (N : Nat) (ρ : ST) (a b : Int32) : mR_lesser N ρ a b = some (if a < b then a else b, ρ) := by
  unfold mR_lesser
  by_cases h : b ≤ a
  · rw [if_pos h, if_neg (fun q => by rw [i_lt] at q; rw [i_le] at h; omega)]
    rfl
  · rw [if_neg h, if_pos (by rw [i_lt]; rw [i_le] at h; omega)]
    rfl
