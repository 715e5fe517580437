/-! THE ABSTRACT LEVEL: rows for walking through the pure functions -/
theorem q_gn {β : Type} {f : Nat → Int32} {n i : Nat} {k : Int32 → Option β} (h : i < n) (hn : n < 2 ^ 31) : zGet f n (nI i) k = k (f i) := zGet_nI h hn
theorem q_gl {β : Type} {f : Nat → Int32} {n i : Nat} {k : Int32 → Option β} (h : (OfNat.ofNat i : Nat) < n) (hn : n < 2 ^ 31) : zGet f n (no_index (OfNat.ofNat i)) k = k (f (OfNat.ofNat i : Nat)) := zGet_nI h hn
theorem q_sn {β : Type} {σ : ST} {c n i : Nat} {v : Int32} {k : ST → Option β} (h : i < n) (hn : n < 2 ^ 31) : zSet σ c n (nI i) v k = k (zUp σ c i v) := zSet_nI h hn
theorem q_sl {β : Type} {σ : ST} {c n i : Nat} {v : Int32} {k : ST → Option β} (h : (OfNat.ofNat i : Nat) < n) (hn : n < 2 ^ 31) : zSet σ c n (no_index (OfNat.ofNat i)) v k = k (zUp σ c (OfNat.ofNat i : Nat) v) := zSet_nI h hn
theorem q_al (a b : Nat) : nI a + (no_index (OfNat.ofNat b)) = nI (a + (OfNat.ofNat b : Nat)) := nI_add a b
theorem q_la (a b : Nat) : (no_index (OfNat.ofNat b)) + nI a = nI ((OfNat.ofNat b : Nat) + a) := nI_add b a
theorem q_ml (a b : Nat) : (no_index (OfNat.ofNat b)) * nI a = nI ((OfNat.ofNat b : Nat) * a) := pk_mul b a
theorem q_lm (a b : Nat) : nI a * (no_index (OfNat.ofNat b)) = nI (a * (OfNat.ofNat b : Nat)) := pk_mul a b
theorem q_sb {a b : Nat} (h : (OfNat.ofNat b : Nat) ≤ a) : nI a - (no_index (OfNat.ofNat b)) = nI (a - (OfNat.ofNat b : Nat)) := pk_sub h
theorem q_g6 {β : Type} {k : Fin 6 → Option β} {p : Nat} (h : p < 6) : zGet6 (nI p) k = k ⟨p, h⟩ := by
  have e : (nI p).toNatClampNeg = p := nI_clamp (by omega)
  unfold zGet6
  rw [dif_neg (show ¬ (nI p < 0 ∨ 6 ≤ (nI p).toNatClampNeg) from nI_in h (by decide))]
  congr 1
  exact Fin.ext e
theorem q_cq {β : Type} {a : Option (Fin 6)} {s : ST} {k : Option (Fin 6) → ST → Option β} : zCallq (some (a, s)) k = k a s := rfl
theorem q_ue {σ : ST} {c k d j : Nat} {v : Int32} (h1 : d = c) (h2 : j = k) : zUp σ c k v d j = v := by
  subst h1; subst h2; exact zUp_s σ d j v
theorem q_un {σ : ST} {c k d j : Nat} {v : Int32} (h : d ≠ c ∨ j ≠ k) : zUp σ c k v d j = σ d j := by
  by_cases e : d = c
  · subst e
    exact zUp_n σ v (by rcases h with h | h; exact absurd rfl h; exact h)
  · rw [zUp_c σ v e]
theorem q_uc {σ : ST} {c k d : Nat} {v : Int32} (h : d ≠ c) : zUp σ c k v d = σ d := zUp_c σ v h
theorem q_get (σ : ST) (c k d j : Nat) (v : Int32) : zUp σ c k v d j = if d = c ∧ j = k then v else σ d j := by
  by_cases h : d = c ∧ j = k
  · rw [if_pos h]; exact q_ue h.1 h.2
  · rw [if_neg h]; exact q_un (by omega)
theorem q_upp (σ : ST) (c k : Nat) (v w : Int32) : zUp (zUp σ c k v) c k w = zUp σ c k w := by
  funext d j
  simp only [q_get]
  by_cases h : d = c ∧ j = k
  · rw [if_pos h, if_pos h]
  · rw [if_neg h, if_neg h, if_neg h]
theorem q_self (σ : ST) (c k : Nat) : zUp σ c k (σ c k) = σ := by
  funext d j
  rw [q_get]
  by_cases h : d = c ∧ j = k
  · rw [if_pos h, h.1, h.2]
  · rw [if_neg h]
theorem q_comm {σ : ST} {c k d j : Nat} {v w : Int32} (h : c ≠ d ∨ k ≠ j) : zUp (zUp σ c k v) d j w = zUp (zUp σ d j w) c k v := by
  funext x y
  simp only [q_get]
  by_cases h1 : x = d ∧ y = j
  · rw [if_pos h1, if_pos h1, if_neg (by omega)]
  · rw [if_neg h1, if_neg h1]
theorem q_ltl {a b : Nat} (ha : a < 2 ^ 31) (hb : (OfNat.ofNat b : Nat) < 2 ^ 31) : (nI a < (no_index (OfNat.ofNat b) : Int32)) = (a < (OfNat.ofNat b : Nat)) := propext (nI_ltI ha hb)
theorem q_lel {a b : Nat} (ha : a < 2 ^ 31) (hb : (OfNat.ofNat b : Nat) < 2 ^ 31) : (nI a ≤ (no_index (OfNat.ofNat b) : Int32)) = (a ≤ (OfNat.ofNat b : Nat)) := propext (nI_leI ha hb)
theorem q_llt {a b : Nat} (ha : a < 2 ^ 31) (hb : (OfNat.ofNat b : Nat) < 2 ^ 31) : ((no_index (OfNat.ofNat b) : Int32) < nI a) = ((OfNat.ofNat b : Nat) < a) := propext (nI_ltI hb ha)
theorem q_lle {a b : Nat} (ha : a < 2 ^ 31) (hb : (OfNat.ofNat b : Nat) < 2 ^ 31) : ((no_index (OfNat.ofNat b) : Int32) ≤ nI a) = ((OfNat.ofNat b : Nat) ≤ a) := propext (nI_leI hb ha)
theorem q_eql {a b : Nat} (ha : a < 2 ^ 31) (hb : (OfNat.ofNat b : Nat) < 2 ^ 31) : (nI a = (no_index (OfNat.ofNat b) : Int32)) = (a = (OfNat.ofNat b : Nat)) := propext (nI_eq ha hb)
theorem q_lt {a b : Nat} (ha : a < 2 ^ 31) (hb : b < 2 ^ 31) : (nI a < nI b) = (a < b) := propext (nI_ltI ha hb)
theorem q_le {a b : Nat} (ha : a < 2 ^ 31) (hb : b < 2 ^ 31) : (nI a ≤ nI b) = (a ≤ b) := propext (nI_leI ha hb)
theorem q_eq {a b : Nat} (ha : a < 2 ^ 31) (hb : b < 2 ^ 31) : (nI a = nI b) = (a = b) := propext (nI_eq ha hb)
theorem q_m1 {a : Nat} (ha : a < 2 ^ 31) : ¬ nI a = (-1) := by
  intro h
  have h2 : (nI a).toInt = (-1 : Int32).toInt := by rw [h]
  rw [nI_toInt ha, show (-1 : Int32).toInt = -1 from by decide] at h2
  omega
theorem q_m1F {a : Nat} (ha : a < 2 ^ 31) : (nI a = (-1)) = False := eq_false (q_m1 ha)
/-- the class's state: what it shares with the abstract one, and what it holds in its own way -/
def qmix (A κ : ST) : ST := fun c => if c ≤ 2 ∨ (11 ≤ c ∧ c ≤ 17) ∨ (24 ≤ c ∧ c ≤ 26) then A c else κ c
theorem q_mA {A κ : ST} {c : Nat} (h : c ≤ 2 ∨ (11 ≤ c ∧ c ≤ 17) ∨ (24 ≤ c ∧ c ≤ 26)) : qmix A κ c = A c := if_pos h
theorem q_mK {A κ : ST} {c : Nat} (h : ¬ (c ≤ 2 ∨ (11 ≤ c ∧ c ≤ 17) ∨ (24 ≤ c ∧ c ≤ 26))) : qmix A κ c = κ c := if_neg h
theorem q_uA {A κ : ST} {c k : Nat} {v : Int32} (h : c ≤ 2 ∨ (11 ≤ c ∧ c ≤ 17) ∨ (24 ≤ c ∧ c ≤ 26)) : zUp (qmix A κ) c k v = qmix (zUp A c k v) κ := by
  funext d j
  rw [q_get]
  by_cases e : d = c ∧ j = k
  · rw [if_pos e, e.1, e.2, q_mA h, zUp_s]
  · rw [if_neg e]
    unfold qmix
    by_cases hd : d ≤ 2 ∨ (11 ≤ d ∧ d ≤ 17) ∨ (24 ≤ d ∧ d ≤ 26)
    · rw [if_pos hd, if_pos hd, q_un (by omega)]
    · rw [if_neg hd, if_neg hd]
theorem q_uK {A κ : ST} {c k : Nat} {v : Int32} (h : ¬ (c ≤ 2 ∨ (11 ≤ c ∧ c ≤ 17) ∨ (24 ≤ c ∧ c ≤ 26))) : zUp (qmix A κ) c k v = qmix A (zUp κ c k v) := by
  funext d j
  rw [q_get]
  by_cases e : d = c ∧ j = k
  · rw [if_pos e, e.1, e.2, q_mK h, zUp_s]
  · rw [if_neg e]
    unfold qmix
    by_cases hd : d ≤ 2 ∨ (11 ≤ d ∧ d ≤ 17) ∨ (24 ≤ d ∧ d ≤ 26)
    · rw [if_pos hd, if_pos hd]
    · rw [if_neg hd, if_neg hd, q_un (by omega)]
theorem q_mix_self (σ : ST) : qmix σ σ = σ := by
  funext c
  unfold qmix
  by_cases h : c ≤ 2 ∨ (11 ≤ c ∧ c ≤ 17) ∨ (24 ≤ c ∧ c ≤ 26)
  · rw [if_pos h]
  · rw [if_neg h]
theorem q_mix_of {σ A : ST} (h : ∀ c, (c ≤ 2 ∨ (11 ≤ c ∧ c ≤ 17) ∨ (24 ≤ c ∧ c ≤ 26)) → A c = σ c) : qmix A σ = σ := by
  funext c
  unfold qmix
  by_cases hc : c ≤ 2 ∨ (11 ≤ c ∧ c ≤ 17) ∨ (24 ≤ c ∧ c ≤ 26)
  · rw [if_pos hc, h c hc]
  · rw [if_neg hc]
/-! counting -/
def qcnt (P : Nat → Bool) : Nat → Nat
  | 0 => 0
  | n + 1 => qcnt P n + (if P n = true then 1 else 0)
theorem qcnt_s (P : Nat → Bool) (n : Nat) : qcnt P (n + 1) = qcnt P n + (if P n = true then 1 else 0) := rfl
theorem qcnt_congr {P Q : Nat → Bool} : ∀ {n : Nat}, (∀ i, i < n → P i = Q i) → qcnt P n = qcnt Q n := by
  intro n
  induction n with
  | zero => intro _; rfl
  | succ n ih =>
    intro h
    rw [qcnt_s, qcnt_s, ih (fun i hi => h i (by omega)), h n (by omega)]
theorem qcnt_le (P : Nat → Bool) : ∀ n : Nat, qcnt P n ≤ n := by
  intro n
  induction n with
  | zero => exact Nat.le_refl _
  | succ n ih =>
    rw [qcnt_s]
    split <;> omega
theorem qcnt_mono {P Q : Nat → Bool} : ∀ {n : Nat}, (∀ i, i < n → P i = true → Q i = true) → qcnt P n ≤ qcnt Q n := by
  intro n
  induction n with
  | zero => intro _; exact Nat.le_refl _
  | succ n ih =>
    intro h
    rw [qcnt_s, qcnt_s]
    have h1 := ih (fun i hi => h i (by omega))
    have h2 := h n (by omega)
    by_cases hp : P n = true
    · rw [if_pos hp, if_pos (h2 hp)]; omega
    · rw [if_neg hp]; omega
theorem qcnt_zero {P : Nat → Bool} : ∀ {n : Nat}, (∀ i, i < n → P i = false) → qcnt P n = 0 := by
  intro n
  induction n with
  | zero => intro _; rfl
  | succ n ih =>
    intro h
    rw [qcnt_s, ih (fun i hi => h i (by omega)), h n (by omega)]
    rfl
theorem qcnt_ex {P : Nat → Bool} : ∀ {n : Nat}, 0 < qcnt P n → ∃ i, i < n ∧ P i = true := by
  intro n
  induction n with
  | zero => intro h; exact absurd h (Nat.lt_irrefl _)
  | succ n ih =>
    intro h
    by_cases hp : P n = true
    · exact ⟨n, by omega, hp⟩
    · rw [qcnt_s, if_neg hp] at h
      obtain ⟨i, h1, h2⟩ := ih (by omega)
      exact ⟨i, by omega, h2⟩
theorem qcnt_rem {P : Nat → Bool} {x : Nat} : ∀ {n : Nat}, x < n → P x = true → qcnt P n = qcnt (fun b => P b && !decide (b = x)) n + 1 := by
  intro n
  induction n with
  | zero => intro h; omega
  | succ n ih =>
    intro h hp
    rw [qcnt_s, qcnt_s]
    by_cases e : n = x
    · subst e
      rw [if_pos hp]
      have h1 : qcnt P n = qcnt (fun b => P b && !decide (b = n)) n := qcnt_congr (fun i hi => by
        have h2 : decide (i = n) = false := decide_eq_false (by omega)
        simp [h2])
      rw [← h1]
      simp
    · rw [ih (by omega) hp]
      have h2 : decide (n = x) = false := decide_eq_false e
      simp only [h2, Bool.not_false, Bool.and_true]
      omega
theorem qcnt_add {P Q : Nat → Bool} {x n : Nat} (hx : x < n) (h0 : P x = false) (h1 : Q x = true) (h : ∀ i, i < n → i ≠ x → Q i = P i) : qcnt Q n = qcnt P n + 1 := by
  rw [qcnt_rem hx h1]
  congr 1
  apply qcnt_congr
  intro i hi
  by_cases e : i = x
  · subst e; simp [h0]
  · simp [e, h i hi e]
/-- places against blocks: as many of the one kind as of the other -/
theorem qcnt_bij {f : Nat → Nat} {occ : Nat → Bool} {M : Nat} : ∀ {n : Nat} {P : Nat → Bool}, (∀ i, i < n → occ i = true → f i < M) → (∀ i j, i < n → j < n → occ i = true → occ j = true → f i = f j → i = j) → (∀ b, b < M → P b = true → ∃ i, i < n ∧ occ i = true ∧ f i = b) → qcnt (fun i => occ i && P (f i)) n = qcnt P M := by
  intro n
  induction n with
  | zero =>
    intro P h1 h2 h3
    symm
    apply qcnt_zero
    intro b hb
    by_cases e : P b = true
    · obtain ⟨i, hi, _⟩ := h3 b hb e
      omega
    · simpa using e
  | succ n ih =>
    intro P h1 h2 h3
    rw [qcnt_s]
    by_cases e : (occ n && P (f n)) = true
    · rw [if_pos e]
      have e1 : occ n = true := by simp at e; exact e.1
      have e2 : P (f n) = true := by simp at e; exact e.2
      rw [qcnt_rem (h1 n (by omega) e1) e2]
      congr 1
      rw [← ih (P := fun b => P b && !decide (b = f n)) (fun i hi => h1 i (by omega)) (fun i j hi hj => h2 i j (by omega) (by omega)) (fun b hb hp => ?_)]
      · apply qcnt_congr
        intro i hi
        by_cases o : occ i = true
        · have hne : ¬ f i = f n := fun q => by
            have := h2 i n (by omega) (by omega) o e1 q
            omega
          simp [hne]
        · simp at o; simp [o]
      · simp at hp
        obtain ⟨i, hi, o, q⟩ := h3 b hb hp.1
        refine ⟨i, ?_, o, q⟩
        by_cases hin : i = n
        · subst hin; exact absurd q.symm hp.2
        · omega
    · rw [if_neg e]
      rw [ih (P := P) (fun i hi => h1 i (by omega)) (fun i j hi hj => h2 i j (by omega) (by omega)) (fun b hb hp => ?_)]
      · rfl
      · obtain ⟨i, hi, o, q⟩ := h3 b hb hp
        refine ⟨i, ?_, o, q⟩
        by_cases hin : i = n
        · subst hin
          rw [← q] at hp
          exact absurd (by simp [o, hp]) e
        · omega
