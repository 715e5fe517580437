/-! THE REFERENCE AGAINST THE ABSTRACT PLANNER: the relation, and what single updates do to it -/
def contF (v : Int32) : Int32 := if v < 0 then -1 - v else v
def cmap (k i : Nat) : Prop := (k < 10 ∧ i = 10 + k) ∨ (k = 14 ∧ i = 20) ∨ (k = 17 ∧ i = 23) ∨ (k = 19 ∧ i = 24) ∨ (k = 30 ∧ i = 25) ∨ (k = 32 ∧ i = 27) ∨ (k = 33 ∧ i = 28)
def RRt (ρ A : ST) : Prop := ∀ k, k < 10 → ρ 1 k = A 1 k
def RRn (ρ A C H : ST) : Prop := (∀ k i, cmap k i → ρ 1 i = A 2 k) ∧ ρ 1 21 = C 10000 0 ∧ ρ 1 22 = H 18 4 ∧ ρ 1 26 = A 22 2
def RRs (ρ A : ST) : Prop := ∀ p, p < 6 → (ρ 1 (542 + 12 * p) = 0 ∧ A (12 + p) 0 = -1) ∨ (ρ 1 (542 + 12 * p) = 1 ∧ ¬ A (12 + p) 0 = -1 ∧ ∀ k, k < 11 → ρ 1 (543 + 12 * p + k) = A (12 + p) k)
def RRl (ρ A : ST) : Prop := ∃ l, l ≤ 40 ∧ A 22 2 = nI l ∧ ∀ k, k < 4 * l → ρ 1 (614 + k) = A 23 k
def RRh (ρ H : ST) : Prop := ∃ l, l ≤ 400 ∧ H 18 4 = nI l ∧ ∀ i, i < l → ρ 1 (774 + 3 * i) = H 19 i ∧ ρ 1 (775 + 3 * i) = H 20 i ∧ ρ 1 (776 + 3 * i) = H 21 i
/-- the place i holds block b -/
def RRe (ρ A C : ST) (i b : Nat) : Prop := ρ 1 (30 + 8 * i) = nI (b + 1) ∧ C b 0 = 1 ∧ ρ 1 (31 + 8 * i) = contF (A 26 b) ∧ ρ 1 (32 + 8 * i) = C b 1 ∧ ρ 1 (33 + 8 * i) = C b 5 ∧ ρ 1 (34 + 8 * i) = C b 3 + 1 ∧ ρ 1 (35 + 8 * i) = C b 2 ∧ ρ 1 (36 + 8 * i) = C b 4 ∧ ρ 1 (37 + 8 * i) = (if C b 3 = -1 then 0 else 1)
def RRc (ρ A C : ST) : Prop := ∃ r, r ≤ 64 ∧ A 1 0 = nI r ∧ (∀ i, i < r → ρ 1 (30 + 8 * i) = 0 ∨ ∃ b, b < 10000 ∧ RRe ρ A C i b) ∧ (∀ b, b < 10000 → C b 0 = 1 → ∃ i, i < r ∧ ρ 1 (30 + 8 * i) = nI (b + 1)) ∧ (∀ i j, i < r → j < r → ρ 1 (30 + 8 * i) = ρ 1 (30 + 8 * j) → ¬ ρ 1 (30 + 8 * i) = 0 → i = j)
def RRd (ρ A : ST) : Prop := ∀ b, b < 10000 → ρ 4 b = contF (A 26 b) ∧ ρ 5 b = (if 0 ≤ A 26 b then 0 else 1)
/-- what a read leaves as it is; what it wasted and shared, by its counts -/
def RRx (F ρ : ST) : Prop := (∀ c, c ≠ 0 → c ≠ 1 → c ≠ 14 → ρ c = F c) ∧ (∀ k, k ≠ 13 → k ≠ 15 → k ≠ 16 → ρ 0 k = F 0 k) ∧ ρ 0 16 - ρ 1 16 = F 0 16 - F 1 16 ∧ ρ 0 15 - ρ 1 17 = F 0 15 - F 1 17 ∧ 0 ≤ (ρ 0 13).toInt ∧ (ρ 0 13).toInt ≤ 64
def RRp (ρ A : ST) : Prop := ∃ j, j ≤ 32 ∧ A 0 8 = nI j ∧ ρ 0 13 = nI j ∧ ∀ i, i < j → ρ 14 i = A 24 i
def RR (F : ST) (q : Bool) (ρ A C H : ST) : Prop := RRt ρ A ∧ RRn ρ A C H ∧ RRs ρ A ∧ RRl ρ A ∧ RRh ρ H ∧ RRc ρ A C ∧ RRd ρ A ∧ RRx F ρ ∧ (q = true → RRp ρ A)
theorem RRt_o {ρ A : ST} {k : Nat} {v : Int32} (h : RRt ρ A) (hk : 10 ≤ k) : RRt (zUp ρ 1 k v) A := fun j hj => by rw [q_un (by omega)]; exact h j hj
theorem RRn_o {ρ A C H : ST} {k : Nat} {v : Int32} (h : RRn ρ A C H) (hk : k < 10 ∨ 29 ≤ k) : RRn (zUp ρ 1 k v) A C H := by
  refine ⟨fun j i hj => ?_, ?_, ?_, ?_⟩
  · rw [q_un (by unfold cmap at hj; omega)]; exact h.1 j i hj
  · rw [q_un (by omega)]; exact h.2.1
  · rw [q_un (by omega)]; exact h.2.2.1
  · rw [q_un (by omega)]; exact h.2.2.2
theorem RRs_o {ρ A : ST} {k : Nat} {v : Int32} (h : RRs ρ A) (hk : k < 542 ∨ 614 ≤ k) : RRs (zUp ρ 1 k v) A := fun p hp => by
  rcases h p hp with ⟨h1, h2⟩ | ⟨h1, h2, h3⟩
  · exact Or.inl ⟨by rw [q_un (by omega)]; exact h1, h2⟩
  · exact Or.inr ⟨by rw [q_un (by omega)]; exact h1, h2, fun j hj => by rw [q_un (by omega)]; exact h3 j hj⟩
theorem RRl_o {ρ A : ST} {k : Nat} {v : Int32} (h : RRl ρ A) (hk : k < 614 ∨ 774 ≤ k) : RRl (zUp ρ 1 k v) A := by
  obtain ⟨l, h1, h2, h3⟩ := h
  exact ⟨l, h1, h2, fun j hj => by rw [q_un (by omega)]; exact h3 j hj⟩
theorem RRh_o {ρ H : ST} {k : Nat} {v : Int32} (h : RRh ρ H) (hk : k < 774 ∨ 1974 ≤ k) : RRh (zUp ρ 1 k v) H := by
  obtain ⟨l, h1, h2, h3⟩ := h
  exact ⟨l, h1, h2, fun i hi => by rw [q_un (by omega), q_un (by omega), q_un (by omega)]; exact h3 i hi⟩
theorem RRe_o {ρ A C : ST} {k i b : Nat} {v : Int32} (h : RRe ρ A C i b) (hk : k < 30 + 8 * i ∨ 38 + 8 * i ≤ k) : RRe (zUp ρ 1 k v) A C i b := by
  unfold RRe at *
  simp -implicitDefEqProofs (disch := first | assumption | omega) only [q_un]
  exact h
theorem RRc_o {ρ A C : ST} {k : Nat} {v : Int32} (h : RRc ρ A C) (hk : k < 30 ∨ 542 ≤ k) : RRc (zUp ρ 1 k v) A C := by
  obtain ⟨r, h1, h2, h3, h4, h5⟩ := h
  refine ⟨r, h1, h2, fun i hi => ?_, fun b hb hc => ?_, fun i j hi hj => ?_⟩
  · rw [q_un (by omega)]
    rcases h3 i hi with e | ⟨b, hb, e⟩
    · exact Or.inl e
    · exact Or.inr ⟨b, hb, RRe_o e (by omega)⟩
  · obtain ⟨i, hi, e⟩ := h4 b hb hc
    exact ⟨i, hi, by rw [q_un (by omega)]; exact e⟩
  · rw [q_un (by omega), q_un (by omega)]
    exact h5 i j hi hj
theorem RRd_o {ρ A : ST} {c k : Nat} {v : Int32} (h : RRd ρ A) (hc : c ≠ 4) (hd : c ≠ 5) : RRd (zUp ρ c k v) A := fun b hb => by
  rw [q_un (by omega), q_un (by omega)]
  exact h b hb
theorem RRx_o {F ρ : ST} {k : Nat} {v : Int32} (h : RRx F ρ) (hk : k ≠ 16) (hk2 : k ≠ 17) : RRx F (zUp ρ 1 k v) := by
  refine ⟨fun c h0 h1 h2 => ?_, fun j h1 h2 h3 => ?_, ?_, ?_, ?_⟩
  · rw [q_uc h1]; exact h.1 c h0 h1 h2
  · rw [q_un (by omega)]; exact h.2.1 j h1 h2 h3
  · rw [q_un (by omega), q_un (by omega)]; exact h.2.2.1
  · rw [q_un (by omega), q_un (by omega)]; exact h.2.2.2.1
  · rw [q_un (by omega)]; exact h.2.2.2.2
theorem RRp_o {ρ A : ST} {k : Nat} {v : Int32} (h : RRp ρ A) : RRp (zUp ρ 1 k v) A := by
  obtain ⟨j, h1, h2, h3, h4⟩ := h
  exact ⟨j, h1, h2, by rw [q_un (by omega)]; exact h3, fun i hi => by rw [q_un (by omega)]; exact h4 i hi⟩
theorem RRt_A {ρ A : ST} {c k : Nat} {v : Int32} (h : RRt ρ A) (hc : c ≠ 1) : RRt ρ (zUp A c k v) := fun j hj => by rw [q_un (by omega)]; exact h j hj
theorem RRn_A {ρ A C H : ST} {c k : Nat} {v : Int32} (h : RRn ρ A C H) (hc : c ≠ 2) (hd : c ≠ 22) : RRn ρ (zUp A c k v) C H := by
  refine ⟨fun j i hj => ?_, h.2.1, h.2.2.1, ?_⟩
  · rw [q_un (by omega)]; exact h.1 j i hj
  · rw [q_un (by omega)]; exact h.2.2.2
theorem RRs_A {ρ A : ST} {c k : Nat} {v : Int32} (h : RRs ρ A) (hc : c < 12 ∨ 18 ≤ c) : RRs ρ (zUp A c k v) := fun p hp => by
  rw [q_uc (by omega)]
  exact h p hp
theorem RRl_A {ρ A : ST} {c k : Nat} {v : Int32} (h : RRl ρ A) (hc : c ≠ 22) (hd : c ≠ 23) : RRl ρ (zUp A c k v) := by
  unfold RRl at *
  rw [q_uc (by omega), q_uc (by omega)]
  exact h
theorem RRc_A {ρ A C : ST} {c k : Nat} {v : Int32} (h : RRc ρ A C) (hc : c ≠ 1) (hd : c ≠ 26) : RRc ρ (zUp A c k v) C := by
  unfold RRc RRe at *
  rw [q_uc (by omega), q_uc (by omega)]
  exact h
theorem RRd_A {ρ A : ST} {c k : Nat} {v : Int32} (h : RRd ρ A) (hd : c ≠ 26) : RRd ρ (zUp A c k v) := by
  unfold RRd at *
  rw [q_uc (by omega)]
  exact h
theorem RRp_A {ρ A : ST} {c k : Nat} {v : Int32} (h : RRp ρ A) (hc : c ≠ 0) (hd : c ≠ 24) : RRp ρ (zUp A c k v) := by
  unfold RRp at *
  rw [q_uc (by omega), q_uc (by omega)]
  exact h
/-- a count -/
theorem RR_n {F : ST} {q : Bool} {ρ A C H : ST} (h : RR F q ρ A C H) {k i : Nat} (hk : cmap k i) (h6 : k ≠ 6) (h7 : k ≠ 7) (v : Int32) : RR F q (zUp ρ 1 i v) (zUp A 2 k v) C H := by
  obtain ⟨h1, h2, h3, h4, h5, h6', h7', h8, h9⟩ := h
  have hi : 10 ≤ i ∧ i < 29 ∧ i ≠ 16 ∧ i ≠ 17 ∧ i ≠ 21 ∧ i ≠ 22 ∧ i ≠ 26 := by unfold cmap at hk; omega
  refine ⟨RRt_A (RRt_o h1 (by omega)) (by omega), ⟨fun j m hj => ?_, ?_, ?_, ?_⟩, RRs_A (RRs_o h3 (by omega)) (by omega), RRl_A (RRl_o h4 (by omega)) (by omega) (by omega), RRh_o h5 (by omega), RRc_A (RRc_o h6' (by omega)) (by omega) (by omega), RRd_A (RRd_o h7' (by omega) (by omega)) (by omega), RRx_o h8 (by omega) (by omega), fun hq => RRp_A (RRp_o (h9 hq)) (by omega) (by omega)⟩
  · by_cases e : j = k
    · rw [q_ue rfl (by unfold cmap at hk hj; omega), q_ue rfl e]
    · rw [q_un (by unfold cmap at hk hj; omega), q_un (by omega)]
      exact h2.1 j m hj
  · rw [q_un (by omega)]; exact h2.2.1
  · rw [q_un (by omega)]; exact h2.2.2.1
  · rw [q_un (by omega), q_un (by omega)]; exact h2.2.2.2
theorem i_sub11 (a b : Int32) : (a + 1) - (b + 1) = a - b := by
  apply Int32.toBitVec_inj.mp
  simp
  rw [BitVec.sub_eq_add_neg, BitVec.sub_eq_add_neg, BitVec.neg_add, BitVec.sub_eq_add_neg]
  rw [BitVec.add_assoc, BitVec.add_comm (1#32) _, BitVec.add_assoc, BitVec.add_comm (-1#32)  (1#32), BitVec.add_right_neg]
  simp
