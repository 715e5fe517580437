/-! THE WHOLE RELATION -/
theorem zCallL_eq {β : Type} {f : Option (Int32 × ST)} {ins : ST → ST} {a : Int32} {s : ST} {k : Int32 → ST → Option β} (h : f = some (a, s)) : zCallL f ins k = k a (ins s) := by rw [h]; rfl
theorem zCallLu_eq {β : Type} {f : Option ST} {ins : ST → ST} {s : ST} {k : ST → Option β} (h : f = some s) : zCallLu f ins k = k (ins s) := by rw [h]; rfl
theorem zCallLq_eq {β : Type} {f : Option (Option (Fin 6) × ST)} {ins : ST → ST} {a : Option (Fin 6)} {s : ST} {k : Option (Fin 6) → ST → Option β} (h : f = some (a, s)) : zCallLq f ins k = k a (ins s) := by rw [h]; rfl
theorem pE_iE {k d c : Nat} {τ σ : ST} (hk : k < 4) (hc : c < 27) : pE k d (iE k d τ σ) c = σ c := by
  unfold pE
  by_cases h : c < 25
  · rw [if_pos h]
    unfold iE
    rw [if_pos (by omega), show 100 * k + c - 100 * k = c by omega]
  · rw [if_neg h, if_pos hc]
    unfold iE
    rw [if_neg (by omega), if_pos (by omega), show 400 + 2 * d + (c - 25) - (400 + 2 * d) + 25 = c by omega]
theorem iE_pE {k d : Nat} {τ : ST} (hk : k < 4) : iE k d τ (pE k d τ) = τ := by
  funext c
  unfold iE
  by_cases h : 100 * k ≤ c ∧ c < 100 * k + 25
  · rw [if_pos h]
    unfold pE
    rw [if_pos (by omega), show 100 * k + (c - 100 * k) = c by omega]
  · rw [if_neg h]
    by_cases h2 : c = 400 + 2 * d ∨ c = 400 + 2 * d + 1
    · rw [if_pos h2]
      unfold pE
      rw [if_neg (by omega), if_pos (by omega)]
      congr 1
      omega
    · rw [if_neg h2]
theorem iE_o {k d c : Nat} {τ σ : ST} (h : c < 100 * k ∨ 100 * k + 25 ≤ c) (h2 : c ≠ 400 + 2 * d) (h3 : c ≠ 400 + 2 * d + 1) : iE k d τ σ c = τ c := by
  unfold iE
  rw [if_neg (by omega), if_neg (by omega)]
theorem Rp_k {κ κ' A C H : ST} (h : ∀ c, 3 ≤ c → c ≤ 23 → κ' c = κ c) (hr : Rp κ A C H) : Rp κ' A C H :=
  ⟨RKl_k (h 22 (by omega) (by omega)) (h 23 (by omega) (by omega)) hr.1, RKc_k (fun c h1 h2 => h c (by omega) (by omega)) hr.2.1, RKh_k (fun c h1 h2 => h c (by omega) (by omega)) hr.2.2⟩
/-- an engine and its abstract planner -/
def EngC (σ A C H : ST) : Prop := (∀ c, (c ≤ 2 ∨ (11 ≤ c ∧ c ≤ 17) ∨ (24 ≤ c ∧ c ≤ 26)) → A c = σ c) ∧ Rp σ A C H
theorem EngC_mix {σ A C H : ST} (h : EngC σ A C H) : qmix A σ = σ := q_mix_of h.1
theorem Rp_mix {κ A C H : ST} (h : Rp κ A C H) : Rp (qmix A κ) A C H := by
  refine ⟨RKl_k (q_mK (by omega)) (q_mK (by omega)) h.1, RKc_k (fun c h1 h2 => q_mK (by omega)) h.2.1, RKh_k (fun c h1 h2 => q_mK (by omega)) h.2.2⟩
theorem EngC_of {κ A C H : ST} (h : Rp κ A C H) : EngC (qmix A κ) A C H := ⟨fun _ hc => (q_mA hc).symm, Rp_mix h⟩
theorem EngC_congr {σ σ' A C H : ST} (h : ∀ c, c < 27 → σ' c = σ c) (he : EngC σ A C H) : EngC σ' A C H :=
  ⟨fun c hc => by rw [h c (by omega)]; exact he.1 c hc, Rp_k (fun c h1 h2 => h c (by omega)) he.2⟩
theorem EngC_i {k d : Nat} {τ κ A C H : ST} (hk : k < 4) (h : Rp κ A C H) : EngC (pE k d (iE k d τ (qmix A κ))) A C H := EngC_congr (fun c hc => pE_iE hk hc) (EngC_of h)
/-- the disk's numbers -/
def GK (A : ST) : Prop := ∀ b, b < 10000 → -1000003 ≤ (A 26 b).toInt ∧ (A 26 b).toInt ≤ 1000002
/-- a kept state of the reference, as if it were there -/
def vK (k : Nat) (ρ : ST) : ST := fun c j => if c = 1 then ρ 3 (1974 * k + j) else if c = 4 then ρ 6 (10000 * k + j) else if c = 5 then ρ 7 (10000 * k + j) else ρ c j
def St (t : Nat) (A C H : ST) : Prop := Gd A C t ∧ GH A H ∧ GK A ∧ GX A C t
def Kp (t : Nat) (τ ρ : ST) (k : Nat) : Prop := ∃ A C H, EngC (pE (2 + k) (1 + k) τ) A C H ∧ τ 603 k = ρ 8 k ∧ (ρ 8 k = 0 ∨ ρ 8 k = 1) ∧ (ρ 8 k = 1 → RR (vK k ρ) false (vK k ρ) A C H ∧ St t A C H)
def Rs (t : Nat) (τ ρ : ST) : Prop := (∃ A C H, Rp (pE 1 0 τ) A C H) ∧ (∀ k, k < 2 → Kp t τ ρ k) ∧ (∀ k, k < 10 → ρ 9 k = lowF k ∧ ρ 10 k = highF k) ∧ (∀ b, b < 10000 → τ 501 b = 0)
def Nw (t : Nat) (τ ρ A C H : ST) : Prop := EngC (pE 0 0 τ) A C H ∧ RR ρ false ρ A C H ∧ St t A C H
def II (κ : Nat) (τ ρ : ST) : Prop := (∃ A C H, Nw (4100 * κ) τ ρ A C H) ∧ Rs (4100 * κ) τ ρ
theorem St_mono {t t' : Nat} {A C H : ST} (h : St t A C H) (ht : t ≤ t') : St t' A C H := ⟨Gd_mono h.1 ht, h.2.1, h.2.2.1, GX_mono h.2.2.2 ht⟩
theorem RR_frame {F ρ ρ' A C H : ST} (h : RR F false ρ A C H) (hc : ∀ c, c = 1 ∨ c = 4 ∨ c = 5 → ρ' c = ρ c) (h13 : 0 ≤ (ρ' 0 13).toInt ∧ (ρ' 0 13).toInt ≤ 64) : RR ρ' false ρ' A C H := by
  obtain ⟨h1, h2, h3, h4, h5, h6, h7, h8, h9⟩ := h
  have e1 := hc 1 (Or.inl rfl)
  refine ⟨fun j hj => ?_, ⟨fun j m hj => ?_, ?_, ?_, ?_⟩, fun p hp => ?_, ?_, ?_, ?_, fun b hb => ?_, ⟨fun _ _ _ _ => rfl, fun _ _ _ _ => rfl, rfl, rfl, h13⟩, fun w => by cases w⟩
  · rw [e1]; exact h1 j hj
  · rw [e1]; exact h2.1 j m hj
  · rw [e1]; exact h2.2.1
  · rw [e1]; exact h2.2.2.1
  · rw [e1]; exact h2.2.2.2
  · rw [e1]; exact h3 p hp
  · unfold RRl; rw [e1]; exact h4
  · unfold RRh; rw [e1]; exact h5
  · unfold RRc RRe; rw [e1]; exact h6
  · rw [hc 4 (by omega), hc 5 (by omega)]; exact h7 b hb
theorem Rs_mono {t t' : Nat} {τ ρ : ST} (h : Rs t τ ρ) (ht : t ≤ t') : Rs t' τ ρ := by
  refine ⟨h.1, fun k hk => ?_, h.2.2⟩
  obtain ⟨A, C, H, a1, a2, a3, a4⟩ := h.2.1 k hk
  exact ⟨A, C, H, a1, a2, a3, fun w => ⟨(a4 w).1, St_mono (a4 w).2 ht⟩⟩
/-- what stands beside the planner's own engine stays -/
theorem Rs_k {t : Nat} {τ τ' ρ ρ' : ST} (h : Rs t τ ρ) (h1 : ∀ c, 103 ≤ c → c ≠ 400 → c ≠ 401 → c ≠ 500 → c ≠ 502 → c ≠ 503 → c ≠ 504 → τ' c = τ c) (h2 : ∀ c, c = 3 ∨ c = 6 ∨ c = 7 ∨ c = 8 ∨ c = 9 ∨ c = 10 → ρ' c = ρ c) (h13 : 0 ≤ (ρ' 0 13).toInt ∧ (ρ' 0 13).toInt ≤ 64) : Rs t τ' ρ' := by
  obtain ⟨⟨A, C, H, hp⟩, hk, ht, hs⟩ := h
  refine ⟨⟨A, C, H, Rp_k (fun c c1 c2 => ?_) hp⟩, fun k hk2 => ?_, fun k hk3 => ?_, fun b hb => ?_⟩
  · unfold pE
    rw [if_pos (by omega), if_pos (by omega)]
    exact h1 _ (by omega) (by omega) (by omega) (by omega) (by omega) (by omega) (by omega)
  · obtain ⟨A, C, H, a1, a2, a3, a4⟩ := hk k hk2
    refine ⟨A, C, H, EngC_congr (fun c hc => ?_) a1, ?_, ?_, ?_⟩
    · unfold pE
      by_cases e : c < 25
      · rw [if_pos e, if_pos e]
        exact h1 _ (by omega) (by omega) (by omega) (by omega) (by omega) (by omega) (by omega)
      · rw [if_neg e, if_neg e, if_pos hc, if_pos hc]
        exact h1 _ (by omega) (by omega) (by omega) (by omega) (by omega) (by omega) (by omega)
    · rw [h1 603 (by omega) (by omega) (by omega) (by omega) (by omega) (by omega) (by omega), h2 8 (by omega)]; exact a2
    · rw [h2 8 (by omega)]; exact a3
    · rw [h2 8 (by omega)]
      intro w
      refine ⟨RR_frame (a4 w).1 (fun c hc => ?_) ?_, (a4 w).2⟩
      · funext j
        unfold vK
        rcases hc with e | e | e
        · rw [if_pos e, if_pos e, h2 3 (by omega)]
        · rw [if_neg (by omega), if_pos e, if_neg (by omega), if_pos e, h2 6 (by omega)]
        · rw [if_neg (by omega), if_neg (by omega), if_pos e, if_neg (by omega), if_neg (by omega), if_pos e, h2 7 (by omega)]
      · unfold vK
        rw [if_neg (by omega), if_neg (by omega), if_neg (by omega)]
        exact h13
  · rw [h2 9 (by omega), h2 10 (by omega)]; exact ht k hk3
  · rw [h1 501 (by omega) (by omega) (by omega) (by omega) (by omega) (by omega) (by omega)]; exact hs b hb
theorem RR_13 {F : ST} {q : Bool} {ρ A C H : ST} (h : RR F q ρ A C H) : 0 ≤ (ρ 0 13).toInt ∧ (ρ 0 13).toInt ≤ 64 := h.2.2.2.2.2.2.2.1.2.2.2.2
theorem RR_thr {F ρ A C H : ST} (h : RR F false ρ A C H) : RR (zUp ρ 0 0 0) false (zUp ρ 0 0 0) A C H := RR_frame h (fun c hc => q_uc (by omega)) (by rw [q_un (by omega)]; exact RR_13 h)
/-- nothing happened but that a call was made -/
theorem II_q {κ : Nat} {τ ρ ρ' : ST} (h : II κ τ ρ) (hc : ∀ c, c = 1 ∨ c = 3 ∨ c = 4 ∨ c = 5 ∨ c = 6 ∨ c = 7 ∨ c = 8 ∨ c = 9 ∨ c = 10 → ρ' c = ρ c) (h13 : ρ' 0 13 = ρ 0 13) : II (κ + 1) τ ρ' := by
  obtain ⟨⟨A, C, H, n1, n2, n3⟩, hr⟩ := h
  have b13 := RR_13 n2
  exact ⟨⟨A, C, H, n1, RR_frame n2 (fun c hcc => hc c (by omega)) (by rw [h13]; exact b13), St_mono n3 (by omega)⟩, Rs_k (Rs_mono hr (by omega)) (fun _ _ _ _ _ _ _ _ => rfl) (fun c hcc => hc c (by omega)) (by rw [h13]; exact b13)⟩
theorem II_mono (κ : Nat) (τ ρ : ST) (h : II κ τ ρ) : II (κ + 1) τ ρ := II_q h (fun _ _ => rfl) rfl
/-- the planner's own engine went on -/
theorem II_e {κ t : Nat} {τ ρ ρ' κ' A C H : ST} (h : II κ τ ρ) (ht : t ≤ 4100 * (κ + 1)) (hp : Rp κ' A C H) (hr : RR ρ' false ρ' A C H) (hs : St t A C H) (hc : ∀ c, c = 3 ∨ c = 6 ∨ c = 7 ∨ c = 8 ∨ c = 9 ∨ c = 10 → ρ' c = ρ c) : II (κ + 1) (iE 0 0 τ (qmix A κ')) ρ' :=
  ⟨⟨A, C, H, EngC_i (by omega) hp, hr, St_mono hs ht⟩, Rs_k (Rs_mono h.2 (by omega)) (fun c c1 c2 c3 _ _ _ _ => iE_o (by omega) (by omega) (by omega)) hc (RR_13 hr)⟩
/-! read -/
theorem qc_take_no (N : Nat) {A κ : ST} {x : Int32} (h : ¬ (0 ≤ x.toInt ∧ x.toInt < (A 1 7).toInt)) : mE_X2_take N (qmix A κ) x = some (-1, qmix (qa_clr A) κ) := by
  have e1 : qa_clr A 1 = A 1 := by unfold qa_clr; simp -implicitDefEqProofs (disch := first | assumption | omega) only [q_uc]
  rw [mE_X2_take]
  simp -implicitDefEqProofs (disch := first | assumption | omega) only [zLet_eq, zCall_some, zCallu_some, q_cq, zBool_0, zBool_1, q_gn, q_gl, q_sn, q_sl, q_al, q_la, q_ml, q_lm, q_ue, q_un, q_mA, q_mK, q_uA, q_uK, q_g6, q_rm, q_dv]
  rw [show zUp (zUp A 0 8 0) 0 9 (-1) = qa_clr A from rfl, qc_has, e1, if_neg h]
  simp -implicitDefEqProofs (disch := first | assumption | omega) only [zLet_eq, zCall_some, zCallu_some, q_cq, zBool_0, zBool_1, q_gn, q_gl, q_sn, q_sl, q_al, q_la, q_ml, q_lm, q_ue, q_un, q_mA, q_mK, q_uA, q_uK, q_g6, q_rm, q_dv, if_true]
theorem RR_clrA {F ρ A C H : ST} (h : RR F false ρ A C H) : RR F false ρ (qa_clr A) C H := RR_Apl h (fun c c1 _ => by unfold qa_clr; simp -implicitDefEqProofs (disch := first | assumption | omega) only [q_uc])
theorem RR_w0 {F : ST} {q : Bool} {ρ A C H : ST} (h : RR F q ρ A C H) : RR F false ρ A C H := by
  obtain ⟨h1, h2, h3, h4, h5, h6, h7, h8, h9⟩ := h
  exact ⟨h1, h2, h3, h4, h5, h6, h7, h8, fun w => by cases w⟩
theorem St_clr {t : Nat} {A C H : ST} (h : St t A C H) : St t (qa_clr A) C H := by
  have e1 : qa_clr A 1 = A 1 := by unfold qa_clr; simp -implicitDefEqProofs (disch := first | assumption | omega) only [q_uc]
  have e26 : qa_clr A 26 = A 26 := by unfold qa_clr; simp -implicitDefEqProofs (disch := first | assumption | omega) only [q_uc]
  exact ⟨clr_ok h.1, GH_A h.2.1 e1, fun b hb => by rw [e26]; exact h.2.2.1 b hb, GX_clr h.2.2.2⟩
theorem St_take {t b : Nat} {A C H : ST} (h : St t A C H) (ht : t < 8000000) (hb : b < 10000) (h2 : (b : Int) < (A 1 7).toInt) : St (t + 101) (qa_take A C H b).2.1 (qa_take A C H b).2.2.1 (qa_take A C H b).2.2.2 ∧ (qa_take A C H b).2.1 1 = A 1 ∧ (qa_take A C H b).2.1 26 = A 26 := by
  obtain ⟨k1, k2, k3, k4⟩ := take_ok h.1 h.2.1 (by omega) hb h2
  exact ⟨⟨k1, k2, fun b hb => by rw [k4]; exact h.2.2.1 b hb, GX_take h.2.2.2 h.1 (by omega) (by omega) hb h2⟩, k3, k4⟩
theorem qc_content (N : Nat) {A κ : ST} {b : Nat} (hb : b < 10000) : mE_X1_contentOf N (qmix A κ) (nI b) = some (contF (A 26 b), qmix A κ) := by
  rw [mE_X1_contentOf]
  unfold contF
  by_cases h : 0 ≤ A 26 b
  · have h2 : ¬ A 26 b < 0 := by rw [i_le] at h; rw [i_lt]; omega
    simp -implicitDefEqProofs (disch := first | assumption | omega) only [zLet_eq, zCall_some, zCallu_some, q_cq, zBool_0, zBool_1, q_gn, q_gl, q_sn, q_sl, q_al, q_la, q_ml, q_lm, q_ue, q_un, q_mA, q_mK, q_uA, q_uK, q_g6, q_rm, q_dv, q_ltl, q_lel, q_llt, q_lle, q_eql, q_lt, q_le, q_eq, q_m1F, if_pos, if_neg, if_true, if_false, mE_X1_contentOf_39]
  · have h2 : A 26 b < 0 := by rw [i_le] at h; rw [i_lt]; omega
    simp -implicitDefEqProofs (disch := first | assumption | omega) only [zLet_eq, zCall_some, zCallu_some, q_cq, zBool_0, zBool_1, q_gn, q_gl, q_sn, q_sl, q_al, q_la, q_ml, q_lm, q_ue, q_un, q_mA, q_mK, q_uA, q_uK, q_g6, q_rm, q_dv, q_ltl, q_lel, q_llt, q_lle, q_eql, q_lt, q_le, q_eq, q_m1F, if_pos, if_neg, if_true, if_false, mE_X1_contentOf_39]
theorem take_0 {A C H : ST} {b t : Nat} (h : Gd A C t) (ht : t < 1000000000) (hb : b < 10000) (h2 : (b : Int) < (A 1 7).toInt) : ¬ (qa_take A C H b).1 = -1 ∧ ((qa_take A C H b).1 = 0 ↔ ¬ (C b 0 = 1 ∨ 0 ≤ A 26 b)) := by
  have e1 : qa_clr A 1 = A 1 := by unfold qa_clr; simp -implicitDefEqProofs (disch := first | assumption | omega) only [q_uc]
  unfold qa_take
  by_cases e : C b 0 = 1 ∨ 0 ≤ A 26 b
  · rw [if_pos e]
    obtain ⟨g1, g2, g3, -⟩ := got_ok (clr_ok h) (by omega) hb (by rw [e1]; exact h2)
    obtain ⟨f1, f2, f3, f4, -⟩ := find_ok g1 (by omega) hb (by rw [g3, e1]; exact h2)
    unfold qa_rest
    dsimp only
    refine ⟨fun w => ?_, fun w => ?_, fun w => absurd e w⟩
    · rw [w] at f4
      rcases f4 with f | f | f | f <;> exact absurd f (by decide)
    · rw [w] at f4
      rcases f4 with f | f | f | f <;> exact absurd f (by decide)
  · rw [if_neg e]
    dsimp only
    exact ⟨by decide, fun _ => e, fun _ => rfl⟩
theorem s_read (N : Nat) (hN : 1300 < N) (κ : Nat) (hκ : κ < 512) : Sm_read N (II κ) (II (κ + 1)) := by
  intro τ ρ x hI
  obtain ⟨⟨A, C, H, n1, n2, n3⟩, hr⟩ := id hI
  have hmx := EngC_mix n1
  have hth := RR_thr n2
  have htb := GT_b n3.1.1.1
  rw [mT_X7_read, mR_read]
  simp -implicitDefEqProofs (disch := first | assumption | omega) only [zLet_eq, r_isBlock N hth, zCall_some]
  by_cases hv : 0 ≤ x.toInt ∧ x.toInt < (A 1 7).toInt
  · obtain ⟨c1, c2⟩ := clamp_toInt hv.1
    generalize x.toNatClampNeg = b at c1 c2
    subst c2
    have hb : b < 10000 := by omega
    have hb7 : (b : Int) < (A 1 7).toInt := by omega
    obtain ⟨κ1, k1, k2⟩ := qc_take N (by omega) n1.2 n3.1 (by omega) hb hb7
    rw [hmx] at k1
    obtain ⟨ρ1, r1, r2, r3, r4, r5, r6, r7, r8⟩ := r_read N hN hth n3.1 (by omega) hb hb7
    obtain ⟨s1, s2, s3⟩ := St_take n3 (by omega) hb hb7
    obtain ⟨t1, t2⟩ := take_0 (H := H) n3.1 (by omega) hb hb7
    have hII : II (κ + 1) (iE 0 0 τ (qmix (qa_take A C H b).2.1 κ1)) ρ1 := II_e hI (by omega) k2 (RR_w0 r2) s1 (fun c hc => by rw [r3 c (by omega) (by omega) (by omega), q_uc (by omega)])
    rw [if_pos hv, if_neg (show ¬ ((1 : Int32) = 0) by decide), r1, zCallL_eq k1, zCall_some, mR_read_22, if_neg t1]
    by_cases e : C b 0 = 1 ∨ 0 ≤ A 26 b
    · rw [if_neg (fun w => t2.mp w e), if_pos e]
      have hm2 := EngC_mix (EngC_i (k := 0) (d := 0) (τ := τ) (by omega) k2)
      have ct := qc_content N (A := (qa_take A C H b).2.1) (κ := pE 0 0 (iE 0 0 τ (qmix (qa_take A C H b).2.1 κ1))) hb
      rw [hm2, s3] at ct
      rw [zCallL_eq ct, mT_X7_read_33, iE_pE (by omega)]
      exact ⟨_, _, _, rfl, rfl, hII⟩
    · rw [if_pos (t2.mpr e), if_neg e, mT_X7_read_33]
      exact ⟨_, _, _, rfl, rfl, hII⟩
  · have k1 := qc_take_no N (κ := pE 0 0 τ) hv
    rw [hmx] at k1
    rw [if_neg hv, if_pos rfl, zCallL_eq k1, if_pos rfl, mR_read_22]
    refine ⟨_, _, _, rfl, rfl, II_e hI (t := 4100 * κ) (by omega) (C := C) (H := H) (Rp_22 n1.2 ?_ ?_) (RR_clrA hth) (St_clr n3) (fun c hc => q_uc (by omega))⟩
    · unfold qa_clr; simp -implicitDefEqProofs (disch := first | assumption | omega) only [q_uc]
    · unfold qa_clr; simp -implicitDefEqProofs (disch := first | assumption | omega) only [q_uc]
