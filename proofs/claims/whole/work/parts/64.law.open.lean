set_option maxRecDepth 20000 in
theorem kw_69 : Cond.instantiable RX7 7 ∈ zTb := zIn1 14 rfl rfl
set_option maxRecDepth 20000 in
theorem kw_903 : Cond.instantiable RX8 24 ∈ zTb := zIn4 128 rfl rfl
set_option maxRecDepth 20000 in
theorem kw_68 : Cond.classLink RL 7 RX7 ∈ zTb := zIn1 13 rfl rfl
set_option maxRecDepth 20000 in
theorem kw_902 : Cond.classLink RL 10 RX8 ∈ zTb := zIn4 127 rfl rfl
set_option maxRecDepth 20000 in
theorem kw_56 : Cond.initialized RX7 ∈ zTb := zIn1 1 rfl rfl
set_option maxRecDepth 20000 in
theorem kw_65 : Cond.initialized RX8 ∈ zTb := zIn1 10 rfl rfl
set_option maxRecDepth 20000 in
theorem kw_70 : Cond.methodLink RL 9 yX7_init ∈ zTb := zIn1 15 rfl rfl
set_option maxRecDepth 20000 in
theorem kw_904 : Cond.methodLink RL 12 yX8_init ∈ zTb := zIn4 129 rfl rfl
set_option maxRecDepth 20000 in
theorem kw_71 : Cond.instanceMethod yX7_init ∈ zTb := zIn1 16 rfl rfl
set_option maxRecDepth 20000 in
theorem kw_905 : Cond.instanceMethod yX8_init ∈ zTb := zIn4 130 rfl rfl
set_option maxRecDepth 100000 in
set_option maxHeartbeats 8000000 in
/-- THE LAW FROM ITS ENTRY, over what is still to be shown of class and reference (open) -/
theorem whole_open {p : Program} {e : Env} {s : State} {m : MethodId} {below : List Frame} {meth : Method} {c : Code} (l : Launch) {b L : Nat} {xs : Nat → Int32} (hL : L ≤ 2048) (C0 : lw_At p s m meth c b L xs) {N : Nat} {dq q : ST} {I : Nat → ST → ST → Prop} (hdq : mI_X1_format N (fun _ _ => 0) = some dq) (hq : mR_initT N rho1 = some q) (hS : ∀ κ, κ < 512 → LawSim N (I κ) (I (κ + 1))) (hm : ∀ κ τ ρ, I κ τ ρ → I (κ + 1) τ ρ) (h0 : I 0 (tau0 dq) q) : W p l e room_1 s m #[Value.ref b] below meth c s.heap [] 0 0 (lw_Z below #[Value.ref b] s) (entryFrame m ([Value.ref b] : List Value).toArray 4) := by
  obtain ⟨hx, hb, hr, hml, hown, hts, hX, hbl, hlocks, hgv⟩ := id C0
  have hz : ∀ w ∈ zTb, w.before #[Value.ref b] s = true := fun w hw => hts w (List.mem_filter.mp hw).1
  obtain ⟨c0, iS0, hKn0⟩ := u_known (C := RX0) (T := TX0) (N := 10) (n := 10) hz iX0 (hz _ kw_104)
  obtain ⟨c1, iS1, hKn1⟩ := u_known (C := RX1) (T := TX1) (N := 1) (n := 1) hz iX1 (hz _ kw_77)
  obtain ⟨c2, iS2, hKn2⟩ := u_known (C := RX2) (T := TX2) (N := 10) (n := 10) hz iX2 (hz _ kw_93)
  obtain ⟨c3, iS3, hKn3⟩ := u_known (C := RX3) (T := TX3) (N := 5) (n := 5) hz iX3 (hz _ kw_209)
  obtain ⟨c4, iS4, hKn4⟩ := u_known (C := RX4) (T := TX4) (N := 11) (n := 11) hz iX4 (hz _ kw_151)
  obtain ⟨c5, iS5, hKn5⟩ := u_known (C := RX5) (T := TX5) (N := 6) (n := 6) hz iX5 (hz _ kw_287)
  obtain ⟨c6, iS6, hKn6⟩ := u_known (C := RX6) (T := TX6) (N := 3) (n := 3) hz iX6 (hz _ kw_234)
  obtain ⟨c7, iS7, hKn7⟩ := u_known (C := RX7) (T := TX7) (N := 7) (n := 7) hz iX7 (hz _ kw_69)
  obtain ⟨c8, iS8, hKn8⟩ := u_known (C := RX8) (T := TX8) (N := 24) (n := 24) hz iX8 (hz _ kw_903)
  obtain ⟨dC, dI, hKc⟩ : ∃ (dC : Nat → ClassId) (dI : Nat → Nat → Nat), ∀ (k : Nat) (q : vw_C), vwCl[k]? = some q → u_Kn s q.1 q.2.1 q.2.2 (dC k) (dI k) := by
    refine ⟨fun k => if k = 0 then c0 else if k = 1 then c1 else if k = 2 then c2 else if k = 3 then c3 else if k = 4 then c4 else if k = 5 then c5 else if k = 6 then c6 else if k = 7 then c7 else c8, fun k => if k = 0 then iS0 else if k = 1 then iS1 else if k = 2 then iS2 else if k = 3 then iS3 else if k = 4 then iS4 else if k = 5 then iS5 else if k = 6 then iS6 else if k = 7 then iS7 else iS8, ?_⟩
    intro k q hq
    match k, hq with
    | 0, hq => cases hq; exact hKn0
    | 1, hq => cases hq; exact hKn1
    | 2, hq => cases hq; exact hKn2
    | 3, hq => cases hq; exact hKn3
    | 4, hq => cases hq; exact hKn4
    | 5, hq => cases hq; exact hKn5
    | 6, hq => cases hq; exact hKn6
    | 7, hq => cases hq; exact hKn7
    | 8, hq => cases hq; exact hKn8
    | k + 9, hq => simp at hq
  obtain ⟨cI, kI, coI, fI, gI, eI⟩ := Cond.arrayClass_spec (hz (.arrayClass .int) kAcI)
  obtain ⟨cZ, kZ, coZ, fZ, gZ, eZ⟩ := Cond.arrayClass_spec (hz (.arrayClass .boolean) kAcZ)
  have hOS : va_AO "AheadPlanner$Stream" s := va_AO.of (hts (.arrayOver (.object "AheadPlanner$Stream")) (List.mem_of_getElem? (i := 150) (by decide +kernel)))
  obtain ⟨coS, cS, kS, hS1, hS2, hS3, hS4, hS5⟩ := Cond.arrayOver_spec hOS
  have hOD : va_AO "AheadPlanner$Disk" s := va_AO.of (hts (.arrayOver (.object "AheadPlanner$Disk")) (List.mem_of_getElem? (i := 312) (by decide +kernel)))
  obtain ⟨coD, cD, kD, hD1, hD2, hD3, hD4, hD5⟩ := Cond.arrayOver_spec hOD
  have hOE : va_AO "AheadPlanner$Engine" s := va_AO.of (hts (.arrayOver (.object "AheadPlanner$Engine")) (List.mem_of_getElem? (i := 313) (by decide +kernel)))
  obtain ⟨coE, cE, kE, hE1, hE2, hE3, hE4, hE5⟩ := Cond.arrayOver_spec hOE
  have hK : va_K (dC, dI) vwCl [(cI, .int), (cZ, .boolean), (cS, .object "AheadPlanner$Stream"), (cD, .object "AheadPlanner$Disk"), (cE, .object "AheadPlanner$Engine")] s := by
    refine ⟨hKc, fun k q hk => ?_⟩
    match k, hk with
    | 0, hk => cases hk; exact ⟨fun n z => ⟨fun _ h => by (cases h), kI, gI, coI, eI⟩, fI⟩
    | 1, hk => cases hk; exact ⟨fun n z => ⟨fun _ h => by (cases h), kZ, gZ, coZ, eZ⟩, fZ⟩
    | 2, hk => cases hk; exact ⟨fun n z => ⟨fun _ h => by (cases h), kS, hS3, coS, hS4⟩, kS, coS, hS3, hS4, hS1, hS5⟩
    | 3, hk => cases hk; exact ⟨fun n z => ⟨fun _ h => by (cases h), kD, hD3, coD, hD4⟩, kD, coD, hD3, hD4, hD1, hD5⟩
    | 4, hk => cases hk; exact ⟨fun n z => ⟨fun _ h => by (cases h), kE, hE3, coE, hE4⟩, kE, coE, hE3, hE4, hE1, hE5⟩
    | k + 5, hk => simp at hk
  have hs := flat_of_before _ hgv
  have hAn : ∀ a : Nat, a < s.heap.size → ¬ (fun q : Nat => s.heap.size ≤ q) a := fun a h => Nat.not_le.mpr h
  obtain ⟨tL, evL, hTL⟩ : ∃ t : Nat, (Term.static "AheadPlanner" "LOWEST" "[I").eval #[Value.ref b] s none [] s = some (.ref t) ∧ va_T .int t 10 (fun j => .int (lowF j)) (fun q : Nat => s.heap.size ≤ q) s s.heap := by
    refine va_Tof (by decide) (hs (.arrayOf (.static "AheadPlanner" "LOWEST" "[I") .int) (by decide +kernel)) (va_eqt (hs (.eq (.length (.static "AheadPlanner" "LOWEST" "[I")) (.int 10)) (by decide +kernel))) (fun j hj => ?_) hAn
    match j, hj with
    | 0, _ => exact va_eqt (hs (.eq (.elem (.static "AheadPlanner" "LOWEST" "[I") (.int 0)) (.int (4))) (by decide +kernel))
    | 1, _ => exact va_eqt (hs (.eq (.elem (.static "AheadPlanner" "LOWEST" "[I") (.int 1)) (.int (1))) (by decide +kernel))
    | 2, _ => exact va_eqt (hs (.eq (.elem (.static "AheadPlanner" "LOWEST" "[I") (.int 2)) (.int (1))) (by decide +kernel))
    | 3, _ => exact va_eqt (hs (.eq (.elem (.static "AheadPlanner" "LOWEST" "[I") (.int 3)) (.int (1))) (by decide +kernel))
    | 4, _ => exact va_eqt (hs (.eq (.elem (.static "AheadPlanner" "LOWEST" "[I") (.int 4)) (.int (1))) (by decide +kernel))
    | 5, _ => exact va_eqt (hs (.eq (.elem (.static "AheadPlanner" "LOWEST" "[I") (.int 5)) (.int (0))) (by decide +kernel))
    | 6, _ => exact va_eqt (hs (.eq (.elem (.static "AheadPlanner" "LOWEST" "[I") (.int 6)) (.int (1))) (by decide +kernel))
    | 7, _ => exact va_eqt (hs (.eq (.elem (.static "AheadPlanner" "LOWEST" "[I") (.int 7)) (.int (1))) (by decide +kernel))
    | 8, _ => exact va_eqt (hs (.eq (.elem (.static "AheadPlanner" "LOWEST" "[I") (.int 8)) (.int (0))) (by decide +kernel))
    | 9, _ => exact va_eqt (hs (.eq (.elem (.static "AheadPlanner" "LOWEST" "[I") (.int 9)) (.int (0))) (by decide +kernel))
    | j + 10, hj => omega
  have hZL : va_Z "AheadPlanner" "LOWEST" "[I" (.ref tL) (fun q : Nat => s.heap.size ≤ q) s s.heap := va_Zref (hts (.laysStatic "AheadPlanner" "LOWEST" "[I") (List.mem_of_getElem? (i := 344) (by decide +kernel))) (hz _ kw_56) evL hAn
  obtain ⟨tH, evH, hTH⟩ : ∃ t : Nat, (Term.static "AheadPlanner" "HIGHEST" "[I").eval #[Value.ref b] s none [] s = some (.ref t) ∧ va_T .int t 10 (fun j => .int (highF j)) (fun q : Nat => s.heap.size ≤ q) s s.heap := by
    refine va_Tof (by decide) (hs (.arrayOf (.static "AheadPlanner" "HIGHEST" "[I") .int) (by decide +kernel)) (va_eqt (hs (.eq (.length (.static "AheadPlanner" "HIGHEST" "[I")) (.int 10)) (by decide +kernel))) (fun j hj => ?_) hAn
    match j, hj with
    | 0, _ => exact va_eqt (hs (.eq (.elem (.static "AheadPlanner" "HIGHEST" "[I") (.int 0)) (.int (64))) (by decide +kernel))
    | 1, _ => exact va_eqt (hs (.eq (.elem (.static "AheadPlanner" "HIGHEST" "[I") (.int 1)) (.int (4))) (by decide +kernel))
    | 2, _ => exact va_eqt (hs (.eq (.elem (.static "AheadPlanner" "HIGHEST" "[I") (.int 2)) (.int (8))) (by decide +kernel))
    | 3, _ => exact va_eqt (hs (.eq (.elem (.static "AheadPlanner" "HIGHEST" "[I") (.int 3)) (.int (32))) (by decide +kernel))
    | 4, _ => exact va_eqt (hs (.eq (.elem (.static "AheadPlanner" "HIGHEST" "[I") (.int 4)) (.int (200))) (by decide +kernel))
    | 5, _ => exact va_eqt (hs (.eq (.elem (.static "AheadPlanner" "HIGHEST" "[I") (.int 5)) (.int (100))) (by decide +kernel))
    | 6, _ => exact va_eqt (hs (.eq (.elem (.static "AheadPlanner" "HIGHEST" "[I") (.int 6)) (.int (6))) (by decide +kernel))
    | 7, _ => exact va_eqt (hs (.eq (.elem (.static "AheadPlanner" "HIGHEST" "[I") (.int 7)) (.int (10000))) (by decide +kernel))
    | 8, _ => exact va_eqt (hs (.eq (.elem (.static "AheadPlanner" "HIGHEST" "[I") (.int 8)) (.int (2))) (by decide +kernel))
    | 9, _ => exact va_eqt (hs (.eq (.elem (.static "AheadPlanner" "HIGHEST" "[I") (.int 9)) (.int (8))) (by decide +kernel))
    | j + 10, hj => omega
  have hZH : va_Z "AheadPlanner" "HIGHEST" "[I" (.ref tH) (fun q : Nat => s.heap.size ≤ q) s s.heap := va_Zref (hts (.laysStatic "AheadPlanner" "HIGHEST" "[I") (List.mem_of_getElem? (i := 346) (by decide +kernel))) (hz _ kw_56) evH hAn
  obtain ⟨tA, evA, hTA⟩ : ∃ t : Nat, (Term.static "AheadPlanner" "AT_FIRST" "[I").eval #[Value.ref b] s none [] s = some (.ref t) ∧ va_T .int t 10 (fun j => .int (atF j)) (fun q : Nat => s.heap.size ≤ q) s s.heap := by
    refine va_Tof (by decide) (hs (.arrayOf (.static "AheadPlanner" "AT_FIRST" "[I") .int) (by decide +kernel)) (va_eqt (hs (.eq (.length (.static "AheadPlanner" "AT_FIRST" "[I")) (.int 10)) (by decide +kernel))) (fun j hj => ?_) hAn
    match j, hj with
    | 0, _ => exact va_eqt (hs (.eq (.elem (.static "AheadPlanner" "AT_FIRST" "[I") (.int 0)) (.int (16))) (by decide +kernel))
    | 1, _ => exact va_eqt (hs (.eq (.elem (.static "AheadPlanner" "AT_FIRST" "[I") (.int 1)) (.int (2))) (by decide +kernel))
    | 2, _ => exact va_eqt (hs (.eq (.elem (.static "AheadPlanner" "AT_FIRST" "[I") (.int 2)) (.int (2))) (by decide +kernel))
    | 3, _ => exact va_eqt (hs (.eq (.elem (.static "AheadPlanner" "AT_FIRST" "[I") (.int 3)) (.int (8))) (by decide +kernel))
    | 4, _ => exact va_eqt (hs (.eq (.elem (.static "AheadPlanner" "AT_FIRST" "[I") (.int 4)) (.int (16))) (by decide +kernel))
    | 5, _ => exact va_eqt (hs (.eq (.elem (.static "AheadPlanner" "AT_FIRST" "[I") (.int 5)) (.int (30))) (by decide +kernel))
    | 6, _ => exact va_eqt (hs (.eq (.elem (.static "AheadPlanner" "AT_FIRST" "[I") (.int 6)) (.int (4))) (by decide +kernel))
    | 7, _ => exact va_eqt (hs (.eq (.elem (.static "AheadPlanner" "AT_FIRST" "[I") (.int 7)) (.int (10000))) (by decide +kernel))
    | 8, _ => exact va_eqt (hs (.eq (.elem (.static "AheadPlanner" "AT_FIRST" "[I") (.int 8)) (.int (0))) (by decide +kernel))
    | 9, _ => exact va_eqt (hs (.eq (.elem (.static "AheadPlanner" "AT_FIRST" "[I") (.int 9)) (.int (0))) (by decide +kernel))
    | j + 10, hj => omega
  have hZA : va_Z "AheadPlanner" "AT_FIRST" "[I" (.ref tA) (fun q : Nat => s.heap.size ≤ q) s s.heap := va_Zref (hts (.laysStatic "AheadPlanner" "AT_FIRST" "[I") (List.mem_of_getElem? (i := 99) (by decide +kernel))) (hz _ kw_56) evA hAn
  have nw0 : va_Nw (.fieldLinkNest RX2 19 "AheadPlanner" "AT_FIRST" "[I" RX7) s := va_Nw.of rfl (hts (.fieldLinkNest RX2 19 "AheadPlanner" "AT_FIRST" "[I" RX7) (List.mem_of_getElem? (i := 98) (by decide +kernel)))
  have nw1 : va_Nw (.methodLinkNest RX7 11 yX1_init RX7) s := va_Nw.of rfl (hts (.methodLinkNest RX7 11 yX1_init RX7) (List.mem_of_getElem? (i := 78) (by decide +kernel)))
  have nw2 : va_Nw (.methodLinkNest RX2 33 yX0_init RX7) s := va_Nw.of rfl (hts (.methodLinkNest RX2 33 yX0_init RX7) (List.mem_of_getElem? (i := 105) (by decide +kernel)))
  have nw3 : va_Nw (.methodLinkNest RX2 44 yX4_init RX7) s := va_Nw.of rfl (hts (.methodLinkNest RX2 44 yX4_init RX7) (List.mem_of_getElem? (i := 152) (by decide +kernel)))
  have nw4 : va_Nw (.methodLinkNest RX2 47 yX3_init RX7) s := va_Nw.of rfl (hts (.methodLinkNest RX2 47 yX3_init RX7) (List.mem_of_getElem? (i := 210) (by decide +kernel)))
  have nw5 : va_Nw (.methodLinkNest RX2 54 yX6_init RX7) s := va_Nw.of rfl (hts (.methodLinkNest RX2 54 yX6_init RX7) (List.mem_of_getElem? (i := 235) (by decide +kernel)))
  have nw6 : va_Nw (.methodLinkNest RX2 66 yX7_isTermValue RX7) s := va_Nw.of rfl (hts (.methodLinkNest RX2 66 yX7_isTermValue RX7) (List.mem_of_getElem? (i := 355) (by decide +kernel)))
  have B : zC (p, l, e, (room_1, 0, 0), s, m, #[Value.ref b], below, meth, c, (dC, dI), fun q : Nat => s.heap.size ≤ q) 4 (wdC cI cZ cS cD cE tL tH tA) cL_law RL ret room_1 :=
    ⟨hx, hb, hml, hown, hz, hK, fun _ h => h, hlocks, hr, ⟨rfl, Nat.zero_le _, Nat.zero_le _⟩, sfC_ok, ⟨⟨⟨hZL, hTL, hZH, hTH, nw6⟩, hZA, hTA⟩, nw0, nw1, nw2, nw3, nw4, nw5, hOS, hOD, hOE⟩⟩
  have B2 : zC (p, l, e, (room_1, 0, 0), s, m, #[Value.ref b], below, meth, c, (dC, dI), fun q : Nat => s.heap.size ≤ q) 4 (wdCR cI cZ) cL_law RL ret room_1 :=
    ⟨hx, hb, hml, hown, hz, hK.sub [0, 1] rfl, fun _ h => h, hlocks, hr, ⟨rfl, Nat.zero_le _, Nat.zero_le _⟩, sfCR_ok, trivial⟩
  have hbA : ¬ (fun q : Nat => s.heap.size ≤ q) b := Nat.not_le.mpr hbl
  suffices hw : zA (p, l, e, (room_1, 0, 0), s, m, #[Value.ref b], below, meth, c, (dC, dI), fun q : Nat => s.heap.size ≤ q) 4 (lw_Z below #[Value.ref b] s) 0 0 0 [(0, .ref b)] [] [] by
    have hl := lv_entry ([.ref b]) (n := 4) (Nat.le_of_ble_eq_true rfl)
    rw [lg_entry_eq]
    exact hw s.heap [] _ hl (fun k q h => by simp at h) ⟨fun i j p q h => by simp at h, fun k q h => by simp at h⟩ va_S.rf
  refine za_new B (ci := 7) (fs := [.null, .null, .null, .null, .null, .null, .null]) iX7 tyX7 tyX7_ok kw_68 kw_69 kw_56 rfl (by decide +kernel) (Nat.le_of_ble_eq_true rfl) (Nat.le_of_ble_eq_true rfl) dL_law_0 (fun q0 => ?_)
  refine za_dup B dL_law_3 rfl ?_
  refine za_callI B (k := 1) (n := 7) (N := 0) (st := [.ref q0, .ref q0]) (rest := [.ref q0]) (wr := []) (wc := [(q0, .inr (7, [.null, .null, .null, .null, .null, .null, .null]))]) (As := []) kw_70 kw_71 (show Cond.initialized yX7_init.cls ∈ zTb from kw_56) kt_X7_init ⟨by decide, by decide, by decide⟩ rfl dL_law_4 (cc_X7_init hdq q0) rfl rfl (Nat.le_of_ble_eq_true rfl) rfl rfl ⟨(Nat.le_of_ble_eq_true rfl), (Nat.le_of_ble_eq_true rfl)⟩ ⟨(Nat.le_of_ble_eq_true rfl), (Nat.le_of_ble_eq_true rfl)⟩ (fun f => ?_)
  refine za_ws (po_X7_init cI cZ cS cD cE dq q0 f) rfl ?_
  refine za_pick jsT (wfT (adT q0 f) cI cZ cS cD cE (tau0 dq)) (wT_start cI cZ cS cD cE dq q0 f) (by decide) ?_
  refine za_astore_n B [(1, .ref q0), (0, .ref b)] dL_law_7 rfl (Nat.le_of_ble_eq_true rfl) rfl ?_
  refine za_new B (ci := 8) (fs := [.int 0, .null, .null, .null, .null, .null, .null, .null, .null, .null, .null, .int 0, .int 0, .int 0, .null, .int 0, .int 0, .null, .int 0, .null, .null, .null, .int 0, .int 0]) iX8 tyX8 tyX8_ok kw_902 kw_903 kw_65 rfl (by decide +kernel) (Nat.le_of_ble_eq_true rfl) (Nat.le_of_ble_eq_true rfl) dL_law_8 (fun q1 => ?_)
  refine za_dup B dL_law_11 rfl ?_
  refine za_callI B2 (k := 116) (n := 88254) (N := 0) (st := [.ref q1, .ref q1]) (rest := [.ref q1]) (wr := (wfT (adT q0 f) cI cZ cS cD cE (tau0 dq))) (wc := [(q1, .inr (8, [.int 0, .null, .null, .null, .null, .null, .null, .null, .null, .null, .null, .int 0, .int 0, .int 0, .null, .int 0, .int 0, .null, .int 0, .null, .null, .null, .int 0, .int 0]))]) (As := []) kw_904 kw_905 (show Cond.initialized yX8_init.cls ∈ zTb from kw_65) kt_X8_init ⟨by decide, by decide, by decide⟩ rfl dL_law_12 (cc_X8_init hq q1) rfl rfl (Nat.le_of_ble_eq_true rfl) rfl rfl ⟨(Nat.le_of_ble_eq_true rfl), (Nat.le_of_ble_eq_true rfl)⟩ ⟨(Nat.le_of_ble_eq_true rfl), (Nat.le_of_ble_eq_true rfl)⟩ (fun g => ?_)
  refine za_astore_n B [(2, .ref q1), (1, .ref q0), (0, .ref b)] dL_law_15 rfl (Nat.le_of_ble_eq_true rfl) rfl ?_
  refine za_iconst B (0) dL_law_16 zc_iconst_0 ?_
  refine za_istore_n B [(3, .int 0), (2, .ref q1), (1, .ref q0), (0, .ref b)] dL_law_17 rfl (Nat.le_of_ble_eq_true rfl) rfl ?_
  exact za_loc [3, 2, 1, 0] _ rfl (law_loop (adr := adT q0 f) (adrR := adM q1 g) hS hm B rfl (fun _ h => h) hX hbl hbA ⟨(Nat.le_of_ble_eq_true rfl), (Nat.le_of_ble_eq_true rfl)⟩ (by omega) hL (L + 1) 0 (tau0 dq) q (Nat.zero_le _) (by omega) h0)
