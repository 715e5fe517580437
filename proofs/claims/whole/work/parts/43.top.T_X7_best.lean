theorem dX7_best_0 : decode cX7_best 0 = .ok (.iload_n 1, 1) := by decide +kernel
theorem dX7_best_1 : decode cX7_best 1 = .ok (.ifCond .lt 24, 3) := by decide +kernel
theorem dX7_best_4 : decode cX7_best 4 = .ok (.iload_n 1, 1) := by decide +kernel
theorem dX7_best_5 : decode cX7_best 5 = .ok (.bipush 10, 2) := by decide +kernel
theorem dX7_best_7 : decode cX7_best 7 = .ok (.if_icmp .ge 18, 3) := by decide +kernel
theorem dX7_best_10 : decode cX7_best 10 = .ok (.iload_n 1, 1) := by decide +kernel
theorem dX7_best_11 : decode cX7_best 11 = .ok (.bipush 7, 2) := by decide +kernel
theorem dX7_best_13 : decode cX7_best 13 = .ok (.if_icmp .eq 12, 3) := by decide +kernel
theorem dX7_best_16 : decode cX7_best 16 = .ok (.iload_n 2, 1) := by decide +kernel
theorem dX7_best_17 : decode cX7_best 17 = .ok (.ifCond .lt 8, 3) := by decide +kernel
theorem dX7_best_20 : decode cX7_best 20 = .ok (.iload_n 2, 1) := by decide +kernel
theorem dX7_best_21 : decode cX7_best 21 = .ok (.iconst 1, 1) := by decide +kernel
theorem dX7_best_22 : decode cX7_best 22 = .ok (.if_icmp .le 5, 3) := by decide +kernel
theorem dX7_best_25 : decode cX7_best 25 = .ok (.iconst (-1), 1) := by decide +kernel
theorem dX7_best_26 : decode cX7_best 26 = .ok (.ireturn, 1) := by decide +kernel
theorem dX7_best_27 : decode cX7_best 27 = .ok (.iconst (-1), 1) := by decide +kernel
theorem dX7_best_28 : decode cX7_best 28 = .ok (.istore_n 3, 1) := by decide +kernel
theorem dX7_best_29 : decode cX7_best 29 = .ok (.ldc 239, 2) := by decide +kernel
theorem dX7_best_31 : decode cX7_best 31 = .ok (.istore 4, 2) := by decide +kernel
theorem dX7_best_33 : decode cX7_best 33 = .ok (.getstatic 240, 3) := by decide +kernel
theorem dX7_best_36 : decode cX7_best 36 = .ok (.iload_n 1, 1) := by decide +kernel
theorem dX7_best_37 : decode cX7_best 37 = .ok (.iaload, 1) := by decide +kernel
theorem dX7_best_38 : decode cX7_best 38 = .ok (.istore 5, 2) := by decide +kernel
theorem dX7_best_40 : decode cX7_best 40 = .ok (.iload 5, 2) := by decide +kernel
theorem dX7_best_42 : decode cX7_best 42 = .ok (.getstatic 243, 3) := by decide +kernel
theorem dX7_best_45 : decode cX7_best 45 = .ok (.iload_n 1, 1) := by decide +kernel
theorem dX7_best_46 : decode cX7_best 46 = .ok (.iaload, 1) := by decide +kernel
theorem dX7_best_47 : decode cX7_best 47 = .ok (.if_icmp .gt 47, 3) := by decide +kernel
theorem dX7_best_50 : decode cX7_best 50 = .ok (.aload_n 0, 1) := by decide +kernel
theorem dX7_best_51 : decode cX7_best 51 = .ok (.iload_n 1, 1) := by decide +kernel
theorem dX7_best_52 : decode cX7_best 52 = .ok (.iload 5, 2) := by decide +kernel
theorem dX7_best_54 : decode cX7_best 54 = .ok (.iload_n 1, 1) := by decide +kernel
theorem dX7_best_55 : decode cX7_best 55 = .ok (.iload 5, 2) := by decide +kernel
theorem dX7_best_57 : decode cX7_best 57 = .ok (.invokevirtual 176, 3) := by decide +kernel
theorem dX7_best_60 : decode cX7_best 60 = .ok (.aload_n 0, 1) := by decide +kernel
theorem dX7_best_61 : decode cX7_best 61 = .ok (.getfield 30, 3) := by decide +kernel
theorem dX7_best_64 : decode cX7_best 64 = .ok (.getfield 79, 3) := by decide +kernel
theorem dX7_best_67 : decode cX7_best 67 = .ok (.iconst 2, 1) := by decide +kernel
theorem dX7_best_68 : decode cX7_best 68 = .ok (.iaload, 1) := by decide +kernel
theorem dX7_best_69 : decode cX7_best 69 = .ok (.iload 4, 2) := by decide +kernel
theorem dX7_best_71 : decode cX7_best 71 = .ok (.if_icmp .ge 17, 3) := by decide +kernel
theorem dX7_best_74 : decode cX7_best 74 = .ok (.aload_n 0, 1) := by decide +kernel
theorem dX7_best_75 : decode cX7_best 75 = .ok (.getfield 30, 3) := by decide +kernel
theorem dX7_best_78 : decode cX7_best 78 = .ok (.getfield 79, 3) := by decide +kernel
theorem dX7_best_81 : decode cX7_best 81 = .ok (.iconst 2, 1) := by decide +kernel
theorem dX7_best_82 : decode cX7_best 82 = .ok (.iaload, 1) := by decide +kernel
theorem dX7_best_83 : decode cX7_best 83 = .ok (.istore 4, 2) := by decide +kernel
theorem dX7_best_85 : decode cX7_best 85 = .ok (.iload 5, 2) := by decide +kernel
theorem dX7_best_87 : decode cX7_best 87 = .ok (.istore_n 3, 1) := by decide +kernel
theorem dX7_best_88 : decode cX7_best 88 = .ok (.iinc 5 1, 3) := by decide +kernel
theorem dX7_best_91 : decode cX7_best 91 = .ok (.goto (-51), 3) := by decide +kernel
theorem dX7_best_94 : decode cX7_best 94 = .ok (.iload_n 2, 1) := by decide +kernel
theorem dX7_best_95 : decode cX7_best 95 = .ok (.ifCond .ne 7, 3) := by decide +kernel
theorem dX7_best_98 : decode cX7_best 98 = .ok (.iload_n 3, 1) := by decide +kernel
theorem dX7_best_99 : decode cX7_best 99 = .ok (.goto 5, 3) := by decide +kernel
theorem dX7_best_102 : decode cX7_best 102 = .ok (.iload 4, 2) := by decide +kernel
theorem dX7_best_104 : decode cX7_best 104 = .ok (.ireturn, 1) := by decide +kernel
def mT_X7_best_104 (N : Nat) (σ : ST) (x1 : Int32) (x2 : Int32) (x3 : Int32) (x4 : Int32) (x5 : Int32) (k0 : Int32) : Option (Int32 × ST) :=
  some (k0, σ)
set_option maxRecDepth 20000 in
set_option maxHeartbeats 2000000 in
theorem tT_X7_best_104 {adr : Nat → Nat} {cI cZ cS cD cE : ClassId} {tL tH : Nat} {X : zX} {q : Int32 × ST} (B : zC X 6 (wdT adr cI cZ cS cD cE tL tH) cX7_best RX7 (some .int) { frames := 7, cells := 0, slots := 0, locals := 171 }) (N : Nat) (σ : ST) (x1 : Int32) (x2 : Int32) (x3 : Int32) (x4 : Int32) (x5 : Int32) (k0 : Int32) (hf : mT_X7_best_104 N σ x1 x2 x3 x4 x5 k0 = some q) : zJ X 6 (wdT adr cI cZ cS cD cE tL tH) (zi q) 104 [(0, .ref (adr 600)), (1, .int x1), (2, .int x2), (3, .int x3), (4, .int x4), (5, .int x5)] [.int k0] σ := by
  exact z_ireturn B dX7_best_104 hf
def mT_X7_best_88 (N : Nat) (hd40 : ST → Int32 → Int32 → Int32 → Int32 → Int32 → Option (Int32 × ST)) (σ : ST) (x1 : Int32) (x2 : Int32) (x3 : Int32) (x4 : Int32) (x5 : Int32) : Option (Int32 × ST) :=
  zLet (x5 + (1)) fun v88 =>
  hd40 σ x1 x2 x3 x4 v88
set_option maxRecDepth 20000 in
set_option maxHeartbeats 2000000 in
theorem tT_X7_best_88 {adr : Nat → Nat} {cI cZ cS cD cE : ClassId} {tL tH : Nat} {X : zX} {q : Int32 × ST} (B : zC X 6 (wdT adr cI cZ cS cD cE tL tH) cX7_best RX7 (some .int) { frames := 7, cells := 0, slots := 0, locals := 171 }) (N : Nat) (hd40 : ST → Int32 → Int32 → Int32 → Int32 → Int32 → Option (Int32 × ST)) (hh40 : ∀ (σ : ST) (x1 : Int32) (x2 : Int32) (x3 : Int32) (x4 : Int32) (x5 : Int32), hd40 σ x1 x2 x3 x4 x5 = some q → zJ X 6 (wdT adr cI cZ cS cD cE tL tH) (zi q) 40 [(0, .ref (adr 600)), (1, .int x1), (2, .int x2), (3, .int x3), (4, .int x4), (5, .int x5)] [] σ) (σ : ST) (x1 : Int32) (x2 : Int32) (x3 : Int32) (x4 : Int32) (x5 : Int32) (hf : mT_X7_best_88 N hd40 σ x1 x2 x3 x4 x5 = some q) : zJ X 6 (wdT adr cI cZ cS cD cE tL tH) (zi q) 88 [(0, .ref (adr 600)), (1, .int x1), (2, .int x2), (3, .int x3), (4, .int x4), (5, .int x5)] [] σ := by
  refine z_iinc B (1) 5 (fun v88 => [(5, .int v88), (0, .ref (adr 600)), (1, .int x1), (2, .int x2), (3, .int x3), (4, .int x4)]) dX7_best_88 hf zc_iconst_1 rfl (Nat.le_of_ble_eq_true rfl) (fun _ => rfl) (fun v88 hf => ?_)
  refine z_goto B 40 dX7_best_91 (by decide) ?_
  exact z_loc [1, 2, 3, 4, 5, 0] _ rfl (hh40 σ x1 x2 x3 x4 v88 hf)
def mT_X7_best_B40 (N : Nat) (hd40 : ST → Int32 → Int32 → Int32 → Int32 → Int32 → Option (Int32 × ST)) (σ : ST) (x1 : Int32) (x2 : Int32) (x3 : Int32) (x4 : Int32) (x5 : Int32) : Option (Int32 × ST) :=
  zGet highF 10 x1 fun v46 =>
  if (v46 : Int32) < x5 then
    if (x2 : Int32) = 0 then
      mT_X7_best_104 N σ x1 x2 x3 x4 x5 x3
    else
      mT_X7_best_104 N σ x1 x2 x3 x4 x5 x4
  else
    zCallu (mT_X7_replayWith N σ x1 x5 x1 x5) fun s57 =>
    zGet (s57 102) 34 (2) fun v68 =>
    if (x4 : Int32) ≤ v68 then
      mT_X7_best_88 N hd40 s57 x1 x2 x3 x4 x5
    else
      zGet (s57 102) 34 (2) fun v82 =>
      mT_X7_best_88 N hd40 s57 x1 x2 x5 v82 x5
def mT_X7_best_40 (N : Nat) : ST → Int32 → Int32 → Int32 → Int32 → Int32 → Option (Int32 × ST) := zIt (mT_X7_best_B40 N) (fun _ _ _ _ _ _ => none) N
set_option maxRecDepth 20000 in
set_option maxHeartbeats 2000000 in
theorem tT_X7_best_40 {adr : Nat → Nat} {cI cZ cS cD cE : ClassId} {tL tH : Nat} {X : zX} {q : Int32 × ST} (B : zC X 6 (wdT adr cI cZ cS cD cE tL tH) cX7_best RX7 (some .int) { frames := 7, cells := 0, slots := 0, locals := 171 }) (N : Nat) : ∀ (σ : ST) (x1 : Int32) (x2 : Int32) (x3 : Int32) (x4 : Int32) (x5 : Int32), mT_X7_best_40 N σ x1 x2 x3 x4 x5 = some q → zJ X 6 (wdT adr cI cZ cS cD cE tL tH) (zi q) 40 [(0, .ref (adr 600)), (1, .int x1), (2, .int x2), (3, .int x3), (4, .int x4), (5, .int x5)] [] σ := by
  refine zIt_ind (P := fun (hd : ST → Int32 → Int32 → Int32 → Int32 → Int32 → Option (Int32 × ST)) => ∀ (σ : ST) (x1 : Int32) (x2 : Int32) (x3 : Int32) (x4 : Int32) (x5 : Int32), hd σ x1 x2 x3 x4 x5 = some q → zJ X 6 (wdT adr cI cZ cS cD cE tL tH) (zi q) 40 [(0, .ref (adr 600)), (1, .int x1), (2, .int x2), (3, .int x3), (4, .int x4), (5, .int x5)] [] σ) (fun _ _ _ _ _ _ hf => by cases hf) (fun hd40 hh40 => ?_) N
  intro σ x1 x2 x3 x4 x5 hf
  refine z_iload B dX7_best_40 5 rfl ?_
  refine z_gets B (sfT_ZH B) kw_345 dX7_best_42 ?_
  refine z_iload_n B dX7_best_45 1 rfl rfl ?_
  refine z_sald B (sfT_TH B) dX7_best_46 hf (fun v46 hf => ?_)
  refine z_icmp_gt B 94 dX7_best_47 (by decide) hf (fun hf => ?_) (fun hf => ?_)
  · refine z_iload_n B dX7_best_94 2 rfl rfl ?_
    refine z_if_ne B 102 dX7_best_95 (by decide) hf (fun hf => ?_) (fun hf => ?_)
    · refine z_iload B dX7_best_102 4 rfl ?_
      exact tT_X7_best_104 B N σ x1 x2 x3 x4 x5 x4 hf
    · refine z_iload_n B dX7_best_98 3 rfl rfl ?_
      refine z_goto B 104 dX7_best_99 (by decide) ?_
      exact tT_X7_best_104 B N σ x1 x2 x3 x4 x5 x3 hf
  · refine z_aload_n B dX7_best_50 0 rfl rfl ?_
    refine z_iload_n B dX7_best_51 1 rfl rfl ?_
    refine z_iload B dX7_best_52 5 rfl ?_
    refine z_iload_n B dX7_best_54 1 rfl rfl ?_
    refine z_iload B dX7_best_55 5 rfl ?_
    refine z_callVu B (As := [.int x1, .int x5, .int x1, .int x5]) kcV_X7_176 dX7_best_57 hf (fun q hq => cT_X7_replayWith q hq) (wT_o_P (adr := adr) (cI := cI) (cZ := cZ) (cS := cS) (cD := cD) (cE := cE) (tL := tL) (tH := tH)) rfl rfl rfl rfl (Nat.le_of_ble_eq_true rfl) rfl rfl ⟨Nat.le_of_ble_eq_true rfl, Nat.le_of_ble_eq_true rfl⟩ (fun s57 hf => ?_)
    refine z_aload_n B dX7_best_60 0 rfl rfl ?_
    refine fT_g_P_paper B dX7_best_61 ?_
    refine fT_g_E1_counts B dX7_best_64 ?_
    refine z_iconst B (2) dX7_best_67 zc_iconst_2 ?_
    refine fT_l_E1_counts B dX7_best_68 hf (fun v68 hf => ?_)
    refine z_iload B dX7_best_69 4 rfl ?_
    refine z_icmp_ge B 88 dX7_best_71 (by decide) hf (fun hf => ?_) (fun hf => ?_)
    · exact tT_X7_best_88 B N hd40 hh40 s57 x1 x2 x3 x4 x5 hf
    · refine z_aload_n B dX7_best_74 0 rfl rfl ?_
      refine fT_g_P_paper B dX7_best_75 ?_
      refine fT_g_E1_counts B dX7_best_78 ?_
      refine z_iconst B (2) dX7_best_81 zc_iconst_2 ?_
      refine fT_l_E1_counts B dX7_best_82 hf (fun v82 hf => ?_)
      refine z_istore B [(4, .int v82), (0, .ref (adr 600)), (1, .int x1), (2, .int x2), (3, .int x3), (5, .int x5)] dX7_best_83 (Nat.le_of_ble_eq_true rfl) rfl ?_
      refine z_iload B dX7_best_85 5 rfl ?_
      refine z_istore_n B [(3, .int x5), (4, .int v82), (0, .ref (adr 600)), (1, .int x1), (2, .int x2), (5, .int x5)] dX7_best_87 rfl (Nat.le_of_ble_eq_true rfl) rfl ?_
      exact z_loc [2, 3, 4, 0, 1, 5] _ rfl (tT_X7_best_88 B N hd40 hh40 s57 x1 x2 x5 v82 x5 hf)
def mT_X7_best_25 (N : Nat) (σ : ST) (x1 : Int32) (x2 : Int32) : Option (Int32 × ST) :=
  some ((-1), σ)
set_option maxRecDepth 20000 in
set_option maxHeartbeats 2000000 in
theorem tT_X7_best_25 {adr : Nat → Nat} {cI cZ cS cD cE : ClassId} {tL tH : Nat} {X : zX} {q : Int32 × ST} (B : zC X 6 (wdT adr cI cZ cS cD cE tL tH) cX7_best RX7 (some .int) { frames := 7, cells := 0, slots := 0, locals := 171 }) (N : Nat) (σ : ST) (x1 : Int32) (x2 : Int32) (hf : mT_X7_best_25 N σ x1 x2 = some q) : zJ X 6 (wdT adr cI cZ cS cD cE tL tH) (zi q) 25 [(0, .ref (adr 600)), (1, .int x1), (2, .int x2)] [] σ := by
  refine z_iconst B (-1) dX7_best_25 zc_iconst_m1 ?_
  exact z_ireturn B dX7_best_26 hf
def mT_X7_best (N : Nat) (σ : ST) (x1 : Int32) (x2 : Int32) : Option (Int32 × ST) :=
  if (x1 : Int32) < 0 then
    mT_X7_best_25 N σ x1 x2
  else
    if ((10) : Int32) ≤ x1 then
      mT_X7_best_25 N σ x1 x2
    else
      if (x1 : Int32) = (7) then
        mT_X7_best_25 N σ x1 x2
      else
        if (x2 : Int32) < 0 then
          mT_X7_best_25 N σ x1 x2
        else
          if (x2 : Int32) ≤ (1) then
            zGet lowF 10 x1 fun v37 =>
            mT_X7_best_40 N σ x1 x2 (-1) (2147483647) v37
          else
            mT_X7_best_25 N σ x1 x2
set_option maxRecDepth 20000 in
set_option maxHeartbeats 2000000 in
theorem cT_X7_best {adr : Nat → Nat} {cI cZ cS cD cE : ClassId} {tL tH : Nat} {l : Launch} {D : va_G} {N : Nat} {σ : ST} {x1 : Int32} {x2 : Int32} (q : Int32 × ST) (hf : mT_X7_best N σ x1 x2 = some q) : zM l D (wdT adr cI cZ cS cD cE tL tH) yX7_best cX7_best 6 (some .int) ({ frames := 7, cells := 0, slots := 0, locals := 171 }) [.ref (adr 600), .int x1, .int x2] σ (zi q) := by
  refine zM_of sfE_ok rfl (Nat.le_of_ble_eq_true rfl) [(0, .ref (adr 600)), (1, .int x1), (2, .int x2)] rfl (fun X hX1 hX2 B => ?_)
  have B : zC X 6 (wdT adr cI cZ cS cD cE tL tH) cX7_best RX7 (some .int) { frames := 7, cells := 0, slots := 0, locals := 171 } := B
  refine z_iload_n B dX7_best_0 1 rfl rfl ?_
  refine z_if_lt B 25 dX7_best_1 (by decide) hf (fun hf => ?_) (fun hf => ?_)
  · exact tT_X7_best_25 B N σ x1 x2 hf
  · refine z_iload_n B dX7_best_4 1 rfl rfl ?_
    refine z_bipush B (10) dX7_best_5 zc_bipush_10 ?_
    refine z_icmp_ge B 25 dX7_best_7 (by decide) hf (fun hf => ?_) (fun hf => ?_)
    · exact tT_X7_best_25 B N σ x1 x2 hf
    · refine z_iload_n B dX7_best_10 1 rfl rfl ?_
      refine z_bipush B (7) dX7_best_11 zc_bipush_7 ?_
      refine z_icmp_eq B 25 dX7_best_13 (by decide) hf (fun hf => ?_) (fun hf => ?_)
      · exact tT_X7_best_25 B N σ x1 x2 hf
      · refine z_iload_n B dX7_best_16 2 rfl rfl ?_
        refine z_if_lt B 25 dX7_best_17 (by decide) hf (fun hf => ?_) (fun hf => ?_)
        · exact tT_X7_best_25 B N σ x1 x2 hf
        · refine z_iload_n B dX7_best_20 2 rfl rfl ?_
          refine z_iconst B (1) dX7_best_21 zc_iconst_1 ?_
          refine z_icmp_le B 27 dX7_best_22 (by decide) hf (fun hf => ?_) (fun hf => ?_)
          · refine z_iconst B (-1) dX7_best_27 zc_iconst_m1 ?_
            refine z_istore_n B [(3, .int (-1)), (0, .ref (adr 600)), (1, .int x1), (2, .int x2)] dX7_best_28 rfl (Nat.le_of_ble_eq_true rfl) rfl ?_
            refine z_ldc B kw_822 dX7_best_29 ?_
            refine z_istore B [(4, .int (2147483647)), (3, .int (-1)), (0, .ref (adr 600)), (1, .int x1), (2, .int x2)] dX7_best_31 (Nat.le_of_ble_eq_true rfl) rfl ?_
            refine z_gets B (sfT_ZL B) kw_343 dX7_best_33 ?_
            refine z_iload_n B dX7_best_36 3 rfl rfl ?_
            refine z_sald B (sfT_TL B) dX7_best_37 hf (fun v37 hf => ?_)
            refine z_istore B [(5, .int v37), (4, .int (2147483647)), (3, .int (-1)), (0, .ref (adr 600)), (1, .int x1), (2, .int x2)] dX7_best_38 (Nat.le_of_ble_eq_true rfl) rfl ?_
            exact z_loc [3, 4, 5, 2, 1, 0] _ rfl (tT_X7_best_40 B N σ x1 x2 (-1) (2147483647) v37 hf)
          · exact tT_X7_best_25 B N σ x1 x2 hf
theorem dX7_misses_0 : decode cX7_misses 0 = .ok (.iload_n 1, 1) := by decide +kernel
theorem dX7_misses_1 : decode cX7_misses 1 = .ok (.iconst 1, 1) := by decide +kernel
theorem dX7_misses_2 : decode cX7_misses 2 = .ok (.if_icmp .lt 9, 3) := by decide +kernel
theorem dX7_misses_5 : decode cX7_misses 5 = .ok (.iload_n 1, 1) := by decide +kernel
theorem dX7_misses_6 : decode cX7_misses 6 = .ok (.bipush 64, 2) := by decide +kernel
theorem dX7_misses_8 : decode cX7_misses 8 = .ok (.if_icmp .le 5, 3) := by decide +kernel
theorem dX7_misses_11 : decode cX7_misses 11 = .ok (.iconst (-1), 1) := by decide +kernel
theorem dX7_misses_12 : decode cX7_misses 12 = .ok (.ireturn, 1) := by decide +kernel
theorem dX7_misses_13 : decode cX7_misses 13 = .ok (.iload_n 2, 1) := by decide +kernel
theorem dX7_misses_14 : decode cX7_misses 14 = .ok (.lookupswitch 44 #[(0, 26), (1, 35)], 26) := by decide +kernel
theorem dX7_misses_40 : decode cX7_misses 40 = .ok (.aload_n 0, 1) := by decide +kernel
theorem dX7_misses_41 : decode cX7_misses 41 = .ok (.getfield 42, 3) := by decide +kernel
theorem dX7_misses_44 : decode cX7_misses 44 = .ok (.iload_n 1, 1) := by decide +kernel
theorem dX7_misses_45 : decode cX7_misses 45 = .ok (.invokevirtual 173, 3) := by decide +kernel
theorem dX7_misses_48 : decode cX7_misses 48 = .ok (.ireturn, 1) := by decide +kernel
theorem dX7_misses_49 : decode cX7_misses 49 = .ok (.aload_n 0, 1) := by decide +kernel
theorem dX7_misses_50 : decode cX7_misses 50 = .ok (.getfield 42, 3) := by decide +kernel
theorem dX7_misses_53 : decode cX7_misses 53 = .ok (.iload_n 1, 1) := by decide +kernel
theorem dX7_misses_54 : decode cX7_misses 54 = .ok (.invokevirtual 246, 3) := by decide +kernel
theorem dX7_misses_57 : decode cX7_misses 57 = .ok (.ireturn, 1) := by decide +kernel
theorem dX7_misses_58 : decode cX7_misses 58 = .ok (.iconst (-1), 1) := by decide +kernel
theorem dX7_misses_59 : decode cX7_misses 59 = .ok (.ireturn, 1) := by decide +kernel
def mT_X7_misses_11 (N : Nat) (σ : ST) (x1 : Int32) (x2 : Int32) : Option (Int32 × ST) :=
  some ((-1), σ)
set_option maxRecDepth 20000 in
set_option maxHeartbeats 2000000 in
theorem tT_X7_misses_11 {adr : Nat → Nat} {cI cZ cS cD cE : ClassId} {tL tH : Nat} {X : zX} {q : Int32 × ST} (B : zC X 3 (wdT adr cI cZ cS cD cE tL tH) cX7_misses RX7 (some .int) { frames := 5, cells := 0, slots := 0, locals := 113 }) (N : Nat) (σ : ST) (x1 : Int32) (x2 : Int32) (hf : mT_X7_misses_11 N σ x1 x2 = some q) : zJ X 3 (wdT adr cI cZ cS cD cE tL tH) (zi q) 11 [(0, .ref (adr 600)), (1, .int x1), (2, .int x2)] [] σ := by
  refine z_iconst B (-1) dX7_misses_11 zc_iconst_m1 ?_
  exact z_ireturn B dX7_misses_12 hf
def mT_X7_misses (N : Nat) (σ : ST) (x1 : Int32) (x2 : Int32) : Option (Int32 × ST) :=
  if (x1 : Int32) < (1) then
    mT_X7_misses_11 N σ x1 x2
  else
    if (x1 : Int32) ≤ (64) then
      if (x2 : Int32) = (0) then
        zCallL (mU_X5_missesOfLatest N (pU σ) x1) (iU σ) fun v45 s45 =>
        some (v45, s45)
      else
      if (x2 : Int32) = (1) then
        zCallL (mU_X5_missesAtBest N (pU σ) x1) (iU σ) fun v54 s54 =>
        some (v54, s54)
      else
        some ((-1), σ)
    else
      mT_X7_misses_11 N σ x1 x2
set_option maxRecDepth 20000 in
set_option maxHeartbeats 2000000 in
theorem cT_X7_misses {adr : Nat → Nat} {cI cZ cS cD cE : ClassId} {tL tH : Nat} {l : Launch} {D : va_G} {N : Nat} {σ : ST} {x1 : Int32} {x2 : Int32} (q : Int32 × ST) (hf : mT_X7_misses N σ x1 x2 = some q) : zM l D (wdT adr cI cZ cS cD cE tL tH) yX7_misses cX7_misses 3 (some .int) ({ frames := 5, cells := 0, slots := 0, locals := 113 }) [.ref (adr 600), .int x1, .int x2] σ (zi q) := by
  refine zM_of sfE_ok rfl (Nat.le_of_ble_eq_true rfl) [(0, .ref (adr 600)), (1, .int x1), (2, .int x2)] rfl (fun X hX1 hX2 B => ?_)
  have B : zC X 3 (wdT adr cI cZ cS cD cE tL tH) cX7_misses RX7 (some .int) { frames := 5, cells := 0, slots := 0, locals := 113 } := B
  refine z_iload_n B dX7_misses_0 1 rfl rfl ?_
  refine z_iconst B (1) dX7_misses_1 zc_iconst_1 ?_
  refine z_icmp_lt B 11 dX7_misses_2 (by decide) hf (fun hf => ?_) (fun hf => ?_)
  · exact tT_X7_misses_11 B N σ x1 x2 hf
  · refine z_iload_n B dX7_misses_5 1 rfl rfl ?_
    refine z_bipush B (64) dX7_misses_6 zc_bipush_64 ?_
    refine z_icmp_le B 13 dX7_misses_8 (by decide) hf (fun hf => ?_) (fun hf => ?_)
    · refine z_iload_n B dX7_misses_13 2 rfl rfl ?_
      by_cases h14_0 : x2 = (0)
      · replace hf := zIfp h14_0 hf
        refine z_lookup B (off := 26) 40 dX7_misses_14 (by decide) (by rw [h14_0]; decide) (by decide) ?_
        refine z_aload_n B dX7_misses_40 0 rfl rfl ?_
        refine fT_g_P_study B dX7_misses_41 ?_
        refine z_iload_n B dX7_misses_44 1 rfl rfl ?_
        refine z_callVLi B (lU (adr := adr) (cI := cI) (cZ := cZ) (cS := cS) (cD := cD) (cE := cE) (tL := tL) (tH := tH)) (As := [.int x1]) kcV_X7_173 dX7_misses_45 hf (fun q hq => cU_X5_missesOfLatest q hq) wU_o_U rfl rfl rfl rfl (Nat.le_of_ble_eq_true rfl) rfl rfl ⟨Nat.le_of_ble_eq_true rfl, Nat.le_of_ble_eq_true rfl⟩ (fun v45 s45 hf => ?_)
        exact z_ireturn B dX7_misses_48 hf
      replace hf := zIfn h14_0 hf
      by_cases h14_1 : x2 = (1)
      · replace hf := zIfp h14_1 hf
        refine z_lookup B (off := 35) 49 dX7_misses_14 (by decide) (by rw [h14_1]; decide) (by decide) ?_
        refine z_aload_n B dX7_misses_49 0 rfl rfl ?_
        refine fT_g_P_study B dX7_misses_50 ?_
        refine z_iload_n B dX7_misses_53 1 rfl rfl ?_
        refine z_callVLi B (lU (adr := adr) (cI := cI) (cZ := cZ) (cS := cS) (cD := cD) (cE := cE) (tL := tL) (tH := tH)) (As := [.int x1]) kcV_X7_246 dX7_misses_54 hf (fun q hq => cU_X5_missesAtBest q hq) wU_o_U rfl rfl rfl rfl (Nat.le_of_ble_eq_true rfl) rfl rfl ⟨Nat.le_of_ble_eq_true rfl, Nat.le_of_ble_eq_true rfl⟩ (fun v54 s54 hf => ?_)
        exact z_ireturn B dX7_misses_57 hf
      replace hf := zIfn h14_1 hf
      have ho14 : Op.lookupswitch.offset [(0, 26), (1, 35)] 44 x2.toInt = 44 := by
        have e0 : x2.toInt ≠ 0 := z_ne h14_0 (by decide)
        have e1 : x2.toInt ≠ 1 := z_ne h14_1 (by decide)
        have f0 : ¬ (0 = x2.toInt) := fun h => e0 h.symm ; have f1 : ¬ (1 = x2.toInt) := fun h => e1 h.symm
        simp [Op.lookupswitch.offset, e0, e1, f0, f1]
      refine z_lookup B (off := 44) 58 dX7_misses_14 (by decide) ho14 (by decide) ?_
      refine z_iconst B (-1) dX7_misses_58 zc_iconst_m1 ?_
      exact z_ireturn B dX7_misses_59 hf
    · exact tT_X7_misses_11 B N σ x1 x2 hf
theorem dX7_gain_0 : decode cX7_gain 0 = .ok (.iload_n 1, 1) := by decide +kernel
theorem dX7_gain_1 : decode cX7_gain 1 = .ok (.ifCond .ne 53, 3) := by decide +kernel
theorem dX7_gain_4 : decode cX7_gain 4 = .ok (.aload_n 0, 1) := by decide +kernel
theorem dX7_gain_5 : decode cX7_gain 5 = .ok (.getfield 42, 3) := by decide +kernel
theorem dX7_gain_8 : decode cX7_gain 8 = .ok (.aload_n 0, 1) := by decide +kernel
theorem dX7_gain_9 : decode cX7_gain 9 = .ok (.getfield 26, 3) := by decide +kernel
theorem dX7_gain_12 : decode cX7_gain 12 = .ok (.iconst 0, 1) := by decide +kernel
theorem dX7_gain_13 : decode cX7_gain 13 = .ok (.invokevirtual 62, 3) := by decide +kernel
theorem dX7_gain_16 : decode cX7_gain 16 = .ok (.invokevirtual 173, 3) := by decide +kernel
theorem dX7_gain_19 : decode cX7_gain 19 = .ok (.istore_n 2, 1) := by decide +kernel
theorem dX7_gain_20 : decode cX7_gain 20 = .ok (.aload_n 0, 1) := by decide +kernel
theorem dX7_gain_21 : decode cX7_gain 21 = .ok (.iconst 0, 1) := by decide +kernel
theorem dX7_gain_22 : decode cX7_gain 22 = .ok (.aload_n 0, 1) := by decide +kernel
theorem dX7_gain_23 : decode cX7_gain 23 = .ok (.getfield 26, 3) := by decide +kernel
theorem dX7_gain_26 : decode cX7_gain 26 = .ok (.iconst 0, 1) := by decide +kernel
theorem dX7_gain_27 : decode cX7_gain 27 = .ok (.invokevirtual 62, 3) := by decide +kernel
theorem dX7_gain_30 : decode cX7_gain 30 = .ok (.iconst 0, 1) := by decide +kernel
theorem dX7_gain_31 : decode cX7_gain 31 = .ok (.aload_n 0, 1) := by decide +kernel
theorem dX7_gain_32 : decode cX7_gain 32 = .ok (.getfield 26, 3) := by decide +kernel
theorem dX7_gain_35 : decode cX7_gain 35 = .ok (.iconst 0, 1) := by decide +kernel
theorem dX7_gain_36 : decode cX7_gain 36 = .ok (.invokevirtual 62, 3) := by decide +kernel
theorem dX7_gain_39 : decode cX7_gain 39 = .ok (.invokevirtual 176, 3) := by decide +kernel
theorem dX7_gain_42 : decode cX7_gain 42 = .ok (.iload_n 2, 1) := by decide +kernel
theorem dX7_gain_43 : decode cX7_gain 43 = .ok (.aload_n 0, 1) := by decide +kernel
theorem dX7_gain_44 : decode cX7_gain 44 = .ok (.getfield 30, 3) := by decide +kernel
theorem dX7_gain_47 : decode cX7_gain 47 = .ok (.getfield 79, 3) := by decide +kernel
theorem dX7_gain_50 : decode cX7_gain 50 = .ok (.iconst 2, 1) := by decide +kernel
theorem dX7_gain_51 : decode cX7_gain 51 = .ok (.iaload, 1) := by decide +kernel
theorem dX7_gain_52 : decode cX7_gain 52 = .ok (.isub, 1) := by decide +kernel
theorem dX7_gain_53 : decode cX7_gain 53 = .ok (.ireturn, 1) := by decide +kernel
theorem dX7_gain_54 : decode cX7_gain 54 = .ok (.iload_n 1, 1) := by decide +kernel
theorem dX7_gain_55 : decode cX7_gain 55 = .ok (.iconst 1, 1) := by decide +kernel
theorem dX7_gain_56 : decode cX7_gain 56 = .ok (.if_icmp .eq 11, 3) := by decide +kernel
theorem dX7_gain_59 : decode cX7_gain 59 = .ok (.iload_n 1, 1) := by decide +kernel
theorem dX7_gain_60 : decode cX7_gain 60 = .ok (.iconst 2, 1) := by decide +kernel
theorem dX7_gain_61 : decode cX7_gain 61 = .ok (.if_icmp .eq 6, 3) := by decide +kernel
theorem dX7_gain_64 : decode cX7_gain 64 = .ok (.ldc 159, 2) := by decide +kernel
theorem dX7_gain_66 : decode cX7_gain 66 = .ok (.ireturn, 1) := by decide +kernel
theorem dX7_gain_67 : decode cX7_gain 67 = .ok (.aload_n 0, 1) := by decide +kernel
theorem dX7_gain_68 : decode cX7_gain 68 = .ok (.getfield 26, 3) := by decide +kernel
theorem dX7_gain_71 : decode cX7_gain 71 = .ok (.getfield 79, 3) := by decide +kernel
theorem dX7_gain_74 : decode cX7_gain 74 = .ok (.iconst 5, 1) := by decide +kernel
theorem dX7_gain_75 : decode cX7_gain 75 = .ok (.iaload, 1) := by decide +kernel
theorem dX7_gain_76 : decode cX7_gain 76 = .ok (.istore_n 2, 1) := by decide +kernel
theorem dX7_gain_77 : decode cX7_gain 77 = .ok (.iload_n 2, 1) := by decide +kernel
theorem dX7_gain_78 : decode cX7_gain 78 = .ok (.ifCond .ne 5, 3) := by decide +kernel
theorem dX7_gain_81 : decode cX7_gain 81 = .ok (.iconst (-1), 1) := by decide +kernel
theorem dX7_gain_82 : decode cX7_gain 82 = .ok (.ireturn, 1) := by decide +kernel
theorem dX7_gain_83 : decode cX7_gain 83 = .ok (.iload_n 1, 1) := by decide +kernel
theorem dX7_gain_84 : decode cX7_gain 84 = .ok (.iconst 1, 1) := by decide +kernel
theorem dX7_gain_85 : decode cX7_gain 85 = .ok (.if_icmp .ne 15, 3) := by decide +kernel
theorem dX7_gain_88 : decode cX7_gain 88 = .ok (.aload_n 0, 1) := by decide +kernel
theorem dX7_gain_89 : decode cX7_gain 89 = .ok (.getfield 26, 3) := by decide +kernel
theorem dX7_gain_92 : decode cX7_gain 92 = .ok (.getfield 79, 3) := by decide +kernel
theorem dX7_gain_95 : decode cX7_gain 95 = .ok (.iconst 4, 1) := by decide +kernel
theorem dX7_gain_96 : decode cX7_gain 96 = .ok (.iaload, 1) := by decide +kernel
theorem dX7_gain_97 : decode cX7_gain 97 = .ok (.goto 13, 3) := by decide +kernel
theorem dX7_gain_100 : decode cX7_gain 100 = .ok (.aload_n 0, 1) := by decide +kernel
theorem dX7_gain_101 : decode cX7_gain 101 = .ok (.getfield 26, 3) := by decide +kernel
theorem dX7_gain_104 : decode cX7_gain 104 = .ok (.getfield 79, 3) := by decide +kernel
theorem dX7_gain_107 : decode cX7_gain 107 = .ok (.bipush 6, 2) := by decide +kernel
theorem dX7_gain_109 : decode cX7_gain 109 = .ok (.iaload, 1) := by decide +kernel
theorem dX7_gain_110 : decode cX7_gain 110 = .ok (.bipush 100, 2) := by decide +kernel
theorem dX7_gain_112 : decode cX7_gain 112 = .ok (.imul, 1) := by decide +kernel
theorem dX7_gain_113 : decode cX7_gain 113 = .ok (.iload_n 2, 1) := by decide +kernel
theorem dX7_gain_114 : decode cX7_gain 114 = .ok (.idiv, 1) := by decide +kernel
theorem dX7_gain_115 : decode cX7_gain 115 = .ok (.ireturn, 1) := by decide +kernel
def mT_X7_gain_110 (N : Nat) (σ : ST) (x1 : Int32) (x2 : Int32) (k0 : Int32) : Option (Int32 × ST) :=
  zLet ((k0 : Int32) * (100)) fun v112 =>
  zDiv v112 x2 fun v114 =>
  some (v114, σ)
set_option maxRecDepth 20000 in
set_option maxHeartbeats 2000000 in
theorem tT_X7_gain_110 {adr : Nat → Nat} {cI cZ cS cD cE : ClassId} {tL tH : Nat} {X : zX} {q : Int32 × ST} (B : zC X 3 (wdT adr cI cZ cS cD cE tL tH) cX7_gain RX7 (some .int) { frames := 7, cells := 0, slots := 0, locals := 171 }) (N : Nat) (σ : ST) (x1 : Int32) (x2 : Int32) (k0 : Int32) (hf : mT_X7_gain_110 N σ x1 x2 k0 = some q) : zJ X 3 (wdT adr cI cZ cS cD cE tL tH) (zi q) 110 [(0, .ref (adr 600)), (1, .int x1), (2, .int x2)] [.int k0] σ := by
  refine z_bipush B (100) dX7_gain_110 zc_bipush_100 ?_
  refine z_imul B dX7_gain_112 hf (fun v112 hf => ?_)
  refine z_iload_n B dX7_gain_113 2 rfl rfl ?_
  refine z_idiv B dX7_gain_114 hf (fun v114 hf => ?_)
  exact z_ireturn B dX7_gain_115 hf
def mT_X7_gain_67 (N : Nat) (σ : ST) (x1 : Int32) : Option (Int32 × ST) :=
  zGet (σ 2) 34 (5) fun v75 =>
  if (v75 : Int32) = 0 then
    some ((-1), σ)
  else
    if (x1 : Int32) = (1) then
      zGet (σ 2) 34 (4) fun v96 =>
      mT_X7_gain_110 N σ x1 v75 v96
    else
      zGet (σ 2) 34 (6) fun v109 =>
      mT_X7_gain_110 N σ x1 v75 v109
set_option maxRecDepth 20000 in
set_option maxHeartbeats 2000000 in
theorem tT_X7_gain_67 {adr : Nat → Nat} {cI cZ cS cD cE : ClassId} {tL tH : Nat} {X : zX} {q : Int32 × ST} (B : zC X 3 (wdT adr cI cZ cS cD cE tL tH) cX7_gain RX7 (some .int) { frames := 7, cells := 0, slots := 0, locals := 171 }) (N : Nat) (σ : ST) (x1 : Int32) (hf : mT_X7_gain_67 N σ x1 = some q) : zJ X 3 (wdT adr cI cZ cS cD cE tL tH) (zi q) 67 [(0, .ref (adr 600)), (1, .int x1)] [] σ := by
  refine z_aload_n B dX7_gain_67 0 rfl rfl ?_
  refine fT_g_P_now B dX7_gain_68 ?_
  refine fT_g_E0_counts B dX7_gain_71 ?_
  refine z_iconst B (5) dX7_gain_74 zc_iconst_5 ?_
  refine fT_l_E0_counts B dX7_gain_75 hf (fun v75 hf => ?_)
  refine z_istore_n B [(2, .int v75), (0, .ref (adr 600)), (1, .int x1)] dX7_gain_76 rfl (Nat.le_of_ble_eq_true rfl) rfl ?_
  refine z_iload_n B dX7_gain_77 0 rfl rfl ?_
  refine z_if_ne B 83 dX7_gain_78 (by decide) hf (fun hf => ?_) (fun hf => ?_)
  · refine z_iload_n B dX7_gain_83 2 rfl rfl ?_
    refine z_iconst B (1) dX7_gain_84 zc_iconst_1 ?_
    refine z_icmp_ne B 100 dX7_gain_85 (by decide) hf (fun hf => ?_) (fun hf => ?_)
    · refine z_aload_n B dX7_gain_100 1 rfl rfl ?_
      refine fT_g_P_now B dX7_gain_101 ?_
      refine fT_g_E0_counts B dX7_gain_104 ?_
      refine z_bipush B (6) dX7_gain_107 zc_bipush_6 ?_
      refine fT_l_E0_counts B dX7_gain_109 hf (fun v109 hf => ?_)
      exact z_loc [1, 2, 0] _ rfl (tT_X7_gain_110 B N σ x1 v75 v109 hf)
    · refine z_aload_n B dX7_gain_88 1 rfl rfl ?_
      refine fT_g_P_now B dX7_gain_89 ?_
      refine fT_g_E0_counts B dX7_gain_92 ?_
      refine z_iconst B (4) dX7_gain_95 zc_iconst_4 ?_
      refine fT_l_E0_counts B dX7_gain_96 hf (fun v96 hf => ?_)
      refine z_goto B 110 dX7_gain_97 (by decide) ?_
      exact z_loc [1, 2, 0] _ rfl (tT_X7_gain_110 B N σ x1 v75 v96 hf)
  · refine z_iconst B (-1) dX7_gain_81 zc_iconst_m1 ?_
    exact z_ireturn B dX7_gain_82 hf
def mT_X7_gain (N : Nat) (σ : ST) (x1 : Int32) : Option (Int32 × ST) :=
  if (x1 : Int32) = 0 then
    zCallL (mE_X2_term N ((pE 0 0) σ) (0)) ((iE 0 0) σ) fun v13 s13 =>
    zCallL (mU_X5_missesOfLatest N (pU s13) v13) (iU s13) fun v16 s16 =>
    zCallL (mE_X2_term N ((pE 0 0) s16) (0)) ((iE 0 0) s16) fun v27 s27 =>
    zCallL (mE_X2_term N ((pE 0 0) s27) (0)) ((iE 0 0) s27) fun v36 s36 =>
    zCallu (mT_X7_replayWith N s36 (0) v27 (0) v36) fun s39 =>
    zGet (s39 102) 34 (2) fun v51 =>
    zLet ((v16 : Int32) - v51) fun v52 =>
    some (v52, s39)
  else
    if (x1 : Int32) = (1) then
      mT_X7_gain_67 N σ x1
    else
      if (x1 : Int32) = (2) then
        mT_X7_gain_67 N σ x1
      else
        some ((-2147483648), σ)
set_option maxRecDepth 20000 in
set_option maxHeartbeats 2000000 in
theorem cT_X7_gain {adr : Nat → Nat} {cI cZ cS cD cE : ClassId} {tL tH : Nat} {l : Launch} {D : va_G} {N : Nat} {σ : ST} {x1 : Int32} (q : Int32 × ST) (hf : mT_X7_gain N σ x1 = some q) : zM l D (wdT adr cI cZ cS cD cE tL tH) yX7_gain cX7_gain 3 (some .int) ({ frames := 7, cells := 0, slots := 0, locals := 171 }) [.ref (adr 600), .int x1] σ (zi q) := by
  refine zM_of sfE_ok rfl (Nat.le_of_ble_eq_true rfl) [(0, .ref (adr 600)), (1, .int x1)] rfl (fun X hX1 hX2 B => ?_)
  have B : zC X 3 (wdT adr cI cZ cS cD cE tL tH) cX7_gain RX7 (some .int) { frames := 7, cells := 0, slots := 0, locals := 171 } := B
  refine z_iload_n B dX7_gain_0 1 rfl rfl ?_
  refine z_if_ne B 54 dX7_gain_1 (by decide) hf (fun hf => ?_) (fun hf => ?_)
  · refine z_iload_n B dX7_gain_54 1 rfl rfl ?_
    refine z_iconst B (1) dX7_gain_55 zc_iconst_1 ?_
    refine z_icmp_eq B 67 dX7_gain_56 (by decide) hf (fun hf => ?_) (fun hf => ?_)
    · exact tT_X7_gain_67 B N σ x1 hf
    · refine z_iload_n B dX7_gain_59 1 rfl rfl ?_
      refine z_iconst B (2) dX7_gain_60 zc_iconst_2 ?_
      refine z_icmp_eq B 67 dX7_gain_61 (by decide) hf (fun hf => ?_) (fun hf => ?_)
      · exact tT_X7_gain_67 B N σ x1 hf
      · refine z_ldc B kw_658 dX7_gain_64 ?_
        exact z_ireturn B dX7_gain_66 hf
  · refine z_aload_n B dX7_gain_4 0 rfl rfl ?_
    refine fT_g_P_study B dX7_gain_5 ?_
    refine z_aload_n B dX7_gain_8 0 rfl rfl ?_
    refine fT_g_P_now B dX7_gain_9 ?_
    refine z_iconst B (0) dX7_gain_12 zc_iconst_0 ?_
    refine z_callVLi B (lE0 (adr := adr) (cI := cI) (cZ := cZ) (cS := cS) (cD := cD) (cE := cE) (tL := tL) (tH := tH)) (As := [.int (0)]) kcV_X7_62 dX7_gain_13 hf (fun q hq => cE_X2_term q hq) wE_o_E rfl rfl rfl rfl (Nat.le_of_ble_eq_true rfl) rfl rfl ⟨Nat.le_of_ble_eq_true rfl, Nat.le_of_ble_eq_true rfl⟩ (fun v13 s13 hf => ?_)
    refine z_callVLi B (lU (adr := adr) (cI := cI) (cZ := cZ) (cS := cS) (cD := cD) (cE := cE) (tL := tL) (tH := tH)) (As := [.int v13]) kcV_X7_173 dX7_gain_16 hf (fun q hq => cU_X5_missesOfLatest q hq) wU_o_U rfl rfl rfl rfl (Nat.le_of_ble_eq_true rfl) rfl rfl ⟨Nat.le_of_ble_eq_true rfl, Nat.le_of_ble_eq_true rfl⟩ (fun v16 s16 hf => ?_)
    refine z_istore_n B [(2, .int v16), (0, .ref (adr 600)), (1, .int x1)] dX7_gain_19 rfl (Nat.le_of_ble_eq_true rfl) rfl ?_
    refine z_aload_n B dX7_gain_20 1 rfl rfl ?_
    refine z_iconst B (0) dX7_gain_21 zc_iconst_0 ?_
    refine z_aload_n B dX7_gain_22 1 rfl rfl ?_
    refine fT_g_P_now B dX7_gain_23 ?_
    refine z_iconst B (0) dX7_gain_26 zc_iconst_0 ?_
    refine z_callVLi B (lE0 (adr := adr) (cI := cI) (cZ := cZ) (cS := cS) (cD := cD) (cE := cE) (tL := tL) (tH := tH)) (As := [.int (0)]) kcV_X7_62 dX7_gain_27 hf (fun q hq => cE_X2_term q hq) wE_o_E rfl rfl rfl rfl (Nat.le_of_ble_eq_true rfl) rfl rfl ⟨Nat.le_of_ble_eq_true rfl, Nat.le_of_ble_eq_true rfl⟩ (fun v27 s27 hf => ?_)
    refine z_iconst B (0) dX7_gain_30 zc_iconst_0 ?_
    refine z_aload_n B dX7_gain_31 1 rfl rfl ?_
    refine fT_g_P_now B dX7_gain_32 ?_
    refine z_iconst B (0) dX7_gain_35 zc_iconst_0 ?_
    refine z_callVLi B (lE0 (adr := adr) (cI := cI) (cZ := cZ) (cS := cS) (cD := cD) (cE := cE) (tL := tL) (tH := tH)) (As := [.int (0)]) kcV_X7_62 dX7_gain_36 hf (fun q hq => cE_X2_term q hq) wE_o_E rfl rfl rfl rfl (Nat.le_of_ble_eq_true rfl) rfl rfl ⟨Nat.le_of_ble_eq_true rfl, Nat.le_of_ble_eq_true rfl⟩ (fun v36 s36 hf => ?_)
    refine z_callVu B (As := [.int (0), .int v27, .int (0), .int v36]) kcV_X7_176 dX7_gain_39 hf (fun q hq => cT_X7_replayWith q hq) (wT_o_P (adr := adr) (cI := cI) (cZ := cZ) (cS := cS) (cD := cD) (cE := cE) (tL := tL) (tH := tH)) rfl rfl rfl rfl (Nat.le_of_ble_eq_true rfl) rfl rfl ⟨Nat.le_of_ble_eq_true rfl, Nat.le_of_ble_eq_true rfl⟩ (fun s39 hf => ?_)
    refine z_iload_n B dX7_gain_42 0 rfl rfl ?_
    refine z_aload_n B dX7_gain_43 1 rfl rfl ?_
    refine fT_g_P_paper B dX7_gain_44 ?_
    refine fT_g_E1_counts B dX7_gain_47 ?_
    refine z_iconst B (2) dX7_gain_50 zc_iconst_2 ?_
    refine fT_l_E1_counts B dX7_gain_51 hf (fun v51 hf => ?_)
    refine z_isub B dX7_gain_52 hf (fun v52 hf => ?_)
    exact z_ireturn B dX7_gain_53 hf
theorem dX7_row_0 : decode cX7_row 0 = .ok (.iload_n 1, 1) := by decide +kernel
theorem dX7_row_1 : decode cX7_row 1 = .ok (.ifCond .eq 39, 3) := by decide +kernel
theorem dX7_row_4 : decode cX7_row 4 = .ok (.iload_n 1, 1) := by decide +kernel
theorem dX7_row_5 : decode cX7_row 5 = .ok (.sipush (-10000), 3) := by decide +kernel
theorem dX7_row_8 : decode cX7_row 8 = .ok (.if_icmp .lt 32, 3) := by decide +kernel
theorem dX7_row_11 : decode cX7_row 11 = .ok (.iload_n 1, 1) := by decide +kernel
theorem dX7_row_12 : decode cX7_row 12 = .ok (.sipush 10000, 3) := by decide +kernel
theorem dX7_row_15 : decode cX7_row 15 = .ok (.if_icmp .gt 25, 3) := by decide +kernel
theorem dX7_row_18 : decode cX7_row 18 = .ok (.iload_n 2, 1) := by decide +kernel
theorem dX7_row_19 : decode cX7_row 19 = .ok (.ifCond .lt 21, 3) := by decide +kernel
theorem dX7_row_22 : decode cX7_row 22 = .ok (.iload_n 2, 1) := by decide +kernel
theorem dX7_row_23 : decode cX7_row 23 = .ok (.iconst 1, 1) := by decide +kernel
theorem dX7_row_24 : decode cX7_row 24 = .ok (.if_icmp .gt 16, 3) := by decide +kernel
theorem dX7_row_27 : decode cX7_row 27 = .ok (.aload_n 0, 1) := by decide +kernel
theorem dX7_row_28 : decode cX7_row 28 = .ok (.getfield 26, 3) := by decide +kernel
theorem dX7_row_31 : decode cX7_row 31 = .ok (.getfield 35, 3) := by decide +kernel
theorem dX7_row_34 : decode cX7_row 34 = .ok (.getfield 249, 3) := by decide +kernel
theorem dX7_row_37 : decode cX7_row 37 = .ok (.ifCond .ne 5, 3) := by decide +kernel
theorem dX7_row_40 : decode cX7_row 40 = .ok (.iconst (-1), 1) := by decide +kernel
theorem dX7_row_41 : decode cX7_row 41 = .ok (.ireturn, 1) := by decide +kernel
theorem dX7_row_42 : decode cX7_row 42 = .ok (.aload_n 0, 1) := by decide +kernel
theorem dX7_row_43 : decode cX7_row 43 = .ok (.getfield 42, 3) := by decide +kernel
theorem dX7_row_46 : decode cX7_row 46 = .ok (.iload_n 1, 1) := by decide +kernel
theorem dX7_row_47 : decode cX7_row 47 = .ok (.invokevirtual 252, 3) := by decide +kernel
theorem dX7_row_50 : decode cX7_row 50 = .ok (.istore_n 3, 1) := by decide +kernel
theorem dX7_row_51 : decode cX7_row 51 = .ok (.iload_n 2, 1) := by decide +kernel
theorem dX7_row_52 : decode cX7_row 52 = .ok (.ifCond .ne 7, 3) := by decide +kernel
theorem dX7_row_55 : decode cX7_row 55 = .ok (.iload_n 3, 1) := by decide +kernel
theorem dX7_row_56 : decode cX7_row 56 = .ok (.goto 10, 3) := by decide +kernel
theorem dX7_row_59 : decode cX7_row 59 = .ok (.aload_n 0, 1) := by decide +kernel
theorem dX7_row_60 : decode cX7_row 60 = .ok (.getfield 42, 3) := by decide +kernel
theorem dX7_row_63 : decode cX7_row 63 = .ok (.getfield 255, 3) := by decide +kernel
theorem dX7_row_66 : decode cX7_row 66 = .ok (.ireturn, 1) := by decide +kernel
def mT_X7_row_66 (N : Nat) (σ : ST) (x1 : Int32) (x2 : Int32) (x3 : Int32) (k0 : Int32) : Option (Int32 × ST) :=
  some (k0, σ)
set_option maxRecDepth 20000 in
set_option maxHeartbeats 2000000 in
theorem tT_X7_row_66 {adr : Nat → Nat} {cI cZ cS cD cE : ClassId} {tL tH : Nat} {X : zX} {q : Int32 × ST} (B : zC X 4 (wdT adr cI cZ cS cD cE tL tH) cX7_row RX7 (some .int) { frames := 4, cells := 0, slots := 0, locals := 89 }) (N : Nat) (σ : ST) (x1 : Int32) (x2 : Int32) (x3 : Int32) (k0 : Int32) (hf : mT_X7_row_66 N σ x1 x2 x3 k0 = some q) : zJ X 4 (wdT adr cI cZ cS cD cE tL tH) (zi q) 66 [(0, .ref (adr 600)), (1, .int x1), (2, .int x2), (3, .int x3)] [.int k0] σ := by
  exact z_ireturn B dX7_row_66 hf
def mT_X7_row_40 (N : Nat) (σ : ST) (x1 : Int32) (x2 : Int32) : Option (Int32 × ST) :=
  some ((-1), σ)
set_option maxRecDepth 20000 in
set_option maxHeartbeats 2000000 in
theorem tT_X7_row_40 {adr : Nat → Nat} {cI cZ cS cD cE : ClassId} {tL tH : Nat} {X : zX} {q : Int32 × ST} (B : zC X 4 (wdT adr cI cZ cS cD cE tL tH) cX7_row RX7 (some .int) { frames := 4, cells := 0, slots := 0, locals := 89 }) (N : Nat) (σ : ST) (x1 : Int32) (x2 : Int32) (hf : mT_X7_row_40 N σ x1 x2 = some q) : zJ X 4 (wdT adr cI cZ cS cD cE tL tH) (zi q) 40 [(0, .ref (adr 600)), (1, .int x1), (2, .int x2)] [] σ := by
  refine z_iconst B (-1) dX7_row_40 zc_iconst_m1 ?_
  exact z_ireturn B dX7_row_41 hf
def mT_X7_row (N : Nat) (σ : ST) (x1 : Int32) (x2 : Int32) : Option (Int32 × ST) :=
  if (x1 : Int32) = 0 then
    mT_X7_row_40 N σ x1 x2
  else
    if (x1 : Int32) < (-10000) then
      mT_X7_row_40 N σ x1 x2
    else
      if ((10000) : Int32) < x1 then
        mT_X7_row_40 N σ x1 x2
      else
        if (x2 : Int32) < 0 then
          mT_X7_row_40 N σ x1 x2
        else
          if ((1) : Int32) < x2 then
            mT_X7_row_40 N σ x1 x2
          else
            zLet (σ 18 4) fun v34 =>
            if (v34 : Int32) = 0 then
              mT_X7_row_40 N σ x1 x2
            else
              zCallL (mU_X5_longestRow N (pU σ) x1) (iU σ) fun v47 s47 =>
              if (x2 : Int32) = 0 then
                mT_X7_row_66 N s47 x1 x2 v47 v47
              else
                zLet (s47 500 5) fun v63 =>
                mT_X7_row_66 N s47 x1 x2 v47 v63
set_option maxRecDepth 20000 in
set_option maxHeartbeats 2000000 in
theorem cT_X7_row {adr : Nat → Nat} {cI cZ cS cD cE : ClassId} {tL tH : Nat} {l : Launch} {D : va_G} {N : Nat} {σ : ST} {x1 : Int32} {x2 : Int32} (q : Int32 × ST) (hf : mT_X7_row N σ x1 x2 = some q) : zM l D (wdT adr cI cZ cS cD cE tL tH) yX7_row cX7_row 4 (some .int) ({ frames := 4, cells := 0, slots := 0, locals := 89 }) [.ref (adr 600), .int x1, .int x2] σ (zi q) := by
  refine zM_of sfE_ok rfl (Nat.le_of_ble_eq_true rfl) [(0, .ref (adr 600)), (1, .int x1), (2, .int x2)] rfl (fun X hX1 hX2 B => ?_)
  have B : zC X 4 (wdT adr cI cZ cS cD cE tL tH) cX7_row RX7 (some .int) { frames := 4, cells := 0, slots := 0, locals := 89 } := B
  refine z_iload_n B dX7_row_0 1 rfl rfl ?_
  refine z_if_eq B 40 dX7_row_1 (by decide) hf (fun hf => ?_) (fun hf => ?_)
  · exact tT_X7_row_40 B N σ x1 x2 hf
  · refine z_iload_n B dX7_row_4 1 rfl rfl ?_
    refine z_sipush B (-10000) dX7_row_5 zc_sipush_m10000 ?_
    refine z_icmp_lt B 40 dX7_row_8 (by decide) hf (fun hf => ?_) (fun hf => ?_)
    · exact tT_X7_row_40 B N σ x1 x2 hf
    · refine z_iload_n B dX7_row_11 1 rfl rfl ?_
      refine z_sipush B (10000) dX7_row_12 zc_sipush_10000 ?_
      refine z_icmp_gt B 40 dX7_row_15 (by decide) hf (fun hf => ?_) (fun hf => ?_)
      · exact tT_X7_row_40 B N σ x1 x2 hf
      · refine z_iload_n B dX7_row_18 2 rfl rfl ?_
        refine z_if_lt B 40 dX7_row_19 (by decide) hf (fun hf => ?_) (fun hf => ?_)
        · exact tT_X7_row_40 B N σ x1 x2 hf
        · refine z_iload_n B dX7_row_22 2 rfl rfl ?_
          refine z_iconst B (1) dX7_row_23 zc_iconst_1 ?_
          refine z_icmp_gt B 40 dX7_row_24 (by decide) hf (fun hf => ?_) (fun hf => ?_)
          · exact tT_X7_row_40 B N σ x1 x2 hf
          · refine z_aload_n B dX7_row_27 0 rfl rfl ?_
            refine fT_g_P_now B dX7_row_28 ?_
            refine fT_g_E0_history B dX7_row_31 ?_
            refine fT_g_H0_length B dX7_row_34 hf (fun v34 hf => ?_)
            refine z_if_ne B 42 dX7_row_37 (by decide) hf (fun hf => ?_) (fun hf => ?_)
            · refine z_aload_n B dX7_row_42 0 rfl rfl ?_
              refine fT_g_P_study B dX7_row_43 ?_
              refine z_iload_n B dX7_row_46 1 rfl rfl ?_
              refine z_callVLi B (lU (adr := adr) (cI := cI) (cZ := cZ) (cS := cS) (cD := cD) (cE := cE) (tL := tL) (tH := tH)) (As := [.int x1]) kcV_X7_252 dX7_row_47 hf (fun q hq => cU_X5_longestRow q hq) wU_o_U rfl rfl rfl rfl (Nat.le_of_ble_eq_true rfl) rfl rfl ⟨Nat.le_of_ble_eq_true rfl, Nat.le_of_ble_eq_true rfl⟩ (fun v47 s47 hf => ?_)
              refine z_istore_n B [(3, .int v47), (0, .ref (adr 600)), (1, .int x1), (2, .int x2)] dX7_row_50 rfl (Nat.le_of_ble_eq_true rfl) rfl ?_
              refine z_iload_n B dX7_row_51 3 rfl rfl ?_
              refine z_if_ne B 59 dX7_row_52 (by decide) hf (fun hf => ?_) (fun hf => ?_)
              · refine z_aload_n B dX7_row_59 1 rfl rfl ?_
                refine fT_g_P_study B dX7_row_60 ?_
                refine fT_g_U_rowStart B dX7_row_63 hf (fun v63 hf => ?_)
                exact z_loc [1, 2, 3, 0] _ rfl (tT_X7_row_66 B N s47 x1 x2 v47 v63 hf)
              · refine z_iload_n B dX7_row_55 0 rfl rfl ?_
                refine z_goto B 66 dX7_row_56 (by decide) ?_
                exact z_loc [1, 2, 3, 0] _ rfl (tT_X7_row_66 B N s47 x1 x2 v47 v47 hf)
            · exact tT_X7_row_40 B N σ x1 x2 hf
theorem dX7_pace_0 : decode cX7_pace 0 = .ok (.iload_n 1, 1) := by decide +kernel
theorem dX7_pace_1 : decode cX7_pace 1 = .ok (.ifCond .lt 21, 3) := by decide +kernel
theorem dX7_pace_4 : decode cX7_pace 4 = .ok (.iload_n 1, 1) := by decide +kernel
theorem dX7_pace_5 : decode cX7_pace 5 = .ok (.iconst 1, 1) := by decide +kernel
theorem dX7_pace_6 : decode cX7_pace 6 = .ok (.if_icmp .gt 16, 3) := by decide +kernel
theorem dX7_pace_9 : decode cX7_pace 9 = .ok (.aload_n 0, 1) := by decide +kernel
theorem dX7_pace_10 : decode cX7_pace 10 = .ok (.getfield 26, 3) := by decide +kernel
theorem dX7_pace_13 : decode cX7_pace 13 = .ok (.getfield 35, 3) := by decide +kernel
theorem dX7_pace_16 : decode cX7_pace 16 = .ok (.getfield 249, 3) := by decide +kernel
theorem dX7_pace_19 : decode cX7_pace 19 = .ok (.ifCond .ne 5, 3) := by decide +kernel
theorem dX7_pace_22 : decode cX7_pace 22 = .ok (.iconst (-1), 1) := by decide +kernel
theorem dX7_pace_23 : decode cX7_pace 23 = .ok (.ireturn, 1) := by decide +kernel
theorem dX7_pace_24 : decode cX7_pace 24 = .ok (.iconst (-1), 1) := by decide +kernel
theorem dX7_pace_25 : decode cX7_pace 25 = .ok (.istore_n 2, 1) := by decide +kernel
theorem dX7_pace_26 : decode cX7_pace 26 = .ok (.iconst 0, 1) := by decide +kernel
theorem dX7_pace_27 : decode cX7_pace 27 = .ok (.istore_n 3, 1) := by decide +kernel
theorem dX7_pace_28 : decode cX7_pace 28 = .ok (.iconst 2, 1) := by decide +kernel
theorem dX7_pace_29 : decode cX7_pace 29 = .ok (.istore 4, 2) := by decide +kernel
theorem dX7_pace_31 : decode cX7_pace 31 = .ok (.iload 4, 2) := by decide +kernel
theorem dX7_pace_33 : decode cX7_pace 33 = .ok (.sipush 129, 3) := by decide +kernel
theorem dX7_pace_36 : decode cX7_pace 36 = .ok (.if_icmp .gt 53, 3) := by decide +kernel
theorem dX7_pace_39 : decode cX7_pace 39 = .ok (.iload 4, 2) := by decide +kernel
theorem dX7_pace_41 : decode cX7_pace 41 = .ok (.iconst 2, 1) := by decide +kernel
theorem dX7_pace_42 : decode cX7_pace 42 = .ok (.irem, 1) := by decide +kernel
theorem dX7_pace_43 : decode cX7_pace 43 = .ok (.ifCond .ne 10, 3) := by decide +kernel
theorem dX7_pace_46 : decode cX7_pace 46 = .ok (.iload 4, 2) := by decide +kernel
theorem dX7_pace_48 : decode cX7_pace 48 = .ok (.iconst 2, 1) := by decide +kernel
theorem dX7_pace_49 : decode cX7_pace 49 = .ok (.idiv, 1) := by decide +kernel
theorem dX7_pace_50 : decode cX7_pace 50 = .ok (.goto 8, 3) := by decide +kernel
theorem dX7_pace_53 : decode cX7_pace 53 = .ok (.iload 4, 2) := by decide +kernel
theorem dX7_pace_55 : decode cX7_pace 55 = .ok (.iconst 2, 1) := by decide +kernel
theorem dX7_pace_56 : decode cX7_pace 56 = .ok (.idiv, 1) := by decide +kernel
theorem dX7_pace_57 : decode cX7_pace 57 = .ok (.ineg, 1) := by decide +kernel
theorem dX7_pace_58 : decode cX7_pace 58 = .ok (.istore 5, 2) := by decide +kernel
theorem dX7_pace_60 : decode cX7_pace 60 = .ok (.aload_n 0, 1) := by decide +kernel
theorem dX7_pace_61 : decode cX7_pace 61 = .ok (.getfield 42, 3) := by decide +kernel
theorem dX7_pace_64 : decode cX7_pace 64 = .ok (.iload 5, 2) := by decide +kernel
theorem dX7_pace_66 : decode cX7_pace 66 = .ok (.invokevirtual 252, 3) := by decide +kernel
theorem dX7_pace_69 : decode cX7_pace 69 = .ok (.istore 6, 2) := by decide +kernel
theorem dX7_pace_71 : decode cX7_pace 71 = .ok (.iload 6, 2) := by decide +kernel
theorem dX7_pace_73 : decode cX7_pace 73 = .ok (.iload_n 3, 1) := by decide +kernel
theorem dX7_pace_74 : decode cX7_pace 74 = .ok (.if_icmp .le 9, 3) := by decide +kernel
theorem dX7_pace_77 : decode cX7_pace 77 = .ok (.iload 6, 2) := by decide +kernel
theorem dX7_pace_79 : decode cX7_pace 79 = .ok (.istore_n 3, 1) := by decide +kernel
theorem dX7_pace_80 : decode cX7_pace 80 = .ok (.iload 5, 2) := by decide +kernel
theorem dX7_pace_82 : decode cX7_pace 82 = .ok (.istore_n 2, 1) := by decide +kernel
theorem dX7_pace_83 : decode cX7_pace 83 = .ok (.iinc 4 1, 3) := by decide +kernel
theorem dX7_pace_86 : decode cX7_pace 86 = .ok (.goto (-55), 3) := by decide +kernel
theorem dX7_pace_89 : decode cX7_pace 89 = .ok (.iload_n 1, 1) := by decide +kernel
theorem dX7_pace_90 : decode cX7_pace 90 = .ok (.ifCond .ne 7, 3) := by decide +kernel
theorem dX7_pace_93 : decode cX7_pace 93 = .ok (.iload_n 2, 1) := by decide +kernel
theorem dX7_pace_94 : decode cX7_pace 94 = .ok (.goto 4, 3) := by decide +kernel
theorem dX7_pace_97 : decode cX7_pace 97 = .ok (.iload_n 3, 1) := by decide +kernel
theorem dX7_pace_98 : decode cX7_pace 98 = .ok (.ireturn, 1) := by decide +kernel
def mT_X7_pace_98 (N : Nat) (σ : ST) (x1 : Int32) (x2 : Int32) (x3 : Int32) (x4 : Int32) (k0 : Int32) : Option (Int32 × ST) :=
  some (k0, σ)
set_option maxRecDepth 20000 in
set_option maxHeartbeats 2000000 in
theorem tT_X7_pace_98 {adr : Nat → Nat} {cI cZ cS cD cE : ClassId} {tL tH : Nat} {X : zX} {q : Int32 × ST} (B : zC X 7 (wdT adr cI cZ cS cD cE tL tH) cX7_pace RX7 (some .int) { frames := 4, cells := 0, slots := 0, locals := 89 }) (N : Nat) (σ : ST) (x1 : Int32) (x2 : Int32) (x3 : Int32) (x4 : Int32) (k0 : Int32) (hf : mT_X7_pace_98 N σ x1 x2 x3 x4 k0 = some q) : zJ X 7 (wdT adr cI cZ cS cD cE tL tH) (zi q) 98 [(0, .ref (adr 600)), (1, .int x1), (2, .int x2), (3, .int x3), (4, .int x4)] [.int k0] σ := by
  exact z_ireturn B dX7_pace_98 hf
def mT_X7_pace_83 (N : Nat) (hd31 : ST → Int32 → Int32 → Int32 → Int32 → Option (Int32 × ST)) (σ : ST) (x1 : Int32) (x2 : Int32) (x3 : Int32) (x4 : Int32) (x5 : Int32) (x6 : Int32) : Option (Int32 × ST) :=
  zLet (x4 + (1)) fun v83 =>
  hd31 σ x1 x2 x3 v83
set_option maxRecDepth 20000 in
set_option maxHeartbeats 2000000 in
theorem tT_X7_pace_83 {adr : Nat → Nat} {cI cZ cS cD cE : ClassId} {tL tH : Nat} {X : zX} {q : Int32 × ST} (B : zC X 7 (wdT adr cI cZ cS cD cE tL tH) cX7_pace RX7 (some .int) { frames := 4, cells := 0, slots := 0, locals := 89 }) (N : Nat) (hd31 : ST → Int32 → Int32 → Int32 → Int32 → Option (Int32 × ST)) (hh31 : ∀ (σ : ST) (x1 : Int32) (x2 : Int32) (x3 : Int32) (x4 : Int32), hd31 σ x1 x2 x3 x4 = some q → zJ X 7 (wdT adr cI cZ cS cD cE tL tH) (zi q) 31 [(0, .ref (adr 600)), (1, .int x1), (2, .int x2), (3, .int x3), (4, .int x4)] [] σ) (σ : ST) (x1 : Int32) (x2 : Int32) (x3 : Int32) (x4 : Int32) (x5 : Int32) (x6 : Int32) (hf : mT_X7_pace_83 N hd31 σ x1 x2 x3 x4 x5 x6 = some q) : zJ X 7 (wdT adr cI cZ cS cD cE tL tH) (zi q) 83 [(0, .ref (adr 600)), (1, .int x1), (2, .int x2), (3, .int x3), (4, .int x4), (5, .int x5), (6, .int x6)] [] σ := by
  refine z_iinc B (1) 4 (fun v83 => [(4, .int v83), (0, .ref (adr 600)), (1, .int x1), (2, .int x2), (3, .int x3), (5, .int x5), (6, .int x6)]) dX7_pace_83 hf zc_iconst_1 rfl (Nat.le_of_ble_eq_true rfl) (fun _ => rfl) (fun v83 hf => ?_)
  refine z_goto B 31 dX7_pace_86 (by decide) ?_
  exact z_loc [1, 2, 3, 4, 0] _ rfl (hh31 σ x1 x2 x3 v83 hf)
def mT_X7_pace_58 (N : Nat) (hd31 : ST → Int32 → Int32 → Int32 → Int32 → Option (Int32 × ST)) (σ : ST) (x1 : Int32) (x2 : Int32) (x3 : Int32) (x4 : Int32) (k0 : Int32) : Option (Int32 × ST) :=
  zCallL (mU_X5_longestRow N (pU σ) k0) (iU σ) fun v66 s66 =>
  if (v66 : Int32) ≤ x3 then
    mT_X7_pace_83 N hd31 s66 x1 x2 x3 x4 k0 v66
  else
    mT_X7_pace_83 N hd31 s66 x1 k0 v66 x4 k0 v66
set_option maxRecDepth 20000 in
set_option maxHeartbeats 2000000 in
theorem tT_X7_pace_58 {adr : Nat → Nat} {cI cZ cS cD cE : ClassId} {tL tH : Nat} {X : zX} {q : Int32 × ST} (B : zC X 7 (wdT adr cI cZ cS cD cE tL tH) cX7_pace RX7 (some .int) { frames := 4, cells := 0, slots := 0, locals := 89 }) (N : Nat) (hd31 : ST → Int32 → Int32 → Int32 → Int32 → Option (Int32 × ST)) (hh31 : ∀ (σ : ST) (x1 : Int32) (x2 : Int32) (x3 : Int32) (x4 : Int32), hd31 σ x1 x2 x3 x4 = some q → zJ X 7 (wdT adr cI cZ cS cD cE tL tH) (zi q) 31 [(0, .ref (adr 600)), (1, .int x1), (2, .int x2), (3, .int x3), (4, .int x4)] [] σ) (σ : ST) (x1 : Int32) (x2 : Int32) (x3 : Int32) (x4 : Int32) (k0 : Int32) (hf : mT_X7_pace_58 N hd31 σ x1 x2 x3 x4 k0 = some q) : zJ X 7 (wdT adr cI cZ cS cD cE tL tH) (zi q) 58 [(0, .ref (adr 600)), (1, .int x1), (2, .int x2), (3, .int x3), (4, .int x4)] [.int k0] σ := by
  refine z_istore B [(5, .int k0), (0, .ref (adr 600)), (1, .int x1), (2, .int x2), (3, .int x3), (4, .int x4)] dX7_pace_58 (Nat.le_of_ble_eq_true rfl) rfl ?_
  refine z_aload_n B dX7_pace_60 1 rfl rfl ?_
  refine fT_g_P_study B dX7_pace_61 ?_
  refine z_iload B dX7_pace_64 0 rfl ?_
  refine z_callVLi B (lU (adr := adr) (cI := cI) (cZ := cZ) (cS := cS) (cD := cD) (cE := cE) (tL := tL) (tH := tH)) (As := [.int k0]) kcV_X7_252 dX7_pace_66 hf (fun q hq => cU_X5_longestRow q hq) wU_o_U rfl rfl rfl rfl (Nat.le_of_ble_eq_true rfl) rfl rfl ⟨Nat.le_of_ble_eq_true rfl, Nat.le_of_ble_eq_true rfl⟩ (fun v66 s66 hf => ?_)
  refine z_istore B [(6, .int v66), (5, .int k0), (0, .ref (adr 600)), (1, .int x1), (2, .int x2), (3, .int x3), (4, .int x4)] dX7_pace_69 (Nat.le_of_ble_eq_true rfl) rfl ?_
  refine z_iload B dX7_pace_71 0 rfl ?_
  refine z_iload_n B dX7_pace_73 5 rfl rfl ?_
  refine z_icmp_le B 83 dX7_pace_74 (by decide) hf (fun hf => ?_) (fun hf => ?_)
  · exact z_loc [2, 3, 4, 5, 6, 1, 0] _ rfl (tT_X7_pace_83 B N hd31 hh31 s66 x1 x2 x3 x4 k0 v66 hf)
  · refine z_iload B dX7_pace_77 0 rfl ?_
    refine z_istore_n B [(3, .int v66), (6, .int v66), (5, .int k0), (0, .ref (adr 600)), (1, .int x1), (2, .int x2), (4, .int x4)] dX7_pace_79 rfl (Nat.le_of_ble_eq_true rfl) rfl ?_
    refine z_iload B dX7_pace_80 2 rfl ?_
    refine z_istore_n B [(2, .int k0), (3, .int v66), (6, .int v66), (5, .int k0), (0, .ref (adr 600)), (1, .int x1), (4, .int x4)] dX7_pace_82 rfl (Nat.le_of_ble_eq_true rfl) rfl ?_
    exact z_loc [4, 5, 0, 1, 6, 3, 2] _ rfl (tT_X7_pace_83 B N hd31 hh31 s66 x1 k0 v66 x4 k0 v66 hf)
def mT_X7_pace_B31 (N : Nat) (hd31 : ST → Int32 → Int32 → Int32 → Int32 → Option (Int32 × ST)) (σ : ST) (x1 : Int32) (x2 : Int32) (x3 : Int32) (x4 : Int32) : Option (Int32 × ST) :=
  if ((129) : Int32) < x4 then
    if (x1 : Int32) = 0 then
      mT_X7_pace_98 N σ x1 x2 x3 x4 x2
    else
      mT_X7_pace_98 N σ x1 x2 x3 x4 x3
  else
    zRem x4 (2) fun v42 =>
    if (v42 : Int32) = 0 then
      zDiv x4 (2) fun v49 =>
      mT_X7_pace_58 N hd31 σ x1 x2 x3 x4 v49
    else
      zDiv x4 (2) fun v56 =>
      zLet (-(v56 : Int32)) fun v57 =>
      mT_X7_pace_58 N hd31 σ x1 x2 x3 x4 v57
def mT_X7_pace_31 (N : Nat) : ST → Int32 → Int32 → Int32 → Int32 → Option (Int32 × ST) := zIt (mT_X7_pace_B31 N) (fun _ _ _ _ _ => none) N
set_option maxRecDepth 20000 in
set_option maxHeartbeats 2000000 in
theorem tT_X7_pace_31 {adr : Nat → Nat} {cI cZ cS cD cE : ClassId} {tL tH : Nat} {X : zX} {q : Int32 × ST} (B : zC X 7 (wdT adr cI cZ cS cD cE tL tH) cX7_pace RX7 (some .int) { frames := 4, cells := 0, slots := 0, locals := 89 }) (N : Nat) : ∀ (σ : ST) (x1 : Int32) (x2 : Int32) (x3 : Int32) (x4 : Int32), mT_X7_pace_31 N σ x1 x2 x3 x4 = some q → zJ X 7 (wdT adr cI cZ cS cD cE tL tH) (zi q) 31 [(0, .ref (adr 600)), (1, .int x1), (2, .int x2), (3, .int x3), (4, .int x4)] [] σ := by
  refine zIt_ind (P := fun (hd : ST → Int32 → Int32 → Int32 → Int32 → Option (Int32 × ST)) => ∀ (σ : ST) (x1 : Int32) (x2 : Int32) (x3 : Int32) (x4 : Int32), hd σ x1 x2 x3 x4 = some q → zJ X 7 (wdT adr cI cZ cS cD cE tL tH) (zi q) 31 [(0, .ref (adr 600)), (1, .int x1), (2, .int x2), (3, .int x3), (4, .int x4)] [] σ) (fun _ _ _ _ _ hf => by cases hf) (fun hd31 hh31 => ?_) N
  intro σ x1 x2 x3 x4 hf
  refine z_iload B dX7_pace_31 4 rfl ?_
  refine z_sipush B (129) dX7_pace_33 zc_sipush_129 ?_
  refine z_icmp_gt B 89 dX7_pace_36 (by decide) hf (fun hf => ?_) (fun hf => ?_)
  · refine z_iload_n B dX7_pace_89 1 rfl rfl ?_
    refine z_if_ne B 97 dX7_pace_90 (by decide) hf (fun hf => ?_) (fun hf => ?_)
    · refine z_iload_n B dX7_pace_97 3 rfl rfl ?_
      exact tT_X7_pace_98 B N σ x1 x2 x3 x4 x3 hf
    · refine z_iload_n B dX7_pace_93 2 rfl rfl ?_
      refine z_goto B 98 dX7_pace_94 (by decide) ?_
      exact tT_X7_pace_98 B N σ x1 x2 x3 x4 x2 hf
  · refine z_iload B dX7_pace_39 4 rfl ?_
    refine z_iconst B (2) dX7_pace_41 zc_iconst_2 ?_
    refine z_irem B dX7_pace_42 hf (fun v42 hf => ?_)
    refine z_if_ne B 53 dX7_pace_43 (by decide) hf (fun hf => ?_) (fun hf => ?_)
    · refine z_iload B dX7_pace_53 4 rfl ?_
      refine z_iconst B (2) dX7_pace_55 zc_iconst_2 ?_
      refine z_idiv B dX7_pace_56 hf (fun v56 hf => ?_)
      refine z_ineg B dX7_pace_57 hf (fun v57 hf => ?_)
      exact tT_X7_pace_58 B N hd31 hh31 σ x1 x2 x3 x4 v57 hf
    · refine z_iload B dX7_pace_46 4 rfl ?_
      refine z_iconst B (2) dX7_pace_48 zc_iconst_2 ?_
      refine z_idiv B dX7_pace_49 hf (fun v49 hf => ?_)
      refine z_goto B 58 dX7_pace_50 (by decide) ?_
      exact tT_X7_pace_58 B N hd31 hh31 σ x1 x2 x3 x4 v49 hf
def mT_X7_pace_22 (N : Nat) (σ : ST) (x1 : Int32) : Option (Int32 × ST) :=
  some ((-1), σ)
set_option maxRecDepth 20000 in
set_option maxHeartbeats 2000000 in
theorem tT_X7_pace_22 {adr : Nat → Nat} {cI cZ cS cD cE : ClassId} {tL tH : Nat} {X : zX} {q : Int32 × ST} (B : zC X 7 (wdT adr cI cZ cS cD cE tL tH) cX7_pace RX7 (some .int) { frames := 4, cells := 0, slots := 0, locals := 89 }) (N : Nat) (σ : ST) (x1 : Int32) (hf : mT_X7_pace_22 N σ x1 = some q) : zJ X 7 (wdT adr cI cZ cS cD cE tL tH) (zi q) 22 [(0, .ref (adr 600)), (1, .int x1)] [] σ := by
  refine z_iconst B (-1) dX7_pace_22 zc_iconst_m1 ?_
  exact z_ireturn B dX7_pace_23 hf
def mT_X7_pace (N : Nat) (σ : ST) (x1 : Int32) : Option (Int32 × ST) :=
  if (x1 : Int32) < 0 then
    mT_X7_pace_22 N σ x1
  else
    if ((1) : Int32) < x1 then
      mT_X7_pace_22 N σ x1
    else
      zLet (σ 18 4) fun v16 =>
      if (v16 : Int32) = 0 then
        mT_X7_pace_22 N σ x1
      else
        mT_X7_pace_31 N σ x1 (-1) (0) (2)
set_option maxRecDepth 20000 in
set_option maxHeartbeats 2000000 in
theorem cT_X7_pace {adr : Nat → Nat} {cI cZ cS cD cE : ClassId} {tL tH : Nat} {l : Launch} {D : va_G} {N : Nat} {σ : ST} {x1 : Int32} (q : Int32 × ST) (hf : mT_X7_pace N σ x1 = some q) : zM l D (wdT adr cI cZ cS cD cE tL tH) yX7_pace cX7_pace 7 (some .int) ({ frames := 4, cells := 0, slots := 0, locals := 89 }) [.ref (adr 600), .int x1] σ (zi q) := by
  refine zM_of sfE_ok rfl (Nat.le_of_ble_eq_true rfl) [(0, .ref (adr 600)), (1, .int x1)] rfl (fun X hX1 hX2 B => ?_)
  have B : zC X 7 (wdT adr cI cZ cS cD cE tL tH) cX7_pace RX7 (some .int) { frames := 4, cells := 0, slots := 0, locals := 89 } := B
  refine z_iload_n B dX7_pace_0 1 rfl rfl ?_
  refine z_if_lt B 22 dX7_pace_1 (by decide) hf (fun hf => ?_) (fun hf => ?_)
  · exact tT_X7_pace_22 B N σ x1 hf
  · refine z_iload_n B dX7_pace_4 1 rfl rfl ?_
    refine z_iconst B (1) dX7_pace_5 zc_iconst_1 ?_
    refine z_icmp_gt B 22 dX7_pace_6 (by decide) hf (fun hf => ?_) (fun hf => ?_)
    · exact tT_X7_pace_22 B N σ x1 hf
    · refine z_aload_n B dX7_pace_9 0 rfl rfl ?_
      refine fT_g_P_now B dX7_pace_10 ?_
      refine fT_g_E0_history B dX7_pace_13 ?_
      refine fT_g_H0_length B dX7_pace_16 hf (fun v16 hf => ?_)
      refine z_if_ne B 24 dX7_pace_19 (by decide) hf (fun hf => ?_) (fun hf => ?_)
      · refine z_iconst B (-1) dX7_pace_24 zc_iconst_m1 ?_
        refine z_istore_n B [(2, .int (-1)), (0, .ref (adr 600)), (1, .int x1)] dX7_pace_25 rfl (Nat.le_of_ble_eq_true rfl) rfl ?_
        refine z_iconst B (0) dX7_pace_26 zc_iconst_0 ?_
        refine z_istore_n B [(3, .int (0)), (2, .int (-1)), (0, .ref (adr 600)), (1, .int x1)] dX7_pace_27 rfl (Nat.le_of_ble_eq_true rfl) rfl ?_
        refine z_iconst B (2) dX7_pace_28 zc_iconst_2 ?_
        refine z_istore B [(4, .int (2)), (3, .int (0)), (2, .int (-1)), (0, .ref (adr 600)), (1, .int x1)] dX7_pace_29 (Nat.le_of_ble_eq_true rfl) rfl ?_
        exact z_loc [3, 4, 2, 1, 0] _ rfl (tT_X7_pace_31 B N σ x1 (-1) (0) (2) hf)
      · exact tT_X7_pace_22 B N σ x1 hf
theorem dX7_until_0 : decode cX7_until 0 = .ok (.aload_n 0, 1) := by decide +kernel
theorem dX7_until_1 : decode cX7_until 1 = .ok (.getfield 26, 3) := by decide +kernel
theorem dX7_until_4 : decode cX7_until 4 = .ok (.iload_n 1, 1) := by decide +kernel
theorem dX7_until_5 : decode cX7_until 5 = .ok (.invokevirtual 121, 3) := by decide +kernel
theorem dX7_until_8 : decode cX7_until 8 = .ok (.astore_n 2, 1) := by decide +kernel
theorem dX7_until_9 : decode cX7_until 9 = .ok (.aload_n 2, 1) := by decide +kernel
theorem dX7_until_10 : decode cX7_until 10 = .ok (.ifnull 10, 3) := by decide +kernel
theorem dX7_until_13 : decode cX7_until 13 = .ok (.aload_n 2, 1) := by decide +kernel
theorem dX7_until_14 : decode cX7_until 14 = .ok (.getfield 166, 3) := by decide +kernel
theorem dX7_until_17 : decode cX7_until 17 = .ok (.ifCond .ne 5, 3) := by decide +kernel
theorem dX7_until_20 : decode cX7_until 20 = .ok (.iconst (-1), 1) := by decide +kernel
theorem dX7_until_21 : decode cX7_until 21 = .ok (.ireturn, 1) := by decide +kernel
theorem dX7_until_22 : decode cX7_until 22 = .ok (.aload_n 2, 1) := by decide +kernel
theorem dX7_until_23 : decode cX7_until 23 = .ok (.getfield 236, 3) := by decide +kernel
theorem dX7_until_26 : decode cX7_until 26 = .ok (.istore_n 3, 1) := by decide +kernel
theorem dX7_until_27 : decode cX7_until 27 = .ok (.iconst 1, 1) := by decide +kernel
theorem dX7_until_28 : decode cX7_until 28 = .ok (.istore 4, 2) := by decide +kernel
theorem dX7_until_30 : decode cX7_until 30 = .ok (.iload 4, 2) := by decide +kernel
theorem dX7_until_32 : decode cX7_until 32 = .ok (.sipush 10000, 3) := by decide +kernel
theorem dX7_until_35 : decode cX7_until 35 = .ok (.if_icmp .gt 93, 3) := by decide +kernel
theorem dX7_until_38 : decode cX7_until 38 = .ok (.iload_n 3, 1) := by decide +kernel
theorem dX7_until_39 : decode cX7_until 39 = .ok (.aload_n 2, 1) := by decide +kernel
theorem dX7_until_40 : decode cX7_until 40 = .ok (.getfield 166, 3) := by decide +kernel
theorem dX7_until_43 : decode cX7_until 43 = .ok (.iadd, 1) := by decide +kernel
theorem dX7_until_44 : decode cX7_until 44 = .ok (.istore_n 3, 1) := by decide +kernel
theorem dX7_until_45 : decode cX7_until 45 = .ok (.aload_n 0, 1) := by decide +kernel
theorem dX7_until_46 : decode cX7_until 46 = .ok (.getfield 26, 3) := by decide +kernel
theorem dX7_until_49 : decode cX7_until 49 = .ok (.iload_n 3, 1) := by decide +kernel
theorem dX7_until_50 : decode cX7_until 50 = .ok (.invokevirtual 87, 3) := by decide +kernel
theorem dX7_until_53 : decode cX7_until 53 = .ok (.ifCond .ne 5, 3) := by decide +kernel
theorem dX7_until_56 : decode cX7_until 56 = .ok (.iconst (-1), 1) := by decide +kernel
theorem dX7_until_57 : decode cX7_until 57 = .ok (.ireturn, 1) := by decide +kernel
theorem dX7_until_58 : decode cX7_until 58 = .ok (.aload_n 2, 1) := by decide +kernel
theorem dX7_until_59 : decode cX7_until 59 = .ok (.getfield 233, 3) := by decide +kernel
theorem dX7_until_62 : decode cX7_until 62 = .ok (.ifCond .ne 29, 3) := by decide +kernel
theorem dX7_until_65 : decode cX7_until 65 = .ok (.aload_n 2, 1) := by decide +kernel
theorem dX7_until_66 : decode cX7_until 66 = .ok (.getfield 258, 3) := by decide +kernel
theorem dX7_until_69 : decode cX7_until 69 = .ok (.iload 4, 2) := by decide +kernel
theorem dX7_until_71 : decode cX7_until 71 = .ok (.iadd, 1) := by decide +kernel
theorem dX7_until_72 : decode cX7_until 72 = .ok (.aload_n 0, 1) := by decide +kernel
theorem dX7_until_73 : decode cX7_until 73 = .ok (.getfield 26, 3) := by decide +kernel
theorem dX7_until_76 : decode cX7_until 76 = .ok (.iconst 1, 1) := by decide +kernel
theorem dX7_until_77 : decode cX7_until 77 = .ok (.invokevirtual 62, 3) := by decide +kernel
theorem dX7_until_80 : decode cX7_until 80 = .ok (.if_icmp .lt 7, 3) := by decide +kernel
theorem dX7_until_83 : decode cX7_until 83 = .ok (.iconst 1, 1) := by decide +kernel
theorem dX7_until_84 : decode cX7_until 84 = .ok (.goto 28, 3) := by decide +kernel
theorem dX7_until_87 : decode cX7_until 87 = .ok (.iconst 0, 1) := by decide +kernel
theorem dX7_until_88 : decode cX7_until 88 = .ok (.goto 24, 3) := by decide +kernel
theorem dX7_until_91 : decode cX7_until 91 = .ok (.iload_n 3, 1) := by decide +kernel
theorem dX7_until_92 : decode cX7_until 92 = .ok (.aload_n 2, 1) := by decide +kernel
theorem dX7_until_93 : decode cX7_until 93 = .ok (.getfield 261, 3) := by decide +kernel
theorem dX7_until_96 : decode cX7_until 96 = .ok (.if_icmp .eq 11, 3) := by decide +kernel
theorem dX7_until_99 : decode cX7_until 99 = .ok (.aload_n 2, 1) := by decide +kernel
theorem dX7_until_100 : decode cX7_until 100 = .ok (.iload_n 3, 1) := by decide +kernel
theorem dX7_until_101 : decode cX7_until 101 = .ok (.invokevirtual 264, 3) := by decide +kernel
theorem dX7_until_104 : decode cX7_until 104 = .ok (.ifCond .ne 7, 3) := by decide +kernel
theorem dX7_until_107 : decode cX7_until 107 = .ok (.iconst 1, 1) := by decide +kernel
theorem dX7_until_108 : decode cX7_until 108 = .ok (.goto 4, 3) := by decide +kernel
theorem dX7_until_111 : decode cX7_until 111 = .ok (.iconst 0, 1) := by decide +kernel
theorem dX7_until_112 : decode cX7_until 112 = .ok (.istore 5, 2) := by decide +kernel
theorem dX7_until_114 : decode cX7_until 114 = .ok (.iload 5, 2) := by decide +kernel
theorem dX7_until_116 : decode cX7_until 116 = .ok (.ifCond .eq 6, 3) := by decide +kernel
theorem dX7_until_119 : decode cX7_until 119 = .ok (.iload 4, 2) := by decide +kernel
theorem dX7_until_121 : decode cX7_until 121 = .ok (.ireturn, 1) := by decide +kernel
theorem dX7_until_122 : decode cX7_until 122 = .ok (.iinc 4 1, 3) := by decide +kernel
theorem dX7_until_125 : decode cX7_until 125 = .ok (.goto (-95), 3) := by decide +kernel
theorem dX7_until_128 : decode cX7_until 128 = .ok (.iconst (-1), 1) := by decide +kernel
theorem dX7_until_129 : decode cX7_until 129 = .ok (.ireturn, 1) := by decide +kernel
def mT_X7_until_112 (N : Nat) (hd30 : ST → Int32 → Fin 6 → Int32 → Int32 → Option (Int32 × ST)) (σ : ST) (x1 : Int32) (x2 : Fin 6) (x3 : Int32) (x4 : Int32) (k0 : Int32) : Option (Int32 × ST) :=
  if (k0 : Int32) = 0 then
    zLet (x4 + (1)) fun v122 =>
    hd30 σ x1 x2 x3 v122
  else
    some (x4, σ)
set_option maxRecDepth 20000 in
set_option maxHeartbeats 2000000 in
theorem tT_X7_until_112 {adr : Nat → Nat} {cI cZ cS cD cE : ClassId} {tL tH : Nat} {X : zX} {q : Int32 × ST} (B : zC X 6 (wdT adr cI cZ cS cD cE tL tH) cX7_until RX7 (some .int) { frames := 1, cells := 0, slots := 0, locals := 21 }) (N : Nat) (hd30 : ST → Int32 → Fin 6 → Int32 → Int32 → Option (Int32 × ST)) (hh30 : ∀ (σ : ST) (x1 : Int32) (x2 : Fin 6) (x3 : Int32) (x4 : Int32), hd30 σ x1 x2 x3 x4 = some q → zJ X 6 (wdT adr cI cZ cS cD cE tL tH) (zi q) 30 [(0, .ref (adr 600)), (1, .int x1), (2, .ref (a0 adr (12 + (x2).val))), (3, .int x3), (4, .int x4)] [] σ) (σ : ST) (x1 : Int32) (x2 : Fin 6) (x3 : Int32) (x4 : Int32) (k0 : Int32) (hf : mT_X7_until_112 N hd30 σ x1 x2 x3 x4 k0 = some q) : zJ X 6 (wdT adr cI cZ cS cD cE tL tH) (zi q) 112 [(0, .ref (adr 600)), (1, .int x1), (2, .ref (a0 adr (12 + (x2).val))), (3, .int x3), (4, .int x4)] [.int k0] σ := by
  refine z_istore B [(5, .int k0), (0, .ref (adr 600)), (1, .int x1), (2, .ref (a0 adr (12 + (x2).val))), (3, .int x3), (4, .int x4)] dX7_until_112 (Nat.le_of_ble_eq_true rfl) rfl ?_
  refine z_iload B dX7_until_114 0 rfl ?_
  refine z_if_eq B 122 dX7_until_116 (by decide) hf (fun hf => ?_) (fun hf => ?_)
  · refine z_iinc B (1) 5 (fun v122 => [(4, .int v122), (5, .int k0), (0, .ref (adr 600)), (1, .int x1), (2, .ref (a0 adr (12 + (x2).val))), (3, .int x3)]) dX7_until_122 hf zc_iconst_1 rfl (Nat.le_of_ble_eq_true rfl) (fun _ => rfl) (fun v122 hf => ?_)
    refine z_goto B 30 dX7_until_125 (by decide) ?_
    exact z_loc [2, 3, 4, 5, 0] _ rfl (hh30 σ x1 x2 x3 v122 hf)
  · refine z_iload B dX7_until_119 5 rfl ?_
    exact z_ireturn B dX7_until_121 hf
def mT_X7_until_107 (N : Nat) (hd30 : ST → Int32 → Fin 6 → Int32 → Int32 → Option (Int32 × ST)) (σ : ST) (x1 : Int32) (x2 : Fin 6) (x3 : Int32) (x4 : Int32) : Option (Int32 × ST) :=
  mT_X7_until_112 N hd30 σ x1 x2 x3 x4 (1)
set_option maxRecDepth 20000 in
set_option maxHeartbeats 2000000 in
theorem tT_X7_until_107 {adr : Nat → Nat} {cI cZ cS cD cE : ClassId} {tL tH : Nat} {X : zX} {q : Int32 × ST} (B : zC X 6 (wdT adr cI cZ cS cD cE tL tH) cX7_until RX7 (some .int) { frames := 1, cells := 0, slots := 0, locals := 21 }) (N : Nat) (hd30 : ST → Int32 → Fin 6 → Int32 → Int32 → Option (Int32 × ST)) (hh30 : ∀ (σ : ST) (x1 : Int32) (x2 : Fin 6) (x3 : Int32) (x4 : Int32), hd30 σ x1 x2 x3 x4 = some q → zJ X 6 (wdT adr cI cZ cS cD cE tL tH) (zi q) 30 [(0, .ref (adr 600)), (1, .int x1), (2, .ref (a0 adr (12 + (x2).val))), (3, .int x3), (4, .int x4)] [] σ) (σ : ST) (x1 : Int32) (x2 : Fin 6) (x3 : Int32) (x4 : Int32) (hf : mT_X7_until_107 N hd30 σ x1 x2 x3 x4 = some q) : zJ X 6 (wdT adr cI cZ cS cD cE tL tH) (zi q) 107 [(0, .ref (adr 600)), (1, .int x1), (2, .ref (a0 adr (12 + (x2).val))), (3, .int x3), (4, .int x4)] [] σ := by
  refine z_iconst B (1) dX7_until_107 zc_iconst_1 ?_
  refine z_goto B 112 dX7_until_108 (by decide) ?_
  exact tT_X7_until_112 B N hd30 hh30 σ x1 x2 x3 x4 (1) hf
def mT_X7_until_B30 (N : Nat) (hd30 : ST → Int32 → Fin 6 → Int32 → Int32 → Option (Int32 × ST)) (σ : ST) (x1 : Int32) (x2 : Fin 6) (x3 : Int32) (x4 : Int32) : Option (Int32 × ST) :=
  if ((10000) : Int32) < x4 then
    some ((-1), σ)
  else
    zLet (pE 0 0 σ (12 + (x2).val) 2) fun v40 =>
    zLet ((x3 : Int32) + v40) fun v43 =>
    zCallL (mE_X2_hasBlock N ((pE 0 0) σ) v43) ((iE 0 0) σ) fun v50 s50 =>
    if (v50 : Int32) = 0 then
      some ((-1), s50)
    else
      zLet (pE 0 0 s50 (12 + (x2).val) 4) fun v59 =>
      if (v59 : Int32) = 0 then
        zLet (pE 0 0 s50 (12 + (x2).val) 3) fun v66 =>
        zLet ((v66 : Int32) + x4) fun v71 =>
        zCallL (mE_X2_term N ((pE 0 0) s50) (1)) ((iE 0 0) s50) fun v77 s77 =>
        if (v71 : Int32) < v77 then
          mT_X7_until_112 N hd30 s77 x1 x2 v43 x4 (0)
        else
          mT_X7_until_112 N hd30 s77 x1 x2 v43 x4 (1)
      else
        zLet (pE 0 0 s50 (12 + (x2).val) 6) fun v93 =>
        if (v43 : Int32) = v93 then
          mT_X7_until_107 N hd30 s50 x1 x2 v43 x4
        else
          zCallL (mE_X4_edgeIsBeyond N ((pE 0 0) s50) x2 v43) ((iE 0 0) s50) fun v101 s101 =>
          if (v101 : Int32) = 0 then
            mT_X7_until_107 N hd30 s101 x1 x2 v43 x4
          else
            mT_X7_until_112 N hd30 s101 x1 x2 v43 x4 (0)
def mT_X7_until_30 (N : Nat) : ST → Int32 → Fin 6 → Int32 → Int32 → Option (Int32 × ST) := zIt (mT_X7_until_B30 N) (fun _ _ _ _ _ => none) N
set_option maxRecDepth 20000 in
set_option maxHeartbeats 2000000 in
theorem tT_X7_until_30 {adr : Nat → Nat} {cI cZ cS cD cE : ClassId} {tL tH : Nat} {X : zX} {q : Int32 × ST} (B : zC X 6 (wdT adr cI cZ cS cD cE tL tH) cX7_until RX7 (some .int) { frames := 1, cells := 0, slots := 0, locals := 21 }) (N : Nat) : ∀ (σ : ST) (x1 : Int32) (x2 : Fin 6) (x3 : Int32) (x4 : Int32), mT_X7_until_30 N σ x1 x2 x3 x4 = some q → zJ X 6 (wdT adr cI cZ cS cD cE tL tH) (zi q) 30 [(0, .ref (adr 600)), (1, .int x1), (2, .ref (a0 adr (12 + (x2).val))), (3, .int x3), (4, .int x4)] [] σ := by
  refine zIt_ind (P := fun (hd : ST → Int32 → Fin 6 → Int32 → Int32 → Option (Int32 × ST)) => ∀ (σ : ST) (x1 : Int32) (x2 : Fin 6) (x3 : Int32) (x4 : Int32), hd σ x1 x2 x3 x4 = some q → zJ X 6 (wdT adr cI cZ cS cD cE tL tH) (zi q) 30 [(0, .ref (adr 600)), (1, .int x1), (2, .ref (a0 adr (12 + (x2).val))), (3, .int x3), (4, .int x4)] [] σ) (fun _ _ _ _ _ hf => by cases hf) (fun hd30 hh30 => ?_) N
  intro σ x1 x2 x3 x4 hf
  refine z_iload B dX7_until_30 4 rfl ?_
  refine z_sipush B (10000) dX7_until_32 zc_sipush_10000 ?_
  refine z_icmp_gt B 128 dX7_until_35 (by decide) hf (fun hf => ?_) (fun hf => ?_)
  · refine z_iconst B (-1) dX7_until_128 zc_iconst_m1 ?_
    exact z_ireturn B dX7_until_129 hf
  · refine z_iload_n B dX7_until_38 3 rfl rfl ?_
    refine z_aload_n B dX7_until_39 2 rfl rfl ?_
    refine fT_g_S_stride B x2 dX7_until_40 hf (fun v40 hf => ?_)
    refine z_iadd B dX7_until_43 hf (fun v43 hf => ?_)
    refine z_istore_n B [(3, .int v43), (0, .ref (adr 600)), (1, .int x1), (2, .ref (a0 adr (12 + (x2).val))), (4, .int x4)] dX7_until_44 rfl (Nat.le_of_ble_eq_true rfl) rfl ?_
    refine z_aload_n B dX7_until_45 1 rfl rfl ?_
    refine fT_g_P_now B dX7_until_46 ?_
    refine z_iload_n B dX7_until_49 0 rfl rfl ?_
    refine z_callVLi B (lE0 (adr := adr) (cI := cI) (cZ := cZ) (cS := cS) (cD := cD) (cE := cE) (tL := tL) (tH := tH)) (As := [.int v43]) kcV_X7_87 dX7_until_50 hf (fun q hq => cE_X2_hasBlock q hq) wE_o_E rfl rfl rfl rfl (Nat.le_of_ble_eq_true rfl) rfl rfl ⟨Nat.le_of_ble_eq_true rfl, Nat.le_of_ble_eq_true rfl⟩ (fun v50 s50 hf => ?_)
    refine z_if_ne B 58 dX7_until_53 (by decide) hf (fun hf => ?_) (fun hf => ?_)
    · refine z_aload_n B dX7_until_58 3 rfl rfl ?_
      refine fT_g_S_window B x2 dX7_until_59 hf (fun v59 hf => ?_)
      refine z_if_ne B 91 dX7_until_62 (by decide) hf (fun hf => ?_) (fun hf => ?_)
      · refine z_iload_n B dX7_until_91 0 rfl rfl ?_
        refine z_aload_n B dX7_until_92 3 rfl rfl ?_
        refine fT_g_S_marker B x2 dX7_until_93 hf (fun v93 hf => ?_)
        refine z_icmp_eq B 107 dX7_until_96 (by decide) hf (fun hf => ?_) (fun hf => ?_)
        · exact z_loc [1, 2, 3, 0, 4] _ rfl (tT_X7_until_107 B N hd30 hh30 s50 x1 x2 v43 x4 hf)
        · refine z_aload_n B dX7_until_99 3 rfl rfl ?_
          refine z_iload_n B dX7_until_100 0 rfl rfl ?_
          refine z_callVLi B (lE0 (adr := adr) (cI := cI) (cZ := cZ) (cS := cS) (cD := cD) (cE := cE) (tL := tL) (tH := tH)) (As := [.int v43]) kcV_X7_264 dX7_until_101 hf (fun q hq => cE_X4_edgeIsBeyond q hq) (wE_o_S x2) rfl rfl rfl rfl (Nat.le_of_ble_eq_true rfl) rfl rfl ⟨Nat.le_of_ble_eq_true rfl, Nat.le_of_ble_eq_true rfl⟩ (fun v101 s101 hf => ?_)
          refine z_if_ne B 111 dX7_until_104 (by decide) hf (fun hf => ?_) (fun hf => ?_)
          · refine z_iconst B (0) dX7_until_111 zc_iconst_0 ?_
            exact z_loc [1, 2, 3, 0, 4] _ rfl (tT_X7_until_112 B N hd30 hh30 s101 x1 x2 v43 x4 (0) hf)
          · exact z_loc [1, 2, 3, 0, 4] _ rfl (tT_X7_until_107 B N hd30 hh30 s101 x1 x2 v43 x4 hf)
      · refine z_aload_n B dX7_until_65 3 rfl rfl ?_
        refine fT_g_S_proof B x2 dX7_until_66 hf (fun v66 hf => ?_)
        refine z_iload B dX7_until_69 4 rfl ?_
        refine z_iadd B dX7_until_71 hf (fun v71 hf => ?_)
        refine z_aload_n B dX7_until_72 1 rfl rfl ?_
        refine fT_g_P_now B dX7_until_73 ?_
        refine z_iconst B (1) dX7_until_76 zc_iconst_1 ?_
        refine z_callVLi B (lE0 (adr := adr) (cI := cI) (cZ := cZ) (cS := cS) (cD := cD) (cE := cE) (tL := tL) (tH := tH)) (As := [.int (1)]) kcV_X7_62 dX7_until_77 hf (fun q hq => cE_X2_term q hq) wE_o_E rfl rfl rfl rfl (Nat.le_of_ble_eq_true rfl) rfl rfl ⟨Nat.le_of_ble_eq_true rfl, Nat.le_of_ble_eq_true rfl⟩ (fun v77 s77 hf => ?_)
        refine z_icmp_lt B 87 dX7_until_80 (by decide) hf (fun hf => ?_) (fun hf => ?_)
        · refine z_iconst B (0) dX7_until_87 zc_iconst_0 ?_
          refine z_goto B 112 dX7_until_88 (by decide) ?_
          exact z_loc [1, 2, 3, 0, 4] _ rfl (tT_X7_until_112 B N hd30 hh30 s77 x1 x2 v43 x4 (0) hf)
        · refine z_iconst B (1) dX7_until_83 zc_iconst_1 ?_
          refine z_goto B 112 dX7_until_84 (by decide) ?_
          exact z_loc [1, 2, 3, 0, 4] _ rfl (tT_X7_until_112 B N hd30 hh30 s77 x1 x2 v43 x4 (1) hf)
    · refine z_iconst B (-1) dX7_until_56 zc_iconst_m1 ?_
      exact z_ireturn B dX7_until_57 hf
def mT_X7_until_20 (N : Nat) (σ : ST) (x1 : Int32) (x2 : Option (Fin 6)) : Option (Int32 × ST) :=
  some ((-1), σ)
set_option maxRecDepth 20000 in
set_option maxHeartbeats 2000000 in
theorem tT_X7_until_20 {adr : Nat → Nat} {cI cZ cS cD cE : ClassId} {tL tH : Nat} {X : zX} {q : Int32 × ST} (B : zC X 6 (wdT adr cI cZ cS cD cE tL tH) cX7_until RX7 (some .int) { frames := 1, cells := 0, slots := 0, locals := 21 }) (N : Nat) (σ : ST) (x1 : Int32) (x2 : Option (Fin 6)) (hf : mT_X7_until_20 N σ x1 x2 = some q) : zJ X 6 (wdT adr cI cZ cS cD cE tL tH) (zi q) 20 [(0, .ref (adr 600)), (1, .int x1), (2, zq (a0 adr) x2)] [] σ := by
  refine z_iconst B (-1) dX7_until_20 zc_iconst_m1 ?_
  exact z_ireturn B dX7_until_21 hf
def mT_X7_until (N : Nat) (σ : ST) (x1 : Int32) : Option (Int32 × ST) :=
  zCallLq (mE_X2_streamAt N ((pE 0 0) σ) x1) ((iE 0 0) σ) fun v5 s5 =>
  match v5 with
  | none =>
      mT_X7_until_20 N s5 x1 none
  | some p10 =>
      zLet (pE 0 0 s5 (12 + (p10).val) 2) fun v14 =>
      if (v14 : Int32) = 0 then
        mT_X7_until_20 N s5 x1 (some p10)
      else
        zLet (pE 0 0 s5 (12 + (p10).val) 1) fun v23 =>
        mT_X7_until_30 N s5 x1 p10 v23 (1)
set_option maxRecDepth 20000 in
set_option maxHeartbeats 2000000 in
theorem cT_X7_until {adr : Nat → Nat} {cI cZ cS cD cE : ClassId} {tL tH : Nat} {l : Launch} {D : va_G} {N : Nat} {σ : ST} {x1 : Int32} (q : Int32 × ST) (hf : mT_X7_until N σ x1 = some q) : zM l D (wdT adr cI cZ cS cD cE tL tH) yX7_until cX7_until 6 (some .int) ({ frames := 1, cells := 0, slots := 0, locals := 21 }) [.ref (adr 600), .int x1] σ (zi q) := by
  refine zM_of sfE_ok rfl (Nat.le_of_ble_eq_true rfl) [(0, .ref (adr 600)), (1, .int x1)] rfl (fun X hX1 hX2 B => ?_)
  have B : zC X 6 (wdT adr cI cZ cS cD cE tL tH) cX7_until RX7 (some .int) { frames := 1, cells := 0, slots := 0, locals := 21 } := B
  refine z_aload_n B dX7_until_0 0 rfl rfl ?_
  refine fT_g_P_now B dX7_until_1 ?_
  refine z_iload_n B dX7_until_4 1 rfl rfl ?_
  refine z_callVLq B (lE0 (adr := adr) (cI := cI) (cZ := cZ) (cS := cS) (cD := cD) (cE := cE) (tL := tL) (tH := tH)) (adr := a0 adr) (As := [.int x1]) kcV_X7_121 dX7_until_5 hf (fun q hq => cE_X2_streamAt q hq) wE_o_E rfl rfl rfl rfl (Nat.le_of_ble_eq_true rfl) rfl rfl ⟨Nat.le_of_ble_eq_true rfl, Nat.le_of_ble_eq_true rfl⟩ (fun v5 s5 hf => ?_)
  refine z_astore_nq B [(2, zq (a0 adr) v5), (0, .ref (adr 600)), (1, .int x1)] dX7_until_8 rfl (Nat.le_of_ble_eq_true rfl) rfl ?_
  refine z_aload_nq B dX7_until_9 0 rfl rfl ?_
  cases v5 with
  | none =>
    refine z_ifnull_N B 20 dX7_until_10 (by decide) ?_
    exact z_loc [1, 2, 0] _ rfl (tT_X7_until_20 B N s5 x1 none hf)
  | some p10 =>
    refine z_ifnull_S B dX7_until_10 ?_
    refine z_aload_n B dX7_until_13 0 rfl rfl ?_
    refine fT_g_S_stride B p10 dX7_until_14 hf (fun v14 hf => ?_)
    refine z_if_ne B 22 dX7_until_17 (by decide) hf (fun hf => ?_) (fun hf => ?_)
    · refine z_aload_n B dX7_until_22 0 rfl rfl ?_
      refine fT_g_S_last B p10 dX7_until_23 hf (fun v23 hf => ?_)
      refine z_istore_n B [(3, .int v23), (2, .ref (a0 adr (12 + (p10).val))), (0, .ref (adr 600)), (1, .int x1)] dX7_until_26 rfl (Nat.le_of_ble_eq_true rfl) rfl ?_
      refine z_iconst B (1) dX7_until_27 zc_iconst_1 ?_
      refine z_istore B [(4, .int (1)), (3, .int v23), (2, .ref (a0 adr (12 + (p10).val))), (0, .ref (adr 600)), (1, .int x1)] dX7_until_28 (Nat.le_of_ble_eq_true rfl) rfl ?_
      exact z_loc [3, 4, 2, 1, 0] _ rfl (tT_X7_until_30 B N s5 x1 p10 v23 (1) hf)
    · exact z_loc [1, 2, 0] _ rfl (tT_X7_until_20 B N s5 x1 (some p10) hf)
theorem dX7_count_0 : decode cX7_count 0 = .ok (.aload_n 0, 1) := by decide +kernel
theorem dX7_count_1 : decode cX7_count 1 = .ok (.getfield 26, 3) := by decide +kernel
theorem dX7_count_4 : decode cX7_count 4 = .ok (.iload_n 1, 1) := by decide +kernel
theorem dX7_count_5 : decode cX7_count 5 = .ok (.invokevirtual 230, 3) := by decide +kernel
theorem dX7_count_8 : decode cX7_count 8 = .ok (.ireturn, 1) := by decide +kernel
def mT_X7_count (N : Nat) (σ : ST) (x1 : Int32) : Option (Int32 × ST) :=
  zCallL (mE_X2_counted N ((pE 0 0) σ) x1) ((iE 0 0) σ) fun v5 s5 =>
  some (v5, s5)
set_option maxRecDepth 20000 in
set_option maxHeartbeats 2000000 in
theorem cT_X7_count {adr : Nat → Nat} {cI cZ cS cD cE : ClassId} {tL tH : Nat} {l : Launch} {D : va_G} {N : Nat} {σ : ST} {x1 : Int32} (q : Int32 × ST) (hf : mT_X7_count N σ x1 = some q) : zM l D (wdT adr cI cZ cS cD cE tL tH) yX7_count cX7_count 2 (some .int) ({ frames := 2, cells := 0, slots := 0, locals := 44 }) [.ref (adr 600), .int x1] σ (zi q) := by
  refine zM_of sfE_ok rfl (Nat.le_of_ble_eq_true rfl) [(0, .ref (adr 600)), (1, .int x1)] rfl (fun X hX1 hX2 B => ?_)
  have B : zC X 2 (wdT adr cI cZ cS cD cE tL tH) cX7_count RX7 (some .int) { frames := 2, cells := 0, slots := 0, locals := 44 } := B
  refine z_aload_n B dX7_count_0 0 rfl rfl ?_
  refine fT_g_P_now B dX7_count_1 ?_
  refine z_iload_n B dX7_count_4 1 rfl rfl ?_
  refine z_callVLi B (lE0 (adr := adr) (cI := cI) (cZ := cZ) (cS := cS) (cD := cD) (cE := cE) (tL := tL) (tH := tH)) (As := [.int x1]) kcV_X7_230 dX7_count_5 hf (fun q hq => cE_X2_counted q hq) wE_o_E rfl rfl rfl rfl (Nat.le_of_ble_eq_true rfl) rfl rfl ⟨Nat.le_of_ble_eq_true rfl, Nat.le_of_ble_eq_true rfl⟩ (fun v5 s5 hf => ?_)
  exact z_ireturn B dX7_count_8 hf
