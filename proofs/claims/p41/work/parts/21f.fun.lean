theorem DX8_log_0 : dAre cX8_log [(0, .iload_n 1, 1), (1, .ifCond .lt 23, 3), (4, .iload_n 1, 1), (5, .aload_n 0, 1), (6, .getfield 56, 3), (9, .invokevirtual 320, 3), (12, .if_icmp .ge 12, 3), (15, .iload_n 2, 1), (16, .ifCond .lt 8, 3), (19, .iload_n 2, 1), (20, .iconst 3, 1), (21, .if_icmp .lt 7, 3), (24, .ldc_w 260, 3), (27, .ireturn, 1), (28, .aload_n 0, 1), (29, .getfield 56, 3)] := dAre0 (by decide +kernel)
theorem dX8_log_0 : decode cX8_log 0 = .ok (.iload_n 1, 1) := DX8_log_0.1
theorem dX8_log_1 : decode cX8_log 1 = .ok (.ifCond .lt 23, 3) := DX8_log_0.2.1
theorem dX8_log_4 : decode cX8_log 4 = .ok (.iload_n 1, 1) := DX8_log_0.2.2.1
theorem dX8_log_5 : decode cX8_log 5 = .ok (.aload_n 0, 1) := DX8_log_0.2.2.2.1
theorem dX8_log_6 : decode cX8_log 6 = .ok (.getfield 56, 3) := DX8_log_0.2.2.2.2.1
theorem dX8_log_9 : decode cX8_log 9 = .ok (.invokevirtual 320, 3) := DX8_log_0.2.2.2.2.2.1
theorem dX8_log_12 : decode cX8_log 12 = .ok (.if_icmp .ge 12, 3) := DX8_log_0.2.2.2.2.2.2.1
theorem dX8_log_15 : decode cX8_log 15 = .ok (.iload_n 2, 1) := DX8_log_0.2.2.2.2.2.2.2.1
theorem dX8_log_16 : decode cX8_log 16 = .ok (.ifCond .lt 8, 3) := DX8_log_0.2.2.2.2.2.2.2.2.1
theorem dX8_log_19 : decode cX8_log 19 = .ok (.iload_n 2, 1) := DX8_log_0.2.2.2.2.2.2.2.2.2.1
theorem dX8_log_20 : decode cX8_log 20 = .ok (.iconst 3, 1) := DX8_log_0.2.2.2.2.2.2.2.2.2.2.1
theorem dX8_log_21 : decode cX8_log 21 = .ok (.if_icmp .lt 7, 3) := DX8_log_0.2.2.2.2.2.2.2.2.2.2.2.1
theorem dX8_log_24 : decode cX8_log 24 = .ok (.ldc_w 260, 3) := DX8_log_0.2.2.2.2.2.2.2.2.2.2.2.2.1
theorem dX8_log_27 : decode cX8_log 27 = .ok (.ireturn, 1) := DX8_log_0.2.2.2.2.2.2.2.2.2.2.2.2.2.1
theorem dX8_log_28 : decode cX8_log 28 = .ok (.aload_n 0, 1) := DX8_log_0.2.2.2.2.2.2.2.2.2.2.2.2.2.2.1
theorem dX8_log_29 : decode cX8_log 29 = .ok (.getfield 56, 3) := DX8_log_0.2.2.2.2.2.2.2.2.2.2.2.2.2.2.2.1
theorem DX8_log_32 : dAre cX8_log [(32, .iload_n 1, 1), (33, .iload_n 2, 1), (34, .invokevirtual 323, 3), (37, .ireturn, 1)] := dAre0 (by decide +kernel)
theorem dX8_log_32 : decode cX8_log 32 = .ok (.iload_n 1, 1) := DX8_log_32.1
theorem dX8_log_33 : decode cX8_log 33 = .ok (.iload_n 2, 1) := DX8_log_32.2.1
theorem dX8_log_34 : decode cX8_log 34 = .ok (.invokevirtual 323, 3) := DX8_log_32.2.2.1
theorem dX8_log_37 : decode cX8_log 37 = .ok (.ireturn, 1) := DX8_log_32.2.2.2.1
theorem mX8_log : gMv yX8_log cX8_log 3 (some .int) RX8 2 := ⟨q675, q676, q1, q677, rfl, by decide, by decide, by decide +kernel⟩
noncomputable def fX8_log (v1 : Int32) (v2 : Int32) (I : gM) : Option (Int32) :=
  if v1 < 0 then
    some ((-1000000) : Int32)
  else
    (fX2_shown 44 I).bind fun r1 =>
    if r1 ≤ v1 then
      some ((-1000000) : Int32)
    else
      if v2 < 0 then
        some ((-1000000) : Int32)
      else
        if v2 < 3 then
          (fX2_partOf 44 v1 v2 I).bind fun r2 =>
          some r2
        else
          some ((-1000000) : Int32)
set_option maxRecDepth 100000 in
set_option maxHeartbeats 4000000 in
theorem wX8_log (l : Launch) (E : gE) (hE : gDist sh E) (bk : Nat) (v1 : Int32) (v2 : Int32) (I : gM) (J : gN) {r : Int32} (h : fX8_log v1 v2 I = some r) : Cu l sh E bk yX8_log cX8_log 3 (some .int) (gR 2) [.ref (E.2.1 0), .int v1, .int v2] I J (fun r1 I1 J1 => r1 = some (.int r) ∧ I1 = I ∧ J1 = J) := by
  refine Cu.of "LeapJoin" rfl hE (by decide) (Nat.le_of_ble_eq_true rfl) (fun z F B e hl => ?_)
  subst hl
  unfold fX8_log at h
  refine g_iload_n F 1 dX8_log_0 rfl rfl ?_
  refine u_if_lt (tgt := 24) F dX8_log_1 (by decide) h (fun h => ?_) (fun h => ?_)
  · refine g_ldc_w F dX8_log_24 q555 ?_
    obtain rfl := Option.some.inj h
    exact g_iret F e dX8_log_27 ⟨rfl, rfl, rfl⟩
  · refine g_iload_n F 1 dX8_log_4 rfl rfl ?_
    refine g_aload_n F 0 dX8_log_5 rfl rfl ?_
    refine g_getr (j := 8) (nn := 44) F s0 rfl rfl uX8 (by decide) q177 dX8_log_6 ?_
    refine u_callV (k := 44) (As := []) (rest := [.int v1]) (sn := fun r1 => [.int r1, .int v1]) F B (fun _ => wX2_shown (zl z) E hE bk 44 shX2_44 I J) mX2_shown q678 rfl shX2_44.1 rfl rfl rfl (Nat.le_of_ble_eq_true rfl) dX8_log_9 (fun _ => rfl) h (fun r1 h => ?_)
    refine u_icmp_ge (tgt := 24) F dX8_log_12 (by decide) h (fun h => ?_) (fun h => ?_)
    · refine g_ldc_w F dX8_log_24 q555 ?_
      obtain rfl := Option.some.inj h
      exact g_iret F e dX8_log_27 ⟨rfl, rfl, rfl⟩
    · refine g_iload_n F 2 dX8_log_15 rfl rfl ?_
      refine u_if_lt (tgt := 24) F dX8_log_16 (by decide) h (fun h => ?_) (fun h => ?_)
      · refine g_ldc_w F dX8_log_24 q555 ?_
        obtain rfl := Option.some.inj h
        exact g_iret F e dX8_log_27 ⟨rfl, rfl, rfl⟩
      · refine g_iload_n F 2 dX8_log_19 rfl rfl ?_
        refine g_iconst (v := 3) F dX8_log_20 (by decide) ?_
        refine u_icmp_lt (tgt := 28) F dX8_log_21 (by decide) h (fun h => ?_) (fun h => ?_)
        · refine g_aload_n F 0 dX8_log_28 rfl rfl ?_
          refine g_getr (j := 8) (nn := 44) F s0 rfl rfl uX8 (by decide) q177 dX8_log_29 ?_
          refine g_iload_n F 1 dX8_log_32 rfl rfl ?_
          refine g_iload_n F 2 dX8_log_33 rfl rfl ?_
          refine u_callV (k := 44) (As := [.int v1, .int v2]) (rest := []) (sn := fun r2 => [.int r2]) F B (fun _ => wX2_partOf (zl z) E hE bk 44 v1 v2 shX2_44 I J) mX2_partOf q682 rfl shX2_44.1 rfl rfl rfl (Nat.le_of_ble_eq_true rfl) dX8_log_34 (fun _ => rfl) h (fun r2 h => ?_)
          obtain rfl := Option.some.inj h
          exact g_iret F e dX8_log_37 ⟨rfl, rfl, rfl⟩
        · refine g_ldc_w F dX8_log_24 q555 ?_
          obtain rfl := Option.some.inj h
          exact g_iret F e dX8_log_27 ⟨rfl, rfl, rfl⟩
theorem DX8_would_0 : dAre cX8_would [(0, .iload 5, 2), (2, .ifCond .lt 26, 3), (5, .iload 5, 2), (7, .iconst 1, 1), (8, .if_icmp .gt 20, 3), (11, .aload_n 0, 1), (12, .getfield 19, 3), (15, .iconst 0, 1), (16, .iload_n 1, 1), (17, .iload_n 2, 1), (18, .iload_n 3, 1), (19, .iload 4, 2), (21, .invokevirtual 275, 3), (24, .iconst (-1), 1), (25, .if_icmp .eq 5, 3), (28, .iconst (-1), 1)] := dAre0 (by decide +kernel)
theorem dX8_would_0 : decode cX8_would 0 = .ok (.iload 5, 2) := DX8_would_0.1
theorem dX8_would_2 : decode cX8_would 2 = .ok (.ifCond .lt 26, 3) := DX8_would_0.2.1
theorem dX8_would_5 : decode cX8_would 5 = .ok (.iload 5, 2) := DX8_would_0.2.2.1
theorem dX8_would_7 : decode cX8_would 7 = .ok (.iconst 1, 1) := DX8_would_0.2.2.2.1
theorem dX8_would_8 : decode cX8_would 8 = .ok (.if_icmp .gt 20, 3) := DX8_would_0.2.2.2.2.1
theorem dX8_would_11 : decode cX8_would 11 = .ok (.aload_n 0, 1) := DX8_would_0.2.2.2.2.2.1
theorem dX8_would_12 : decode cX8_would 12 = .ok (.getfield 19, 3) := DX8_would_0.2.2.2.2.2.2.1
theorem dX8_would_15 : decode cX8_would 15 = .ok (.iconst 0, 1) := DX8_would_0.2.2.2.2.2.2.2.1
theorem dX8_would_16 : decode cX8_would 16 = .ok (.iload_n 1, 1) := DX8_would_0.2.2.2.2.2.2.2.2.1
theorem dX8_would_17 : decode cX8_would 17 = .ok (.iload_n 2, 1) := DX8_would_0.2.2.2.2.2.2.2.2.2.1
theorem dX8_would_18 : decode cX8_would 18 = .ok (.iload_n 3, 1) := DX8_would_0.2.2.2.2.2.2.2.2.2.2.1
theorem dX8_would_19 : decode cX8_would 19 = .ok (.iload 4, 2) := DX8_would_0.2.2.2.2.2.2.2.2.2.2.2.1
theorem dX8_would_21 : decode cX8_would 21 = .ok (.invokevirtual 275, 3) := DX8_would_0.2.2.2.2.2.2.2.2.2.2.2.2.1
theorem dX8_would_24 : decode cX8_would 24 = .ok (.iconst (-1), 1) := DX8_would_0.2.2.2.2.2.2.2.2.2.2.2.2.2.1
theorem dX8_would_25 : decode cX8_would 25 = .ok (.if_icmp .eq 5, 3) := DX8_would_0.2.2.2.2.2.2.2.2.2.2.2.2.2.2.1
theorem dX8_would_28 : decode cX8_would 28 = .ok (.iconst (-1), 1) := DX8_would_0.2.2.2.2.2.2.2.2.2.2.2.2.2.2.2.1
theorem DX8_would_29 : dAre cX8_would [(29, .ireturn, 1), (30, .aload_n 0, 1), (31, .getfield 23, 3), (34, .aload_n 0, 1), (35, .getfield 19, 3), (38, .invokevirtual 123, 3), (41, .aload_n 0, 1), (42, .getfield 23, 3), (45, .iconst 0, 1), (46, .iload_n 1, 1), (47, .iload_n 2, 1), (48, .iload_n 3, 1), (49, .iload 4, 2), (51, .invokestatic 278, 3), (54, .invokevirtual 286, 3), (57, .aload_n 0, 1)] := dAre0 (by decide +kernel)
theorem dX8_would_29 : decode cX8_would 29 = .ok (.ireturn, 1) := DX8_would_29.1
theorem dX8_would_30 : decode cX8_would 30 = .ok (.aload_n 0, 1) := DX8_would_29.2.1
theorem dX8_would_31 : decode cX8_would 31 = .ok (.getfield 23, 3) := DX8_would_29.2.2.1
theorem dX8_would_34 : decode cX8_would 34 = .ok (.aload_n 0, 1) := DX8_would_29.2.2.2.1
theorem dX8_would_35 : decode cX8_would 35 = .ok (.getfield 19, 3) := DX8_would_29.2.2.2.2.1
theorem dX8_would_38 : decode cX8_would 38 = .ok (.invokevirtual 123, 3) := DX8_would_29.2.2.2.2.2.1
theorem dX8_would_41 : decode cX8_would 41 = .ok (.aload_n 0, 1) := DX8_would_29.2.2.2.2.2.2.1
theorem dX8_would_42 : decode cX8_would 42 = .ok (.getfield 23, 3) := DX8_would_29.2.2.2.2.2.2.2.1
theorem dX8_would_45 : decode cX8_would 45 = .ok (.iconst 0, 1) := DX8_would_29.2.2.2.2.2.2.2.2.1
theorem dX8_would_46 : decode cX8_would 46 = .ok (.iload_n 1, 1) := DX8_would_29.2.2.2.2.2.2.2.2.2.1
theorem dX8_would_47 : decode cX8_would 47 = .ok (.iload_n 2, 1) := DX8_would_29.2.2.2.2.2.2.2.2.2.2.1
theorem dX8_would_48 : decode cX8_would 48 = .ok (.iload_n 3, 1) := DX8_would_29.2.2.2.2.2.2.2.2.2.2.2.1
theorem dX8_would_49 : decode cX8_would 49 = .ok (.iload 4, 2) := DX8_would_29.2.2.2.2.2.2.2.2.2.2.2.2.1
theorem dX8_would_51 : decode cX8_would 51 = .ok (.invokestatic 278, 3) := DX8_would_29.2.2.2.2.2.2.2.2.2.2.2.2.2.1
theorem dX8_would_54 : decode cX8_would 54 = .ok (.invokevirtual 286, 3) := DX8_would_29.2.2.2.2.2.2.2.2.2.2.2.2.2.2.1
theorem dX8_would_57 : decode cX8_would 57 = .ok (.aload_n 0, 1) := DX8_would_29.2.2.2.2.2.2.2.2.2.2.2.2.2.2.2.1
theorem DX8_would_58 : dAre cX8_would [(58, .getfield 36, 3), (61, .aload_n 0, 1), (62, .getfield 23, 3), (65, .aload_n 0, 1), (66, .getfield 23, 3), (69, .getfield 140, 3), (72, .invokevirtual 143, 3), (75, .iload 5, 2), (77, .ifCond .ne 13, 3), (80, .aload_n 0, 1), (81, .getfield 36, 3), (84, .getfield 186, 3), (87, .goto 10, 3), (90, .aload_n 0, 1), (91, .getfield 36, 3), (94, .getfield 193, 3)] := dAre0 (by decide +kernel)
theorem dX8_would_58 : decode cX8_would 58 = .ok (.getfield 36, 3) := DX8_would_58.1
theorem dX8_would_61 : decode cX8_would 61 = .ok (.aload_n 0, 1) := DX8_would_58.2.1
theorem dX8_would_62 : decode cX8_would 62 = .ok (.getfield 23, 3) := DX8_would_58.2.2.1
theorem dX8_would_65 : decode cX8_would 65 = .ok (.aload_n 0, 1) := DX8_would_58.2.2.2.1
theorem dX8_would_66 : decode cX8_would 66 = .ok (.getfield 23, 3) := DX8_would_58.2.2.2.2.1
theorem dX8_would_69 : decode cX8_would 69 = .ok (.getfield 140, 3) := DX8_would_58.2.2.2.2.2.1
theorem dX8_would_72 : decode cX8_would 72 = .ok (.invokevirtual 143, 3) := DX8_would_58.2.2.2.2.2.2.1
theorem dX8_would_75 : decode cX8_would 75 = .ok (.iload 5, 2) := DX8_would_58.2.2.2.2.2.2.2.1
theorem dX8_would_77 : decode cX8_would 77 = .ok (.ifCond .ne 13, 3) := DX8_would_58.2.2.2.2.2.2.2.2.1
theorem dX8_would_80 : decode cX8_would 80 = .ok (.aload_n 0, 1) := DX8_would_58.2.2.2.2.2.2.2.2.2.1
theorem dX8_would_81 : decode cX8_would 81 = .ok (.getfield 36, 3) := DX8_would_58.2.2.2.2.2.2.2.2.2.2.1
theorem dX8_would_84 : decode cX8_would 84 = .ok (.getfield 186, 3) := DX8_would_58.2.2.2.2.2.2.2.2.2.2.2.1
theorem dX8_would_87 : decode cX8_would 87 = .ok (.goto 10, 3) := DX8_would_58.2.2.2.2.2.2.2.2.2.2.2.2.1
theorem dX8_would_90 : decode cX8_would 90 = .ok (.aload_n 0, 1) := DX8_would_58.2.2.2.2.2.2.2.2.2.2.2.2.2.1
theorem dX8_would_91 : decode cX8_would 91 = .ok (.getfield 36, 3) := DX8_would_58.2.2.2.2.2.2.2.2.2.2.2.2.2.2.1
theorem dX8_would_94 : decode cX8_would 94 = .ok (.getfield 193, 3) := DX8_would_58.2.2.2.2.2.2.2.2.2.2.2.2.2.2.2.1
theorem dX8_would_97 : decode cX8_would 97 = .ok (.ireturn, 1) := by decide +kernel
theorem mX8_would : gMv yX8_would cX8_would 6 (some .int) RX8 5 := ⟨q687, q688, q1, q689, rfl, by decide, by decide, by decide +kernel⟩
noncomputable def fX8_would (v1 : Int32) (v2 : Int32) (v3 : Int32) (v4 : Int32) (v5 : Int32) (I : gM) : Option (Int32 × gM) :=
  if v5 < 0 then
    some (((-1) : Int32), I)
  else
    if (1 : Int32) < v5 then
      some (((-1) : Int32), I)
    else
      (fX5_refusal 3 (0 : Int32) v1 v2 v3 v4 I).bind fun r1 =>
      if r1 = (-1) then
        (fX5_copyFrom 8 3 I).bind fun r2 =>
        (fX5_packed v2 v3 v4).bind fun r3 =>
        (fX5_change 8 (0 : Int32) v1 r3 r2).bind fun r4 =>
        (fX1_findBy 29 8 (r4 8 2) r4).bind fun r5 =>
        if v5 = 0 then
          some (r5 29 0, r5)
        else
          some (r5 29 1, r5)
      else
        some (((-1) : Int32), I)
set_option maxRecDepth 100000 in
set_option maxHeartbeats 4000000 in
theorem wX8_would (l : Launch) (E : gE) (hE : gDist sh E) (bk : Nat) (v1 : Int32) (v2 : Int32) (v3 : Int32) (v4 : Int32) (v5 : Int32) (I : gM) (J : gN) {r : Int32 × gM} (h : fX8_would v1 v2 v3 v4 v5 I = some r) : Cu l sh E bk yX8_would cX8_would 6 (some .int) (gR 16) [.ref (E.2.1 0), .int v1, .int v2, .int v3, .int v4, .int v5] I J (fun r1 I1 J1 => r1 = some (.int r.1) ∧ I1 = r.2 ∧ J1 = J) := by
  refine Cu.of "LeapJoin" rfl hE (by decide) (Nat.le_of_ble_eq_true rfl) (fun z F B e hl => ?_)
  subst hl
  unfold fX8_would at h
  refine g_iload F 5 dX8_would_0 rfl ?_
  refine u_if_lt (tgt := 28) F dX8_would_2 (by decide) h (fun h => ?_) (fun h => ?_)
  · refine g_iconst (v := (-1)) F dX8_would_28 (by decide) ?_
    obtain rfl := Option.some.inj h
    exact g_iret F e dX8_would_29 ⟨rfl, rfl, rfl⟩
  · refine g_iload F 5 dX8_would_5 rfl ?_
    refine g_iconst (v := 1) F dX8_would_7 (by decide) ?_
    refine u_icmp_gt (tgt := 28) F dX8_would_8 (by decide) h (fun h => ?_) (fun h => ?_)
    · refine g_iconst (v := (-1)) F dX8_would_28 (by decide) ?_
      obtain rfl := Option.some.inj h
      exact g_iret F e dX8_would_29 ⟨rfl, rfl, rfl⟩
    · refine g_aload_n F 0 dX8_would_11 rfl rfl ?_
      refine g_getr (j := 1) (nn := 3) F s0 rfl rfl uX8 (by decide) q170 dX8_would_12 ?_
      refine g_iconst (v := 0) F dX8_would_15 (by decide) ?_
      refine g_iload_n F 1 dX8_would_16 rfl rfl ?_
      refine g_iload_n F 2 dX8_would_17 rfl rfl ?_
      refine g_iload_n F 3 dX8_would_18 rfl rfl ?_
      refine g_iload F 4 dX8_would_19 rfl ?_
      refine u_callV (k := 3) (As := [.int 0, .int v1, .int v2, .int v3, .int v4]) (rest := []) (sn := fun r1 => [.int r1]) F B (fun _ => wX5_refusal (zl z) E hE bk 3 (0 : Int32) v1 v2 v3 v4 shX5_3 I J) mX5_refusal q584 rfl shX5_3.1 rfl rfl rfl (Nat.le_of_ble_eq_true rfl) dX8_would_21 (fun _ => rfl) h (fun r1 h => ?_)
      refine g_iconst (v := (-1)) F dX8_would_24 (by decide) ?_
      refine u_icmp_eq (tgt := 30) F dX8_would_25 (by decide) h (fun h => ?_) (fun h => ?_)
      · refine g_aload_n F 0 dX8_would_30 rfl rfl ?_
        refine g_getr (j := 2) (nn := 8) F s0 rfl rfl uX8 (by decide) q171 dX8_would_31 ?_
        refine g_aload_n F 0 dX8_would_34 rfl rfl ?_
        refine g_getr (j := 1) (nn := 3) F s0 rfl rfl uX8 (by decide) q170 dX8_would_35 ?_
        refine u_callV (k := 8) (As := [.ref (E.2.1 3)]) (rest := []) (sn := fun _ => []) F B (fun _ => wX5_copyFrom (zl z) E hE bk 8 3 shX5_8 shX5_3 I J) mX5_copyFrom q314 rfl shX5_8.1 rfl rfl rfl (Nat.le_of_ble_eq_true rfl) dX8_would_38 (fun _ => rfl) h (fun r2 h => ?_)
        refine g_aload_n F 0 dX8_would_41 rfl rfl ?_
        refine g_getr (j := 2) (nn := 8) F s0 rfl rfl uX8 (by decide) q171 dX8_would_42 ?_
        refine g_iconst (v := 0) F dX8_would_45 (by decide) ?_
        refine g_iload_n F 1 dX8_would_46 rfl rfl ?_
        refine g_iload_n F 2 dX8_would_47 rfl rfl ?_
        refine g_iload_n F 3 dX8_would_48 rfl rfl ?_
        refine g_iload F 4 dX8_would_49 rfl ?_
        refine u_callS (As := [.int v2, .int v3, .int v4]) (rest := [.int v1, .int 0, .ref (E.2.1 8)]) (sn := fun r3 => [.int r3, .int v1, .int 0, .ref (E.2.1 8)]) F B (fun _ => wX5_packed (zl z) E hE bk v2 v3 v4 r2 J) mX5_packed q595 rfl rfl rfl (Nat.le_of_ble_eq_true rfl) dX8_would_51 (fun _ => rfl) h (fun r3 h => ?_)
        refine u_callV (k := 8) (As := [.int 0, .int v1, .int r3]) (rest := []) (sn := fun _ => []) F B (fun _ => wX5_change (zl z) E hE bk 8 (0 : Int32) v1 r3 shX5_8 r2 J) mX5_change q603 rfl shX5_8.1 rfl rfl rfl (Nat.le_of_ble_eq_true rfl) dX8_would_54 (fun _ => rfl) h (fun r4 h => ?_)
        refine g_aload_n F 0 dX8_would_57 rfl rfl ?_
        refine g_getr (j := 5) (nn := 29) F s0 rfl rfl uX8 (by decide) q174 dX8_would_58 ?_
        refine g_aload_n F 0 dX8_would_61 rfl rfl ?_
        refine g_getr (j := 2) (nn := 8) F s0 rfl rfl uX8 (by decide) q171 dX8_would_62 ?_
        refine g_aload_n F 0 dX8_would_65 rfl rfl ?_
        refine g_getr (j := 2) (nn := 8) F s0 rfl rfl uX8 (by decide) q171 dX8_would_66 ?_
        refine g_geti (j := 2) (v := r4 8 2) F shX5_8.1 rfl rfl uX5 (by decide) q54 rfl dX8_would_69 ?_
        refine u_callV (k := 29) (As := [.ref (E.2.1 8), .int (r4 8 2)]) (rest := []) (sn := fun _ => []) F B (fun _ => wX1_findBy (zl z) E hE bk 29 8 (r4 8 2) shX1_29 shX5_8 r4 J) mX1_findBy q331 rfl shX1_29.1 rfl rfl rfl (Nat.le_of_ble_eq_true rfl) dX8_would_72 (fun _ => rfl) h (fun r5 h => ?_)
        refine g_iload F 5 dX8_would_75 rfl ?_
        refine u_if_ne (tgt := 90) F dX8_would_77 (by decide) h (fun h => ?_) (fun h => ?_)
        · refine g_aload_n F 0 dX8_would_80 rfl rfl ?_
          refine g_getr (j := 5) (nn := 29) F s0 rfl rfl uX8 (by decide) q174 dX8_would_81 ?_
          refine g_geti (j := 0) (v := r5 29 0) F shX1_29.1 rfl rfl uX1 (by decide) q79 rfl dX8_would_84 ?_
          refine g_goto (tgt := 97) F dX8_would_87 (by decide) ?_
          obtain rfl := Option.some.inj h
          exact g_iret F e dX8_would_97 ⟨rfl, rfl, rfl⟩
        · refine g_aload_n F 0 dX8_would_90 rfl rfl ?_
          refine g_getr (j := 5) (nn := 29) F s0 rfl rfl uX8 (by decide) q174 dX8_would_91 ?_
          refine g_geti (j := 1) (v := r5 29 1) F shX1_29.1 rfl rfl uX1 (by decide) q82 rfl dX8_would_94 ?_
          obtain rfl := Option.some.inj h
          exact g_iret F e dX8_would_97 ⟨rfl, rfl, rfl⟩
      · refine g_iconst (v := (-1)) F dX8_would_28 (by decide) ?_
        obtain rfl := Option.some.inj h
        exact g_iret F e dX8_would_29 ⟨rfl, rfl, rfl⟩
theorem DX8_isScript_0 : dAre cX8_isScript [(0, .iload_n 1, 1), (1, .ifCond .lt 20, 3), (4, .iload_n 1, 1), (5, .aload_n 0, 1), (6, .getfield 85, 3), (9, .if_icmp .ge 12, 3), (12, .iload_n 1, 1), (13, .iconst 4, 1), (14, .if_icmp .ge 7, 3), (17, .iconst 1, 1), (18, .goto 4, 3), (21, .iconst 0, 1), (22, .ireturn, 1)] := dAre0 (by decide +kernel)
theorem dX8_isScript_0 : decode cX8_isScript 0 = .ok (.iload_n 1, 1) := DX8_isScript_0.1
theorem dX8_isScript_1 : decode cX8_isScript 1 = .ok (.ifCond .lt 20, 3) := DX8_isScript_0.2.1
theorem dX8_isScript_4 : decode cX8_isScript 4 = .ok (.iload_n 1, 1) := DX8_isScript_0.2.2.1
theorem dX8_isScript_5 : decode cX8_isScript 5 = .ok (.aload_n 0, 1) := DX8_isScript_0.2.2.2.1
theorem dX8_isScript_6 : decode cX8_isScript 6 = .ok (.getfield 85, 3) := DX8_isScript_0.2.2.2.2.1
theorem dX8_isScript_9 : decode cX8_isScript 9 = .ok (.if_icmp .ge 12, 3) := DX8_isScript_0.2.2.2.2.2.1
theorem dX8_isScript_12 : decode cX8_isScript 12 = .ok (.iload_n 1, 1) := DX8_isScript_0.2.2.2.2.2.2.1
theorem dX8_isScript_13 : decode cX8_isScript 13 = .ok (.iconst 4, 1) := DX8_isScript_0.2.2.2.2.2.2.2.1
theorem dX8_isScript_14 : decode cX8_isScript 14 = .ok (.if_icmp .ge 7, 3) := DX8_isScript_0.2.2.2.2.2.2.2.2.1
theorem dX8_isScript_17 : decode cX8_isScript 17 = .ok (.iconst 1, 1) := DX8_isScript_0.2.2.2.2.2.2.2.2.2.1
theorem dX8_isScript_18 : decode cX8_isScript 18 = .ok (.goto 4, 3) := DX8_isScript_0.2.2.2.2.2.2.2.2.2.2.1
theorem dX8_isScript_21 : decode cX8_isScript 21 = .ok (.iconst 0, 1) := DX8_isScript_0.2.2.2.2.2.2.2.2.2.2.2.1
theorem dX8_isScript_22 : decode cX8_isScript 22 = .ok (.ireturn, 1) := DX8_isScript_0.2.2.2.2.2.2.2.2.2.2.2.2.1
theorem mX8_isScript : gMv yX8_isScript cX8_isScript 2 (some .boolean) RX8 1 := ⟨q695, q1375, q1, q696, rfl, by decide, by decide, by decide +kernel⟩
noncomputable def fX8_isScript (v1 : Int32) (I : gM) : Option (Int32) :=
  if v1 < 0 then
    some (0 : Int32)
  else
    if (I 0 14) ≤ v1 then
      some (0 : Int32)
    else
      if (4 : Int32) ≤ v1 then
        some (0 : Int32)
      else
        some (1 : Int32)
set_option maxRecDepth 100000 in
set_option maxHeartbeats 4000000 in
theorem wX8_isScript (l : Launch) (E : gE) (hE : gDist sh E) (bk : Nat) (v1 : Int32) (I : gM) (J : gN) {r : Int32} (h : fX8_isScript v1 I = some r) : Cu l sh E bk yX8_isScript cX8_isScript 2 (some .boolean) (gR 0) [.ref (E.2.1 0), .int v1] I J (fun r1 I1 J1 => r1 = some (.int r) ∧ I1 = I ∧ J1 = J) := by
  refine Cu.of "LeapJoin" rfl hE (by decide) (Nat.le_of_ble_eq_true rfl) (fun z F B e hl => ?_)
  subst hl
  unfold fX8_isScript at h
  refine g_iload_n F 1 dX8_isScript_0 rfl rfl ?_
  refine u_if_lt (tgt := 21) F dX8_isScript_1 (by decide) h (fun h => ?_) (fun h => ?_)
  · refine g_iconst (v := 0) F dX8_isScript_21 (by decide) ?_
    obtain rfl := Option.some.inj h
    exact g_zret F rfl e dX8_isScript_22 ⟨rfl, rfl, rfl⟩
  · refine g_iload_n F 1 dX8_isScript_4 rfl rfl ?_
    refine g_aload_n F 0 dX8_isScript_5 rfl rfl ?_
    refine g_geti (j := 14) (v := I 0 14) F s0 rfl rfl uX8 (by decide) q183 rfl dX8_isScript_6 ?_
    refine u_icmp_ge (tgt := 21) F dX8_isScript_9 (by decide) h (fun h => ?_) (fun h => ?_)
    · refine g_iconst (v := 0) F dX8_isScript_21 (by decide) ?_
      obtain rfl := Option.some.inj h
      exact g_zret F rfl e dX8_isScript_22 ⟨rfl, rfl, rfl⟩
    · refine g_iload_n F 1 dX8_isScript_12 rfl rfl ?_
      refine g_iconst (v := 4) F dX8_isScript_13 (by decide) ?_
      refine u_icmp_ge (tgt := 21) F dX8_isScript_14 (by decide) h (fun h => ?_) (fun h => ?_)
      · refine g_iconst (v := 0) F dX8_isScript_21 (by decide) ?_
        obtain rfl := Option.some.inj h
        exact g_zret F rfl e dX8_isScript_22 ⟨rfl, rfl, rfl⟩
      · refine g_iconst (v := 1) F dX8_isScript_17 (by decide) ?_
        refine g_goto (tgt := 22) F dX8_isScript_18 (by decide) ?_
        obtain rfl := Option.some.inj h
        exact g_zret F rfl e dX8_isScript_22 ⟨rfl, rfl, rfl⟩
theorem DX8_step_0 : dAre cX8_step [(0, .aload_n 0, 1), (1, .iload_n 1, 1), (2, .invokevirtual 326, 3), (5, .ifCond .eq 29, 3), (8, .iload_n 2, 1), (9, .ifCond .lt 25, 3), (12, .iload_n 2, 1), (13, .aload_n 0, 1), (14, .getfield 72, 3), (17, .iload_n 1, 1), (18, .aaload, 1), (19, .getfield 329, 3), (22, .if_icmp .ge 12, 3), (25, .iload_n 3, 1), (26, .ifCond .lt 8, 3), (29, .iload_n 3, 1)] := dAre0 (by decide +kernel)
theorem dX8_step_0 : decode cX8_step 0 = .ok (.aload_n 0, 1) := DX8_step_0.1
theorem dX8_step_1 : decode cX8_step 1 = .ok (.iload_n 1, 1) := DX8_step_0.2.1
theorem dX8_step_2 : decode cX8_step 2 = .ok (.invokevirtual 326, 3) := DX8_step_0.2.2.1
theorem dX8_step_5 : decode cX8_step 5 = .ok (.ifCond .eq 29, 3) := DX8_step_0.2.2.2.1
theorem dX8_step_8 : decode cX8_step 8 = .ok (.iload_n 2, 1) := DX8_step_0.2.2.2.2.1
theorem dX8_step_9 : decode cX8_step 9 = .ok (.ifCond .lt 25, 3) := DX8_step_0.2.2.2.2.2.1
theorem dX8_step_12 : decode cX8_step 12 = .ok (.iload_n 2, 1) := DX8_step_0.2.2.2.2.2.2.1
theorem dX8_step_13 : decode cX8_step 13 = .ok (.aload_n 0, 1) := DX8_step_0.2.2.2.2.2.2.2.1
theorem dX8_step_14 : decode cX8_step 14 = .ok (.getfield 72, 3) := DX8_step_0.2.2.2.2.2.2.2.2.1
theorem dX8_step_17 : decode cX8_step 17 = .ok (.iload_n 1, 1) := DX8_step_0.2.2.2.2.2.2.2.2.2.1
theorem dX8_step_18 : decode cX8_step 18 = .ok (.aaload, 1) := DX8_step_0.2.2.2.2.2.2.2.2.2.2.1
theorem dX8_step_19 : decode cX8_step 19 = .ok (.getfield 329, 3) := DX8_step_0.2.2.2.2.2.2.2.2.2.2.2.1
theorem dX8_step_22 : decode cX8_step 22 = .ok (.if_icmp .ge 12, 3) := DX8_step_0.2.2.2.2.2.2.2.2.2.2.2.2.1
theorem dX8_step_25 : decode cX8_step 25 = .ok (.iload_n 3, 1) := DX8_step_0.2.2.2.2.2.2.2.2.2.2.2.2.2.1
theorem dX8_step_26 : decode cX8_step 26 = .ok (.ifCond .lt 8, 3) := DX8_step_0.2.2.2.2.2.2.2.2.2.2.2.2.2.2.1
theorem dX8_step_29 : decode cX8_step 29 = .ok (.iload_n 3, 1) := DX8_step_0.2.2.2.2.2.2.2.2.2.2.2.2.2.2.2.1
theorem DX8_step_30 : dAre cX8_step [(30, .iconst 5, 1), (31, .if_icmp .lt 7, 3), (34, .ldc_w 260, 3), (37, .ireturn, 1), (38, .aload_n 0, 1), (39, .getfield 72, 3), (42, .iload_n 1, 1), (43, .aaload, 1), (44, .iload_n 2, 1), (45, .iload_n 3, 1), (46, .invokevirtual 330, 3), (49, .ireturn, 1)] := dAre0 (by decide +kernel)
theorem dX8_step_30 : decode cX8_step 30 = .ok (.iconst 5, 1) := DX8_step_30.1
theorem dX8_step_31 : decode cX8_step 31 = .ok (.if_icmp .lt 7, 3) := DX8_step_30.2.1
theorem dX8_step_34 : decode cX8_step 34 = .ok (.ldc_w 260, 3) := DX8_step_30.2.2.1
theorem dX8_step_37 : decode cX8_step 37 = .ok (.ireturn, 1) := DX8_step_30.2.2.2.1
theorem dX8_step_38 : decode cX8_step 38 = .ok (.aload_n 0, 1) := DX8_step_30.2.2.2.2.1
theorem dX8_step_39 : decode cX8_step 39 = .ok (.getfield 72, 3) := DX8_step_30.2.2.2.2.2.1
theorem dX8_step_42 : decode cX8_step 42 = .ok (.iload_n 1, 1) := DX8_step_30.2.2.2.2.2.2.1
theorem dX8_step_43 : decode cX8_step 43 = .ok (.aaload, 1) := DX8_step_30.2.2.2.2.2.2.2.1
theorem dX8_step_44 : decode cX8_step 44 = .ok (.iload_n 2, 1) := DX8_step_30.2.2.2.2.2.2.2.2.1
theorem dX8_step_45 : decode cX8_step 45 = .ok (.iload_n 3, 1) := DX8_step_30.2.2.2.2.2.2.2.2.2.1
theorem dX8_step_46 : decode cX8_step 46 = .ok (.invokevirtual 330, 3) := DX8_step_30.2.2.2.2.2.2.2.2.2.2.1
theorem dX8_step_49 : decode cX8_step 49 = .ok (.ireturn, 1) := DX8_step_30.2.2.2.2.2.2.2.2.2.2.2.1
theorem mX8_step : gMv yX8_step cX8_step 4 (some .int) RX8 3 := ⟨q691, q692, q1, q693, rfl, by decide, by decide, by decide +kernel⟩
noncomputable def fX8_step (v1 : Int32) (v2 : Int32) (v3 : Int32) (I : gM) : Option (Int32) :=
  (fX8_isScript v1 I).bind fun r1 =>
  if r1 = 0 then
    some ((-1000000) : Int32)
  else
    if v2 < 0 then
      some ((-1000000) : Int32)
    else
      (rA 4 v1).bind fun k2 =>
      if (I k2 0) ≤ v2 then
        some ((-1000000) : Int32)
      else
        if v3 < 0 then
          some ((-1000000) : Int32)
        else
          if v3 < 5 then
            (rA 4 v1).bind fun k3 =>
            (fX4_partOf k3 v2 v3 I).bind fun r4 =>
            some r4
          else
            some ((-1000000) : Int32)
set_option maxRecDepth 100000 in
set_option maxHeartbeats 4000000 in
theorem wX8_step (l : Launch) (E : gE) (hE : gDist sh E) (bk : Nat) (v1 : Int32) (v2 : Int32) (v3 : Int32) (I : gM) (J : gN) {r : Int32} (h : fX8_step v1 v2 v3 I = some r) : Cu l sh E bk yX8_step cX8_step 4 (some .int) (gR 1) [.ref (E.2.1 0), .int v1, .int v2, .int v3] I J (fun r1 I1 J1 => r1 = some (.int r) ∧ I1 = I ∧ J1 = J) := by
  refine Cu.of "LeapJoin" rfl hE (by decide) (Nat.le_of_ble_eq_true rfl) (fun z F B e hl => ?_)
  subst hl
  unfold fX8_step at h
  refine g_aload_n F 0 dX8_step_0 rfl rfl ?_
  refine g_iload_n F 1 dX8_step_1 rfl rfl ?_
  refine u_callV (k := 0) (As := [.int v1]) (rest := []) (sn := fun r1 => [.int r1]) F B (fun _ => wX8_isScript (zl z) E hE bk v1 I J) mX8_isScript q694 rfl s0 rfl rfl rfl (Nat.le_of_ble_eq_true rfl) dX8_step_2 (fun _ => rfl) h (fun r1 h => ?_)
  refine u_if_eq (tgt := 34) F dX8_step_5 (by decide) h (fun h => ?_) (fun h => ?_)
  · refine g_ldc_w F dX8_step_34 q555 ?_
    obtain rfl := Option.some.inj h
    exact g_iret F e dX8_step_37 ⟨rfl, rfl, rfl⟩
  · refine g_iload_n F 2 dX8_step_8 rfl rfl ?_
    refine u_if_lt (tgt := 34) F dX8_step_9 (by decide) h (fun h => ?_) (fun h => ?_)
    · refine g_ldc_w F dX8_step_34 q555 ?_
      obtain rfl := Option.some.inj h
      exact g_iret F e dX8_step_37 ⟨rfl, rfl, rfl⟩
    · refine g_iload_n F 2 dX8_step_12 rfl rfl ?_
      refine g_aload_n F 0 dX8_step_13 rfl rfl ?_
      refine g_getr (j := 11) (nn := 50) F s0 rfl rfl uX8 (by decide) q180 dX8_step_14 ?_
      refine g_iload_n F 1 dX8_step_17 rfl rfl ?_
      refine u_aald F dX8_step_18 h (fun k2 hk2 h => ?_)
      refine g_geti (j := 0) (v := I k2 0) F hk2.1 rfl rfl uX4 (by decide) q165 rfl dX8_step_19 ?_
      refine u_icmp_ge (tgt := 34) F dX8_step_22 (by decide) h (fun h => ?_) (fun h => ?_)
      · refine g_ldc_w F dX8_step_34 q555 ?_
        obtain rfl := Option.some.inj h
        exact g_iret F e dX8_step_37 ⟨rfl, rfl, rfl⟩
      · refine g_iload_n F 3 dX8_step_25 rfl rfl ?_
        refine u_if_lt (tgt := 34) F dX8_step_26 (by decide) h (fun h => ?_) (fun h => ?_)
        · refine g_ldc_w F dX8_step_34 q555 ?_
          obtain rfl := Option.some.inj h
          exact g_iret F e dX8_step_37 ⟨rfl, rfl, rfl⟩
        · refine g_iload_n F 3 dX8_step_29 rfl rfl ?_
          refine g_iconst (v := 5) F dX8_step_30 (by decide) ?_
          refine u_icmp_lt (tgt := 38) F dX8_step_31 (by decide) h (fun h => ?_) (fun h => ?_)
          · refine g_aload_n F 0 dX8_step_38 rfl rfl ?_
            refine g_getr (j := 11) (nn := 50) F s0 rfl rfl uX8 (by decide) q180 dX8_step_39 ?_
            refine g_iload_n F 1 dX8_step_42 rfl rfl ?_
            refine u_aald F dX8_step_43 h (fun k3 hk3 h => ?_)
            refine g_iload_n F 2 dX8_step_44 rfl rfl ?_
            refine g_iload_n F 3 dX8_step_45 rfl rfl ?_
            refine u_callV (k := k3) (As := [.int v2, .int v3]) (rest := []) (sn := fun r4 => [.int r4]) F B (fun _ => wX4_partOf (zl z) E hE bk k3 v2 v3 hk3 I J) mX4_partOf q697 rfl hk3.1 rfl rfl rfl (Nat.le_of_ble_eq_true rfl) dX8_step_46 (fun _ => rfl) h (fun r4 h => ?_)
            obtain rfl := Option.some.inj h
            exact g_iret F e dX8_step_49 ⟨rfl, rfl, rfl⟩
          · refine g_ldc_w F dX8_step_34 q555 ?_
            obtain rfl := Option.some.inj h
            exact g_iret F e dX8_step_37 ⟨rfl, rfl, rfl⟩
theorem DX8_run_0 : dAre cX8_run [(0, .aload_n 0, 1), (1, .iload_n 1, 1), (2, .invokevirtual 326, 3), (5, .ifCond .eq 22, 3), (8, .aload_n 0, 1), (9, .getfield 19, 3), (12, .getfield 134, 3), (15, .ifCond .eq 12, 3), (18, .iload_n 2, 1), (19, .ifCond .lt 8, 3), (22, .iload_n 2, 1), (23, .iconst 1, 1), (24, .if_icmp .le 7, 3), (27, .ldc_w 260, 3), (30, .ireturn, 1), (31, .aload_n 0, 1)] := dAre0 (by decide +kernel)
theorem dX8_run_0 : decode cX8_run 0 = .ok (.aload_n 0, 1) := DX8_run_0.1
theorem dX8_run_1 : decode cX8_run 1 = .ok (.iload_n 1, 1) := DX8_run_0.2.1
theorem dX8_run_2 : decode cX8_run 2 = .ok (.invokevirtual 326, 3) := DX8_run_0.2.2.1
theorem dX8_run_5 : decode cX8_run 5 = .ok (.ifCond .eq 22, 3) := DX8_run_0.2.2.2.1
theorem dX8_run_8 : decode cX8_run 8 = .ok (.aload_n 0, 1) := DX8_run_0.2.2.2.2.1
theorem dX8_run_9 : decode cX8_run 9 = .ok (.getfield 19, 3) := DX8_run_0.2.2.2.2.2.1
theorem dX8_run_12 : decode cX8_run 12 = .ok (.getfield 134, 3) := DX8_run_0.2.2.2.2.2.2.1
theorem dX8_run_15 : decode cX8_run 15 = .ok (.ifCond .eq 12, 3) := DX8_run_0.2.2.2.2.2.2.2.1
theorem dX8_run_18 : decode cX8_run 18 = .ok (.iload_n 2, 1) := DX8_run_0.2.2.2.2.2.2.2.2.1
theorem dX8_run_19 : decode cX8_run 19 = .ok (.ifCond .lt 8, 3) := DX8_run_0.2.2.2.2.2.2.2.2.2.1
theorem dX8_run_22 : decode cX8_run 22 = .ok (.iload_n 2, 1) := DX8_run_0.2.2.2.2.2.2.2.2.2.2.1
theorem dX8_run_23 : decode cX8_run 23 = .ok (.iconst 1, 1) := DX8_run_0.2.2.2.2.2.2.2.2.2.2.2.1
theorem dX8_run_24 : decode cX8_run 24 = .ok (.if_icmp .le 7, 3) := DX8_run_0.2.2.2.2.2.2.2.2.2.2.2.2.1
theorem dX8_run_27 : decode cX8_run 27 = .ok (.ldc_w 260, 3) := DX8_run_0.2.2.2.2.2.2.2.2.2.2.2.2.2.1
theorem dX8_run_30 : decode cX8_run 30 = .ok (.ireturn, 1) := DX8_run_0.2.2.2.2.2.2.2.2.2.2.2.2.2.2.1
theorem dX8_run_31 : decode cX8_run 31 = .ok (.aload_n 0, 1) := DX8_run_0.2.2.2.2.2.2.2.2.2.2.2.2.2.2.2.1
theorem DX8_run_32 : dAre cX8_run [(32, .getfield 23, 3), (35, .aload_n 0, 1), (36, .getfield 19, 3), (39, .invokevirtual 123, 3), (42, .aload_n 0, 1), (43, .getfield 72, 3), (46, .iload_n 1, 1), (47, .aaload, 1), (48, .aload_n 0, 1), (49, .getfield 23, 3), (52, .invokevirtual 331, 3), (55, .istore_n 3, 1), (56, .iload_n 2, 1), (57, .ifCond .ne 22, 3), (60, .iload_n 3, 1), (61, .aload_n 0, 1)] := dAre0 (by decide +kernel)
theorem dX8_run_32 : decode cX8_run 32 = .ok (.getfield 23, 3) := DX8_run_32.1
theorem dX8_run_35 : decode cX8_run 35 = .ok (.aload_n 0, 1) := DX8_run_32.2.1
theorem dX8_run_36 : decode cX8_run 36 = .ok (.getfield 19, 3) := DX8_run_32.2.2.1
theorem dX8_run_39 : decode cX8_run 39 = .ok (.invokevirtual 123, 3) := DX8_run_32.2.2.2.1
theorem dX8_run_42 : decode cX8_run 42 = .ok (.aload_n 0, 1) := DX8_run_32.2.2.2.2.1
theorem dX8_run_43 : decode cX8_run 43 = .ok (.getfield 72, 3) := DX8_run_32.2.2.2.2.2.1
theorem dX8_run_46 : decode cX8_run 46 = .ok (.iload_n 1, 1) := DX8_run_32.2.2.2.2.2.2.1
theorem dX8_run_47 : decode cX8_run 47 = .ok (.aaload, 1) := DX8_run_32.2.2.2.2.2.2.2.1
theorem dX8_run_48 : decode cX8_run 48 = .ok (.aload_n 0, 1) := DX8_run_32.2.2.2.2.2.2.2.2.1
theorem dX8_run_49 : decode cX8_run 49 = .ok (.getfield 23, 3) := DX8_run_32.2.2.2.2.2.2.2.2.2.1
theorem dX8_run_52 : decode cX8_run 52 = .ok (.invokevirtual 331, 3) := DX8_run_32.2.2.2.2.2.2.2.2.2.2.1
theorem dX8_run_55 : decode cX8_run 55 = .ok (.istore_n 3, 1) := DX8_run_32.2.2.2.2.2.2.2.2.2.2.2.1
theorem dX8_run_56 : decode cX8_run 56 = .ok (.iload_n 2, 1) := DX8_run_32.2.2.2.2.2.2.2.2.2.2.2.2.1
theorem dX8_run_57 : decode cX8_run 57 = .ok (.ifCond .ne 22, 3) := DX8_run_32.2.2.2.2.2.2.2.2.2.2.2.2.2.1
theorem dX8_run_60 : decode cX8_run 60 = .ok (.iload_n 3, 1) := DX8_run_32.2.2.2.2.2.2.2.2.2.2.2.2.2.2.1
theorem dX8_run_61 : decode cX8_run 61 = .ok (.aload_n 0, 1) := DX8_run_32.2.2.2.2.2.2.2.2.2.2.2.2.2.2.2.1
theorem DX8_run_62 : dAre cX8_run [(62, .getfield 72, 3), (65, .iload_n 1, 1), (66, .aaload, 1), (67, .getfield 329, 3), (70, .if_icmp .ne 7, 3), (73, .iconst (-1), 1), (74, .goto 4, 3), (77, .iload_n 3, 1), (78, .ireturn, 1), (79, .aload_n 0, 1), (80, .getfield 36, 3), (83, .aload_n 0, 1), (84, .getfield 23, 3), (87, .aload_n 0, 1), (88, .getfield 23, 3), (91, .getfield 140, 3)] := dAre0 (by decide +kernel)
theorem dX8_run_62 : decode cX8_run 62 = .ok (.getfield 72, 3) := DX8_run_62.1
theorem dX8_run_65 : decode cX8_run 65 = .ok (.iload_n 1, 1) := DX8_run_62.2.1
theorem dX8_run_66 : decode cX8_run 66 = .ok (.aaload, 1) := DX8_run_62.2.2.1
theorem dX8_run_67 : decode cX8_run 67 = .ok (.getfield 329, 3) := DX8_run_62.2.2.2.1
theorem dX8_run_70 : decode cX8_run 70 = .ok (.if_icmp .ne 7, 3) := DX8_run_62.2.2.2.2.1
theorem dX8_run_73 : decode cX8_run 73 = .ok (.iconst (-1), 1) := DX8_run_62.2.2.2.2.2.1
theorem dX8_run_74 : decode cX8_run 74 = .ok (.goto 4, 3) := DX8_run_62.2.2.2.2.2.2.1
theorem dX8_run_77 : decode cX8_run 77 = .ok (.iload_n 3, 1) := DX8_run_62.2.2.2.2.2.2.2.1
theorem dX8_run_78 : decode cX8_run 78 = .ok (.ireturn, 1) := DX8_run_62.2.2.2.2.2.2.2.2.1
theorem dX8_run_79 : decode cX8_run 79 = .ok (.aload_n 0, 1) := DX8_run_62.2.2.2.2.2.2.2.2.2.1
theorem dX8_run_80 : decode cX8_run 80 = .ok (.getfield 36, 3) := DX8_run_62.2.2.2.2.2.2.2.2.2.2.1
theorem dX8_run_83 : decode cX8_run 83 = .ok (.aload_n 0, 1) := DX8_run_62.2.2.2.2.2.2.2.2.2.2.2.1
theorem dX8_run_84 : decode cX8_run 84 = .ok (.getfield 23, 3) := DX8_run_62.2.2.2.2.2.2.2.2.2.2.2.2.1
theorem dX8_run_87 : decode cX8_run 87 = .ok (.aload_n 0, 1) := DX8_run_62.2.2.2.2.2.2.2.2.2.2.2.2.2.1
theorem dX8_run_88 : decode cX8_run 88 = .ok (.getfield 23, 3) := DX8_run_62.2.2.2.2.2.2.2.2.2.2.2.2.2.2.1
theorem dX8_run_91 : decode cX8_run 91 = .ok (.getfield 140, 3) := DX8_run_62.2.2.2.2.2.2.2.2.2.2.2.2.2.2.2.1
theorem DX8_run_94 : dAre cX8_run [(94, .invokevirtual 143, 3), (97, .aload_n 0, 1), (98, .getfield 36, 3), (101, .getfield 186, 3), (104, .ireturn, 1)] := dAre0 (by decide +kernel)
theorem dX8_run_94 : decode cX8_run 94 = .ok (.invokevirtual 143, 3) := DX8_run_94.1
theorem dX8_run_97 : decode cX8_run 97 = .ok (.aload_n 0, 1) := DX8_run_94.2.1
theorem dX8_run_98 : decode cX8_run 98 = .ok (.getfield 36, 3) := DX8_run_94.2.2.1
theorem dX8_run_101 : decode cX8_run 101 = .ok (.getfield 186, 3) := DX8_run_94.2.2.2.1
theorem dX8_run_104 : decode cX8_run 104 = .ok (.ireturn, 1) := DX8_run_94.2.2.2.2.1
theorem mX8_run : gMv yX8_run cX8_run 4 (some .int) RX8 2 := ⟨q702, q703, q1, q704, rfl, by decide, by decide, by decide +kernel⟩
noncomputable def fX8_run (v1 : Int32) (v2 : Int32) (I : gM) : Option (Int32 × gM) :=
  (fX8_isScript v1 I).bind fun r1 =>
  if r1 = 0 then
    some (((-1000000) : Int32), I)
  else
    if (I 3 0) = 0 then
      some (((-1000000) : Int32), I)
    else
      if v2 < 0 then
        some (((-1000000) : Int32), I)
      else
        if v2 ≤ 1 then
          (fX5_copyFrom 8 3 I).bind fun r2 =>
          (rA 4 v1).bind fun k3 =>
          (fX4_rehearse k3 8 r2).bind fun r4 =>
          if v2 = 0 then
            (rA 4 v1).bind fun k5 =>
            if r4.1 = (r4.2 k5 0) then
              some (((-1) : Int32), r4.2)
            else
              some (r4.1, r4.2)
          else
            (fX1_findBy 29 8 (r4.2 8 2) r4.2).bind fun r6 =>
            some (r6 29 0, r6)
        else
          some (((-1000000) : Int32), I)
set_option maxRecDepth 100000 in
set_option maxHeartbeats 4000000 in
theorem wX8_run (l : Launch) (E : gE) (hE : gDist sh E) (bk : Nat) (v1 : Int32) (v2 : Int32) (I : gM) (J : gN) {r : Int32 × gM} (h : fX8_run v1 v2 I = some r) : Cu l sh E bk yX8_run cX8_run 4 (some .int) (gR 16) [.ref (E.2.1 0), .int v1, .int v2] I J (fun r1 I1 J1 => r1 = some (.int r.1) ∧ I1 = r.2 ∧ J1 = J) := by
  refine Cu.of "LeapJoin" rfl hE (by decide) (Nat.le_of_ble_eq_true rfl) (fun z F B e hl => ?_)
  subst hl
  unfold fX8_run at h
  refine g_aload_n F 0 dX8_run_0 rfl rfl ?_
  refine g_iload_n F 1 dX8_run_1 rfl rfl ?_
  refine u_callV (k := 0) (As := [.int v1]) (rest := []) (sn := fun r1 => [.int r1]) F B (fun _ => wX8_isScript (zl z) E hE bk v1 I J) mX8_isScript q694 rfl s0 rfl rfl rfl (Nat.le_of_ble_eq_true rfl) dX8_run_2 (fun _ => rfl) h (fun r1 h => ?_)
  refine u_if_eq (tgt := 27) F dX8_run_5 (by decide) h (fun h => ?_) (fun h => ?_)
  · refine g_ldc_w F dX8_run_27 q555 ?_
    obtain rfl := Option.some.inj h
    exact g_iret F e dX8_run_30 ⟨rfl, rfl, rfl⟩
  · refine g_aload_n F 0 dX8_run_8 rfl rfl ?_
    refine g_getr (j := 1) (nn := 3) F s0 rfl rfl uX8 (by decide) q170 dX8_run_9 ?_
    refine g_geti (j := 0) (v := I 3 0) F shX5_3.1 rfl rfl uX5 (by decide) q49 rfl dX8_run_12 ?_
    refine u_if_eq (tgt := 27) F dX8_run_15 (by decide) h (fun h => ?_) (fun h => ?_)
    · refine g_ldc_w F dX8_run_27 q555 ?_
      obtain rfl := Option.some.inj h
      exact g_iret F e dX8_run_30 ⟨rfl, rfl, rfl⟩
    · refine g_iload_n F 2 dX8_run_18 rfl rfl ?_
      refine u_if_lt (tgt := 27) F dX8_run_19 (by decide) h (fun h => ?_) (fun h => ?_)
      · refine g_ldc_w F dX8_run_27 q555 ?_
        obtain rfl := Option.some.inj h
        exact g_iret F e dX8_run_30 ⟨rfl, rfl, rfl⟩
      · refine g_iload_n F 2 dX8_run_22 rfl rfl ?_
        refine g_iconst (v := 1) F dX8_run_23 (by decide) ?_
        refine u_icmp_le (tgt := 31) F dX8_run_24 (by decide) h (fun h => ?_) (fun h => ?_)
        · refine g_aload_n F 0 dX8_run_31 rfl rfl ?_
          refine g_getr (j := 2) (nn := 8) F s0 rfl rfl uX8 (by decide) q171 dX8_run_32 ?_
          refine g_aload_n F 0 dX8_run_35 rfl rfl ?_
          refine g_getr (j := 1) (nn := 3) F s0 rfl rfl uX8 (by decide) q170 dX8_run_36 ?_
          refine u_callV (k := 8) (As := [.ref (E.2.1 3)]) (rest := []) (sn := fun _ => []) F B (fun _ => wX5_copyFrom (zl z) E hE bk 8 3 shX5_8 shX5_3 I J) mX5_copyFrom q314 rfl shX5_8.1 rfl rfl rfl (Nat.le_of_ble_eq_true rfl) dX8_run_39 (fun _ => rfl) h (fun r2 h => ?_)
          refine g_aload_n F 0 dX8_run_42 rfl rfl ?_
          refine g_getr (j := 11) (nn := 50) F s0 rfl rfl uX8 (by decide) q180 dX8_run_43 ?_
          refine g_iload_n F 1 dX8_run_46 rfl rfl ?_
          refine u_aald F dX8_run_47 h (fun k3 hk3 h => ?_)
          refine g_aload_n F 0 dX8_run_48 rfl rfl ?_
          refine g_getr (j := 2) (nn := 8) F s0 rfl rfl uX8 (by decide) q171 dX8_run_49 ?_
          refine u_callV (k := k3) (As := [.ref (E.2.1 8)]) (rest := []) (sn := fun r4 => [.int r4.1]) F B (fun _ => wX4_rehearse (zl z) E hE bk k3 8 hk3 shX5_8 r2 J) mX4_rehearse q705 rfl hk3.1 rfl rfl rfl (Nat.le_of_ble_eq_true rfl) dX8_run_52 (fun _ => rfl) h (fun r4 h => ?_)
          refine g_istore_n (Ln := [(3, .int r4.1), (0, .ref (E.2.1 0)), (1, .int v1), (2, .int v2)]) F dX8_run_55 rfl (by decide) rfl ?_
          refine g_iload_n F 3 dX8_run_56 rfl rfl ?_
          refine u_if_ne (tgt := 79) F dX8_run_57 (by decide) h (fun h => ?_) (fun h => ?_)
          · refine g_iload_n F 0 dX8_run_60 rfl rfl ?_
            refine g_aload_n F 1 dX8_run_61 rfl rfl ?_
            refine g_getr (j := 11) (nn := 50) F s0 rfl rfl uX8 (by decide) q180 dX8_run_62 ?_
            refine g_iload_n F 2 dX8_run_65 rfl rfl ?_
            refine u_aald F dX8_run_66 h (fun k5 hk5 h => ?_)
            refine g_geti (j := 0) (v := r4.2 k5 0) F hk5.1 rfl rfl uX4 (by decide) q165 rfl dX8_run_67 ?_
            refine u_icmp_ne (tgt := 77) F dX8_run_70 (by decide) h (fun h => ?_) (fun h => ?_)
            · refine g_iconst (v := (-1)) F dX8_run_73 (by decide) ?_
              refine g_goto (tgt := 78) F dX8_run_74 (by decide) ?_
              obtain rfl := Option.some.inj h
              exact g_iret F e dX8_run_78 ⟨rfl, rfl, rfl⟩
            · refine g_iload_n F 0 dX8_run_77 rfl rfl ?_
              obtain rfl := Option.some.inj h
              exact g_iret F e dX8_run_78 ⟨rfl, rfl, rfl⟩
          · refine g_aload_n F 1 dX8_run_79 rfl rfl ?_
            refine g_getr (j := 5) (nn := 29) F s0 rfl rfl uX8 (by decide) q174 dX8_run_80 ?_
            refine g_aload_n F 1 dX8_run_83 rfl rfl ?_
            refine g_getr (j := 2) (nn := 8) F s0 rfl rfl uX8 (by decide) q171 dX8_run_84 ?_
            refine g_aload_n F 1 dX8_run_87 rfl rfl ?_
            refine g_getr (j := 2) (nn := 8) F s0 rfl rfl uX8 (by decide) q171 dX8_run_88 ?_
            refine g_geti (j := 2) (v := r4.2 8 2) F shX5_8.1 rfl rfl uX5 (by decide) q54 rfl dX8_run_91 ?_
            refine u_callV (k := 29) (As := [.ref (E.2.1 8), .int (r4.2 8 2)]) (rest := []) (sn := fun _ => []) F B (fun _ => wX1_findBy (zl z) E hE bk 29 8 (r4.2 8 2) shX1_29 shX5_8 r4.2 J) mX1_findBy q331 rfl shX1_29.1 rfl rfl rfl (Nat.le_of_ble_eq_true rfl) dX8_run_94 (fun _ => rfl) h (fun r6 h => ?_)
            refine g_aload_n F 1 dX8_run_97 rfl rfl ?_
            refine g_getr (j := 5) (nn := 29) F s0 rfl rfl uX8 (by decide) q174 dX8_run_98 ?_
            refine g_geti (j := 0) (v := r6 29 0) F shX1_29.1 rfl rfl uX1 (by decide) q79 rfl dX8_run_101 ?_
            obtain rfl := Option.some.inj h
            exact g_iret F e dX8_run_104 ⟨rfl, rfl, rfl⟩
        · refine g_ldc_w F dX8_run_27 q555 ?_
          obtain rfl := Option.some.inj h
          exact g_iret F e dX8_run_30 ⟨rfl, rfl, rfl⟩
theorem DX8_perform_0 : dAre cX8_perform [(0, .aload_n 0, 1), (1, .iload_n 1, 1), (2, .invokevirtual 326, 3), (5, .ifCond .eq 13, 3), (8, .aload_n 0, 1), (9, .getfield 19, 3), (12, .getfield 134, 3), (15, .ifCond .ne 5, 3), (18, .iconst (-1), 1), (19, .ireturn, 1), (20, .aload_n 0, 1), (21, .getfield 72, 3), (24, .iload_n 1, 1), (25, .aaload, 1), (26, .astore_n 2, 1), (27, .iconst 0, 1)] := dAre0 (by decide +kernel)
theorem dX8_perform_0 : decode cX8_perform 0 = .ok (.aload_n 0, 1) := DX8_perform_0.1
theorem dX8_perform_1 : decode cX8_perform 1 = .ok (.iload_n 1, 1) := DX8_perform_0.2.1
theorem dX8_perform_2 : decode cX8_perform 2 = .ok (.invokevirtual 326, 3) := DX8_perform_0.2.2.1
theorem dX8_perform_5 : decode cX8_perform 5 = .ok (.ifCond .eq 13, 3) := DX8_perform_0.2.2.2.1
theorem dX8_perform_8 : decode cX8_perform 8 = .ok (.aload_n 0, 1) := DX8_perform_0.2.2.2.2.1
theorem dX8_perform_9 : decode cX8_perform 9 = .ok (.getfield 19, 3) := DX8_perform_0.2.2.2.2.2.1
theorem dX8_perform_12 : decode cX8_perform 12 = .ok (.getfield 134, 3) := DX8_perform_0.2.2.2.2.2.2.1
theorem dX8_perform_15 : decode cX8_perform 15 = .ok (.ifCond .ne 5, 3) := DX8_perform_0.2.2.2.2.2.2.2.1
theorem dX8_perform_18 : decode cX8_perform 18 = .ok (.iconst (-1), 1) := DX8_perform_0.2.2.2.2.2.2.2.2.1
theorem dX8_perform_19 : decode cX8_perform 19 = .ok (.ireturn, 1) := DX8_perform_0.2.2.2.2.2.2.2.2.2.1
theorem dX8_perform_20 : decode cX8_perform 20 = .ok (.aload_n 0, 1) := DX8_perform_0.2.2.2.2.2.2.2.2.2.2.1
theorem dX8_perform_21 : decode cX8_perform 21 = .ok (.getfield 72, 3) := DX8_perform_0.2.2.2.2.2.2.2.2.2.2.2.1
theorem dX8_perform_24 : decode cX8_perform 24 = .ok (.iload_n 1, 1) := DX8_perform_0.2.2.2.2.2.2.2.2.2.2.2.2.1
theorem dX8_perform_25 : decode cX8_perform 25 = .ok (.aaload, 1) := DX8_perform_0.2.2.2.2.2.2.2.2.2.2.2.2.2.1
theorem dX8_perform_26 : decode cX8_perform 26 = .ok (.astore_n 2, 1) := DX8_perform_0.2.2.2.2.2.2.2.2.2.2.2.2.2.2.1
theorem dX8_perform_27 : decode cX8_perform 27 = .ok (.iconst 0, 1) := DX8_perform_0.2.2.2.2.2.2.2.2.2.2.2.2.2.2.2.1
theorem DX8_perform_28 : dAre cX8_perform [(28, .istore_n 3, 1), (29, .iload_n 3, 1), (30, .aload_n 2, 1), (31, .getfield 329, 3), (34, .if_icmp .ge 53, 3), (37, .aload_n 0, 1), (38, .aload_n 2, 1), (39, .iload_n 3, 1), (40, .iconst 0, 1), (41, .invokevirtual 330, 3), (44, .aload_n 2, 1), (45, .iload_n 3, 1), (46, .iconst 1, 1), (47, .invokevirtual 330, 3), (50, .aload_n 2, 1), (51, .iload_n 3, 1)] := dAre0 (by decide +kernel)
theorem dX8_perform_28 : decode cX8_perform 28 = .ok (.istore_n 3, 1) := DX8_perform_28.1
theorem dX8_perform_29 : decode cX8_perform 29 = .ok (.iload_n 3, 1) := DX8_perform_28.2.1
theorem dX8_perform_30 : decode cX8_perform 30 = .ok (.aload_n 2, 1) := DX8_perform_28.2.2.1
theorem dX8_perform_31 : decode cX8_perform 31 = .ok (.getfield 329, 3) := DX8_perform_28.2.2.2.1
theorem dX8_perform_34 : decode cX8_perform 34 = .ok (.if_icmp .ge 53, 3) := DX8_perform_28.2.2.2.2.1
theorem dX8_perform_37 : decode cX8_perform 37 = .ok (.aload_n 0, 1) := DX8_perform_28.2.2.2.2.2.1
theorem dX8_perform_38 : decode cX8_perform 38 = .ok (.aload_n 2, 1) := DX8_perform_28.2.2.2.2.2.2.1
theorem dX8_perform_39 : decode cX8_perform 39 = .ok (.iload_n 3, 1) := DX8_perform_28.2.2.2.2.2.2.2.1
theorem dX8_perform_40 : decode cX8_perform 40 = .ok (.iconst 0, 1) := DX8_perform_28.2.2.2.2.2.2.2.2.1
theorem dX8_perform_41 : decode cX8_perform 41 = .ok (.invokevirtual 330, 3) := DX8_perform_28.2.2.2.2.2.2.2.2.2.1
theorem dX8_perform_44 : decode cX8_perform 44 = .ok (.aload_n 2, 1) := DX8_perform_28.2.2.2.2.2.2.2.2.2.2.1
theorem dX8_perform_45 : decode cX8_perform 45 = .ok (.iload_n 3, 1) := DX8_perform_28.2.2.2.2.2.2.2.2.2.2.2.1
theorem dX8_perform_46 : decode cX8_perform 46 = .ok (.iconst 1, 1) := DX8_perform_28.2.2.2.2.2.2.2.2.2.2.2.2.1
theorem dX8_perform_47 : decode cX8_perform 47 = .ok (.invokevirtual 330, 3) := DX8_perform_28.2.2.2.2.2.2.2.2.2.2.2.2.2.1
theorem dX8_perform_50 : decode cX8_perform 50 = .ok (.aload_n 2, 1) := DX8_perform_28.2.2.2.2.2.2.2.2.2.2.2.2.2.2.1
theorem dX8_perform_51 : decode cX8_perform 51 = .ok (.iload_n 3, 1) := DX8_perform_28.2.2.2.2.2.2.2.2.2.2.2.2.2.2.2.1
theorem DX8_perform_52 : dAre cX8_perform [(52, .iconst 2, 1), (53, .invokevirtual 330, 3), (56, .aload_n 2, 1), (57, .iload_n 3, 1), (58, .iconst 3, 1), (59, .invokevirtual 330, 3), (62, .aload_n 2, 1), (63, .iload_n 3, 1), (64, .iconst 4, 1), (65, .invokevirtual 330, 3), (68, .invokevirtual 272, 3), (71, .istore 4, 2), (73, .iload 4, 2), (75, .iconst (-1), 1), (76, .if_icmp .eq 5, 3), (79, .iload_n 3, 1)] := dAre0 (by decide +kernel)
theorem dX8_perform_52 : decode cX8_perform 52 = .ok (.iconst 2, 1) := DX8_perform_52.1
theorem dX8_perform_53 : decode cX8_perform 53 = .ok (.invokevirtual 330, 3) := DX8_perform_52.2.1
theorem dX8_perform_56 : decode cX8_perform 56 = .ok (.aload_n 2, 1) := DX8_perform_52.2.2.1
theorem dX8_perform_57 : decode cX8_perform 57 = .ok (.iload_n 3, 1) := DX8_perform_52.2.2.2.1
theorem dX8_perform_58 : decode cX8_perform 58 = .ok (.iconst 3, 1) := DX8_perform_52.2.2.2.2.1
theorem dX8_perform_59 : decode cX8_perform 59 = .ok (.invokevirtual 330, 3) := DX8_perform_52.2.2.2.2.2.1
theorem dX8_perform_62 : decode cX8_perform 62 = .ok (.aload_n 2, 1) := DX8_perform_52.2.2.2.2.2.2.1
theorem dX8_perform_63 : decode cX8_perform 63 = .ok (.iload_n 3, 1) := DX8_perform_52.2.2.2.2.2.2.2.1
theorem dX8_perform_64 : decode cX8_perform 64 = .ok (.iconst 4, 1) := DX8_perform_52.2.2.2.2.2.2.2.2.1
theorem dX8_perform_65 : decode cX8_perform 65 = .ok (.invokevirtual 330, 3) := DX8_perform_52.2.2.2.2.2.2.2.2.2.1
theorem dX8_perform_68 : decode cX8_perform 68 = .ok (.invokevirtual 272, 3) := DX8_perform_52.2.2.2.2.2.2.2.2.2.2.1
theorem dX8_perform_71 : decode cX8_perform 71 = .ok (.istore 4, 2) := DX8_perform_52.2.2.2.2.2.2.2.2.2.2.2.1
theorem dX8_perform_73 : decode cX8_perform 73 = .ok (.iload 4, 2) := DX8_perform_52.2.2.2.2.2.2.2.2.2.2.2.2.1
theorem dX8_perform_75 : decode cX8_perform 75 = .ok (.iconst (-1), 1) := DX8_perform_52.2.2.2.2.2.2.2.2.2.2.2.2.2.1
theorem dX8_perform_76 : decode cX8_perform 76 = .ok (.if_icmp .eq 5, 3) := DX8_perform_52.2.2.2.2.2.2.2.2.2.2.2.2.2.2.1
theorem dX8_perform_79 : decode cX8_perform 79 = .ok (.iload_n 3, 1) := DX8_perform_52.2.2.2.2.2.2.2.2.2.2.2.2.2.2.2.1
theorem DX8_perform_80 : dAre cX8_perform [(80, .ireturn, 1), (81, .iinc 3 1, 3), (84, .goto (-55), 3), (87, .aload_n 2, 1), (88, .getfield 329, 3), (91, .ireturn, 1)] := dAre0 (by decide +kernel)
theorem dX8_perform_80 : decode cX8_perform 80 = .ok (.ireturn, 1) := DX8_perform_80.1
theorem dX8_perform_81 : decode cX8_perform 81 = .ok (.iinc 3 1, 3) := DX8_perform_80.2.1
theorem dX8_perform_84 : decode cX8_perform 84 = .ok (.goto (-55), 3) := DX8_perform_80.2.2.1
theorem dX8_perform_87 : decode cX8_perform 87 = .ok (.aload_n 2, 1) := DX8_perform_80.2.2.2.1
theorem dX8_perform_88 : decode cX8_perform 88 = .ok (.getfield 329, 3) := DX8_perform_80.2.2.2.2.1
theorem dX8_perform_91 : decode cX8_perform 91 = .ok (.ireturn, 1) := DX8_perform_80.2.2.2.2.2.1
theorem mX8_perform : gMv yX8_perform cX8_perform 5 (some .int) RX8 1 := ⟨q714, q715, q1, q716, rfl, by decide, by decide, by decide +kernel⟩
noncomputable def lX8_perform_29 (k2 : Nat) : (Int32 × gM) → Option ((Int32 × gM) ⊕ (gM)) :=
  itO fun s =>
    if (s.2 k2 0) ≤ s.1 then
      some (.inr (.inr s.2))
    else
      (fX4_partOf k2 s.1 (0 : Int32) s.2).bind fun r3 =>
      (fX4_partOf k2 s.1 (1 : Int32) s.2).bind fun r4 =>
      (fX4_partOf k2 s.1 (2 : Int32) s.2).bind fun r5 =>
      (fX4_partOf k2 s.1 (3 : Int32) s.2).bind fun r6 =>
      (fX4_partOf k2 s.1 (4 : Int32) s.2).bind fun r7 =>
      (fX8_attempt r3 r4 r5 r6 r7 s.2).bind fun r8 =>
      if r8.1 = (-1) then
        some (.inl (s.1 + 1, r8.2))
      else
        some (.inr (.inl (s.1, r8.2)))
set_option maxRecDepth 100000 in
set_option maxHeartbeats 4000000 in
theorem wlX8_perform_29 {z : gZ} {E : gE} {bk : Nat} (F : Fx z sh E "LeapJoin" cX8_perform (gR 18) 5) (B : bZ z bk) (hE : gDist sh E) (k2 : Nat) (hk2 : shX4 k2) (J : gN) {r : (Int32 × gM) ⊕ (gM)} : ∀ s : Int32 × gM, lX8_perform_29 k2 s = some r → (∀ x : Int32 × gM, r = .inl x → G z 79 [(3, .int x.1)] [] x.2 J) → (∀ x : gM, r = .inr x → G z 87 [(2, .ref (E.2.1 k2))] [] x J) → G z 29 [(0, .ref (E.2.1 0)), (2, .ref (E.2.1 k2)), (3, .int s.1)] [] s.2 J := by
  intro s h X0 X1
  unfold lX8_perform_29 at h
  revert s
  refine itO_ind (P := fun s : Int32 × gM => G z 29 [(0, .ref (E.2.1 0)), (2, .ref (E.2.1 k2)), (3, .int s.1)] [] s.2 J) (fun s y h hl hr => ?_)
  have K29_0 := fun (x : Int32 × gM) (q : y = .inr (.inl x)) => X0 x (hr _ q).symm
  have K29_1 := fun (x : gM) (q : y = .inr (.inr x)) => X1 x (hr _ q).symm
  refine g_iload_n F 2 dX8_perform_29 rfl rfl ?_
  refine g_aload_n F 1 dX8_perform_30 rfl rfl ?_
  refine g_geti (j := 0) (v := s.2 k2 0) F hk2.1 rfl rfl uX4 (by decide) q165 rfl dX8_perform_31 ?_
  refine u_icmp_ge (tgt := 87) F dX8_perform_34 (by decide) h (fun h => ?_) (fun h => ?_)
  · obtain rfl := Option.some.inj h
    refine g_sub (Ln := [(2, .ref (E.2.1 k2))]) [1] rfl ?_
    exact K29_1 s.2 rfl
  · refine g_aload_n F 0 dX8_perform_37 rfl rfl ?_
    refine g_aload_n F 1 dX8_perform_38 rfl rfl ?_
    refine g_iload_n F 2 dX8_perform_39 rfl rfl ?_
    refine g_iconst (v := 0) F dX8_perform_40 (by decide) ?_
    refine u_callV (k := k2) (As := [.int s.1, .int 0]) (rest := [.ref (E.2.1 0)]) (sn := fun r3 => [.int r3, .ref (E.2.1 0)]) F B (fun _ => wX4_partOf (zl z) E hE bk k2 s.1 (0 : Int32) hk2 s.2 J) mX4_partOf q697 rfl hk2.1 rfl rfl rfl (Nat.le_of_ble_eq_true rfl) dX8_perform_41 (fun _ => rfl) h (fun r3 h => ?_)
    refine g_aload_n F 1 dX8_perform_44 rfl rfl ?_
    refine g_iload_n F 2 dX8_perform_45 rfl rfl ?_
    refine g_iconst (v := 1) F dX8_perform_46 (by decide) ?_
    refine u_callV (k := k2) (As := [.int s.1, .int 1]) (rest := [.int r3, .ref (E.2.1 0)]) (sn := fun r4 => [.int r4, .int r3, .ref (E.2.1 0)]) F B (fun _ => wX4_partOf (zl z) E hE bk k2 s.1 (1 : Int32) hk2 s.2 J) mX4_partOf q697 rfl hk2.1 rfl rfl rfl (Nat.le_of_ble_eq_true rfl) dX8_perform_47 (fun _ => rfl) h (fun r4 h => ?_)
    refine g_aload_n F 1 dX8_perform_50 rfl rfl ?_
    refine g_iload_n F 2 dX8_perform_51 rfl rfl ?_
    refine g_iconst (v := 2) F dX8_perform_52 (by decide) ?_
    refine u_callV (k := k2) (As := [.int s.1, .int 2]) (rest := [.int r4, .int r3, .ref (E.2.1 0)]) (sn := fun r5 => [.int r5, .int r4, .int r3, .ref (E.2.1 0)]) F B (fun _ => wX4_partOf (zl z) E hE bk k2 s.1 (2 : Int32) hk2 s.2 J) mX4_partOf q697 rfl hk2.1 rfl rfl rfl (Nat.le_of_ble_eq_true rfl) dX8_perform_53 (fun _ => rfl) h (fun r5 h => ?_)
    refine g_aload_n F 1 dX8_perform_56 rfl rfl ?_
    refine g_iload_n F 2 dX8_perform_57 rfl rfl ?_
    refine g_iconst (v := 3) F dX8_perform_58 (by decide) ?_
    refine u_callV (k := k2) (As := [.int s.1, .int 3]) (rest := [.int r5, .int r4, .int r3, .ref (E.2.1 0)]) (sn := fun r6 => [.int r6, .int r5, .int r4, .int r3, .ref (E.2.1 0)]) F B (fun _ => wX4_partOf (zl z) E hE bk k2 s.1 (3 : Int32) hk2 s.2 J) mX4_partOf q697 rfl hk2.1 rfl rfl rfl (Nat.le_of_ble_eq_true rfl) dX8_perform_59 (fun _ => rfl) h (fun r6 h => ?_)
    refine g_aload_n F 1 dX8_perform_62 rfl rfl ?_
    refine g_iload_n F 2 dX8_perform_63 rfl rfl ?_
    refine g_iconst (v := 4) F dX8_perform_64 (by decide) ?_
    refine u_callV (k := k2) (As := [.int s.1, .int 4]) (rest := [.int r6, .int r5, .int r4, .int r3, .ref (E.2.1 0)]) (sn := fun r7 => [.int r7, .int r6, .int r5, .int r4, .int r3, .ref (E.2.1 0)]) F B (fun _ => wX4_partOf (zl z) E hE bk k2 s.1 (4 : Int32) hk2 s.2 J) mX4_partOf q697 rfl hk2.1 rfl rfl rfl (Nat.le_of_ble_eq_true rfl) dX8_perform_65 (fun _ => rfl) h (fun r7 h => ?_)
    refine u_callV (k := 0) (As := [.int r3, .int r4, .int r5, .int r6, .int r7]) (rest := []) (sn := fun r8 => [.int r8.1]) F B (fun _ => wX8_attempt (zl z) E hE bk r3 r4 r5 r6 r7 s.2 J) mX8_attempt q581 rfl s0 rfl rfl rfl (Nat.le_of_ble_eq_true rfl) dX8_perform_68 (fun _ => rfl) h (fun r8 h => ?_)
    refine g_istore (Ln := [(4, .int r8.1), (0, .ref (E.2.1 0)), (2, .ref (E.2.1 k2)), (3, .int s.1)]) F dX8_perform_71 (by decide) rfl ?_
    refine g_iload F 0 dX8_perform_73 rfl ?_
    refine g_iconst (v := (-1)) F dX8_perform_75 (by decide) ?_
    refine u_icmp_eq (tgt := 81) F dX8_perform_76 (by decide) h (fun h => ?_) (fun h => ?_)
    · refine g_iinc (v := s.1 + 1) (Ln := [(3, .int (s.1 + 1)), (4, .int r8.1), (0, .ref (E.2.1 0)), (2, .ref (E.2.1 k2))]) F 3 dX8_perform_81 rfl (add_c (by decide)) (by decide) rfl ?_
      refine g_goto (tgt := 29) F dX8_perform_84 (by decide) ?_
      obtain rfl := Option.some.inj h
      refine g_sub (Ln := [(0, .ref (E.2.1 0)), (2, .ref (E.2.1 k2)), (3, .int (s.1 + 1))]) [2, 3, 0] rfl ?_
      exact hl (s.1 + 1, r8.2) rfl
    · obtain rfl := Option.some.inj h
      refine g_sub (Ln := [(3, .int s.1)]) [3] rfl ?_
      exact K29_0 (s.1, r8.2) rfl
noncomputable def fX8_perform (v1 : Int32) (I : gM) : Option (Int32 × gM) :=
  (fX8_isScript v1 I).bind fun r1 =>
  if r1 = 0 then
    some (((-1) : Int32), I)
  else
    if (I 3 0) = 0 then
      some (((-1) : Int32), I)
    else
      (rA 4 v1).bind fun k2 =>
      (lX8_perform_29 k2 ((0 : Int32), I)).bind fun w9 =>
      Sum.elim (fun w9_0 =>
        some (w9_0.1, w9_0.2))
      (fun w9_1 =>
        some (w9_1 k2 0, w9_1)) w9
set_option maxRecDepth 100000 in
set_option maxHeartbeats 4000000 in
theorem wX8_perform (l : Launch) (E : gE) (hE : gDist sh E) (bk : Nat) (v1 : Int32) (I : gM) (J : gN) {r : Int32 × gM} (h : fX8_perform v1 I = some r) : Cu l sh E bk yX8_perform cX8_perform 5 (some .int) (gR 18) [.ref (E.2.1 0), .int v1] I J (fun r1 I1 J1 => r1 = some (.int r.1) ∧ I1 = r.2 ∧ J1 = J) := by
  refine Cu.of "LeapJoin" rfl hE (by decide) (Nat.le_of_ble_eq_true rfl) (fun z F B e hl => ?_)
  subst hl
  unfold fX8_perform at h
  refine g_aload_n F 0 dX8_perform_0 rfl rfl ?_
  refine g_iload_n F 1 dX8_perform_1 rfl rfl ?_
  refine u_callV (k := 0) (As := [.int v1]) (rest := []) (sn := fun r1 => [.int r1]) F B (fun _ => wX8_isScript (zl z) E hE bk v1 I J) mX8_isScript q694 rfl s0 rfl rfl rfl (Nat.le_of_ble_eq_true rfl) dX8_perform_2 (fun _ => rfl) h (fun r1 h => ?_)
  refine u_if_eq (tgt := 18) F dX8_perform_5 (by decide) h (fun h => ?_) (fun h => ?_)
  · refine g_iconst (v := (-1)) F dX8_perform_18 (by decide) ?_
    obtain rfl := Option.some.inj h
    exact g_iret F e dX8_perform_19 ⟨rfl, rfl, rfl⟩
  · refine g_aload_n F 0 dX8_perform_8 rfl rfl ?_
    refine g_getr (j := 1) (nn := 3) F s0 rfl rfl uX8 (by decide) q170 dX8_perform_9 ?_
    refine g_geti (j := 0) (v := I 3 0) F shX5_3.1 rfl rfl uX5 (by decide) q49 rfl dX8_perform_12 ?_
    refine u_if_ne (tgt := 20) F dX8_perform_15 (by decide) h (fun h => ?_) (fun h => ?_)
    · refine g_iconst (v := (-1)) F dX8_perform_18 (by decide) ?_
      obtain rfl := Option.some.inj h
      exact g_iret F e dX8_perform_19 ⟨rfl, rfl, rfl⟩
    · refine g_aload_n F 0 dX8_perform_20 rfl rfl ?_
      refine g_getr (j := 11) (nn := 50) F s0 rfl rfl uX8 (by decide) q180 dX8_perform_21 ?_
      refine g_iload_n F 1 dX8_perform_24 rfl rfl ?_
      refine u_aald F dX8_perform_25 h (fun k2 hk2 h => ?_)
      refine g_astore_n (Ln := [(2, .ref (E.2.1 k2)), (0, .ref (E.2.1 0)), (1, .int v1)]) F dX8_perform_26 rfl (by decide) rfl ?_
      refine g_iconst (v := 0) F dX8_perform_27 (by decide) ?_
      refine g_istore_n (Ln := [(3, .int 0), (2, .ref (E.2.1 k2)), (0, .ref (E.2.1 0)), (1, .int v1)]) F dX8_perform_28 rfl (by decide) rfl ?_
      obtain ⟨w9, ew9, h⟩ := ob h
      refine g_sub (Ln := [(0, .ref (E.2.1 0)), (2, .ref (E.2.1 k2)), (3, .int 0)]) [2, 1, 0] rfl ?_
      refine wlX8_perform_29 F B hE k2 hk2 J _ ew9 (fun w9_0 q => ?_) (fun w9_1 q => ?_)
      · subst q
        replace h := oE1 h
        refine g_iload_n F 0 dX8_perform_79 rfl rfl ?_
        obtain rfl := Option.some.inj h
        exact g_iret F e dX8_perform_80 ⟨rfl, rfl, rfl⟩
      · subst q
        replace h := oE2 h
        refine g_aload_n F 0 dX8_perform_87 rfl rfl ?_
        refine g_geti (j := 0) (v := w9_1 k2 0) F hk2.1 rfl rfl uX4 (by decide) q165 rfl dX8_perform_88 ?_
        obtain rfl := Option.some.inj h
        exact g_iret F e dX8_perform_91 ⟨rfl, rfl, rfl⟩
theorem DX8_tableWithMostRows_0 : dAre cX8_tableWithMostRows [(0, .iconst 0, 1), (1, .istore_n 1, 1), (2, .iconst 1, 1), (3, .istore_n 2, 1), (4, .iload_n 2, 1), (5, .aload_n 0, 1), (6, .getfield 19, 3), (9, .getfield 134, 3), (12, .if_icmp .ge 32, 3), (15, .aload_n 0, 1), (16, .getfield 19, 3), (19, .getfield 176, 3), (22, .iload_n 2, 1), (23, .iaload, 1), (24, .aload_n 0, 1), (25, .getfield 19, 3)] := dAre0 (by decide +kernel)
theorem dX8_tableWithMostRows_0 : decode cX8_tableWithMostRows 0 = .ok (.iconst 0, 1) := DX8_tableWithMostRows_0.1
theorem dX8_tableWithMostRows_1 : decode cX8_tableWithMostRows 1 = .ok (.istore_n 1, 1) := DX8_tableWithMostRows_0.2.1
theorem dX8_tableWithMostRows_2 : decode cX8_tableWithMostRows 2 = .ok (.iconst 1, 1) := DX8_tableWithMostRows_0.2.2.1
theorem dX8_tableWithMostRows_3 : decode cX8_tableWithMostRows 3 = .ok (.istore_n 2, 1) := DX8_tableWithMostRows_0.2.2.2.1
theorem dX8_tableWithMostRows_4 : decode cX8_tableWithMostRows 4 = .ok (.iload_n 2, 1) := DX8_tableWithMostRows_0.2.2.2.2.1
theorem dX8_tableWithMostRows_5 : decode cX8_tableWithMostRows 5 = .ok (.aload_n 0, 1) := DX8_tableWithMostRows_0.2.2.2.2.2.1
theorem dX8_tableWithMostRows_6 : decode cX8_tableWithMostRows 6 = .ok (.getfield 19, 3) := DX8_tableWithMostRows_0.2.2.2.2.2.2.1
theorem dX8_tableWithMostRows_9 : decode cX8_tableWithMostRows 9 = .ok (.getfield 134, 3) := DX8_tableWithMostRows_0.2.2.2.2.2.2.2.1
theorem dX8_tableWithMostRows_12 : decode cX8_tableWithMostRows 12 = .ok (.if_icmp .ge 32, 3) := DX8_tableWithMostRows_0.2.2.2.2.2.2.2.2.1
theorem dX8_tableWithMostRows_15 : decode cX8_tableWithMostRows 15 = .ok (.aload_n 0, 1) := DX8_tableWithMostRows_0.2.2.2.2.2.2.2.2.2.1
theorem dX8_tableWithMostRows_16 : decode cX8_tableWithMostRows 16 = .ok (.getfield 19, 3) := DX8_tableWithMostRows_0.2.2.2.2.2.2.2.2.2.2.1
theorem dX8_tableWithMostRows_19 : decode cX8_tableWithMostRows 19 = .ok (.getfield 176, 3) := DX8_tableWithMostRows_0.2.2.2.2.2.2.2.2.2.2.2.1
theorem dX8_tableWithMostRows_22 : decode cX8_tableWithMostRows 22 = .ok (.iload_n 2, 1) := DX8_tableWithMostRows_0.2.2.2.2.2.2.2.2.2.2.2.2.1
theorem dX8_tableWithMostRows_23 : decode cX8_tableWithMostRows 23 = .ok (.iaload, 1) := DX8_tableWithMostRows_0.2.2.2.2.2.2.2.2.2.2.2.2.2.1
theorem dX8_tableWithMostRows_24 : decode cX8_tableWithMostRows 24 = .ok (.aload_n 0, 1) := DX8_tableWithMostRows_0.2.2.2.2.2.2.2.2.2.2.2.2.2.2.1
theorem dX8_tableWithMostRows_25 : decode cX8_tableWithMostRows 25 = .ok (.getfield 19, 3) := DX8_tableWithMostRows_0.2.2.2.2.2.2.2.2.2.2.2.2.2.2.2.1
theorem DX8_tableWithMostRows_28 : dAre cX8_tableWithMostRows [(28, .getfield 176, 3), (31, .iload_n 1, 1), (32, .iaload, 1), (33, .if_icmp .le 5, 3), (36, .iload_n 2, 1), (37, .istore_n 1, 1), (38, .iinc 2 1, 3), (41, .goto (-37), 3), (44, .iload_n 1, 1), (45, .ireturn, 1)] := dAre0 (by decide +kernel)
theorem dX8_tableWithMostRows_28 : decode cX8_tableWithMostRows 28 = .ok (.getfield 176, 3) := DX8_tableWithMostRows_28.1
theorem dX8_tableWithMostRows_31 : decode cX8_tableWithMostRows 31 = .ok (.iload_n 1, 1) := DX8_tableWithMostRows_28.2.1
theorem dX8_tableWithMostRows_32 : decode cX8_tableWithMostRows 32 = .ok (.iaload, 1) := DX8_tableWithMostRows_28.2.2.1
theorem dX8_tableWithMostRows_33 : decode cX8_tableWithMostRows 33 = .ok (.if_icmp .le 5, 3) := DX8_tableWithMostRows_28.2.2.2.1
theorem dX8_tableWithMostRows_36 : decode cX8_tableWithMostRows 36 = .ok (.iload_n 2, 1) := DX8_tableWithMostRows_28.2.2.2.2.1
theorem dX8_tableWithMostRows_37 : decode cX8_tableWithMostRows 37 = .ok (.istore_n 1, 1) := DX8_tableWithMostRows_28.2.2.2.2.2.1
theorem dX8_tableWithMostRows_38 : decode cX8_tableWithMostRows 38 = .ok (.iinc 2 1, 3) := DX8_tableWithMostRows_28.2.2.2.2.2.2.1
theorem dX8_tableWithMostRows_41 : decode cX8_tableWithMostRows 41 = .ok (.goto (-37), 3) := DX8_tableWithMostRows_28.2.2.2.2.2.2.2.1
theorem dX8_tableWithMostRows_44 : decode cX8_tableWithMostRows 44 = .ok (.iload_n 1, 1) := DX8_tableWithMostRows_28.2.2.2.2.2.2.2.2.1
theorem dX8_tableWithMostRows_45 : decode cX8_tableWithMostRows 45 = .ok (.ireturn, 1) := DX8_tableWithMostRows_28.2.2.2.2.2.2.2.2.2.1
theorem mX8_tableWithMostRows : gMv yX8_tableWithMostRows cX8_tableWithMostRows 3 (some .int) RX8 0 := ⟨q726, q1376, q1, q727, rfl, by decide, by decide, by decide +kernel⟩
noncomputable def bX8_tableWithMostRows_38 (v1 : Int32) (v2 : Int32) : Option ((Int32 × Int32) ⊕ (Int32)) :=
  some (.inl (v1, v2 + 1))
set_option maxRecDepth 100000 in
set_option maxHeartbeats 4000000 in
theorem wbX8_tableWithMostRows_38 {z : gZ} {E : gE} {bk : Nat} (F : Fx z sh E "LeapJoin" cX8_tableWithMostRows (gR 0) 3) (B : bZ z bk) (hE : gDist sh E) (v1 : Int32) (v2 : Int32) (I : gM) (J : gN) {y : (Int32 × Int32) ⊕ (Int32)} (h : bX8_tableWithMostRows_38 v1 v2 = some y) (hl : ∀ s' : Int32 × Int32, y = .inl s' → G z 4 [(0, .ref (E.2.1 0)), (1, .int (s'.1)), (2, .int (s'.2))] [] I J) (K4_0 : ∀ x : Int32, y = .inr x → G z 44 [(1, .int x)] [] I J) : G z 38 [(0, .ref (E.2.1 0)), (1, .int v1), (2, .int v2)] [] I J := by
  unfold bX8_tableWithMostRows_38 at h
  refine g_iinc (v := v2 + 1) (Ln := [(2, .int (v2 + 1)), (0, .ref (E.2.1 0)), (1, .int v1)]) F 2 dX8_tableWithMostRows_38 rfl (add_c (by decide)) (by decide) rfl ?_
  refine g_goto (tgt := 4) F dX8_tableWithMostRows_41 (by decide) ?_
  obtain rfl := Option.some.inj h
  refine g_sub (Ln := [(0, .ref (E.2.1 0)), (1, .int v1), (2, .int (v2 + 1))]) [1, 2, 0] rfl ?_
  exact hl (v1, v2 + 1) rfl
noncomputable def lX8_tableWithMostRows_4 (I : gM) : (Int32 × Int32) → Option (Int32) :=
  itO fun s =>
    if (I 3 0) ≤ s.2 then
      some (.inr s.1)
    else
      (rI 4 (I 5) s.2).bind fun u1 =>
      (rI 4 (I 5) s.1).bind fun u2 =>
      if u1 ≤ u2 then
        bX8_tableWithMostRows_38 s.1 s.2
      else
        bX8_tableWithMostRows_38 s.2 s.2
set_option maxRecDepth 100000 in
set_option maxHeartbeats 4000000 in
theorem wlX8_tableWithMostRows_4 {z : gZ} {E : gE} {bk : Nat} (F : Fx z sh E "LeapJoin" cX8_tableWithMostRows (gR 0) 3) (B : bZ z bk) (hE : gDist sh E) (I : gM) (J : gN) {r : Int32} : ∀ s : Int32 × Int32, lX8_tableWithMostRows_4 I s = some r → (G z 44 [(1, .int r)] [] I J) → G z 4 [(0, .ref (E.2.1 0)), (1, .int s.1), (2, .int s.2)] [] I J := by
  intro s h X0
  unfold lX8_tableWithMostRows_4 at h
  revert s
  refine itO_ind (P := fun s : Int32 × Int32 => G z 4 [(0, .ref (E.2.1 0)), (1, .int s.1), (2, .int s.2)] [] I J) (fun s y h hl hr => ?_)
  have K4_0 : ∀ x : Int32, y = .inr x → (G z 44 [(1, .int x)] [] I J) := fun x q => by have q2 := hr _ q; subst q2; exact X0
  refine g_iload_n F 2 dX8_tableWithMostRows_4 rfl rfl ?_
  refine g_aload_n F 0 dX8_tableWithMostRows_5 rfl rfl ?_
  refine g_getr (j := 1) (nn := 3) F s0 rfl rfl uX8 (by decide) q170 dX8_tableWithMostRows_6 ?_
  refine g_geti (j := 0) (v := I 3 0) F shX5_3.1 rfl rfl uX5 (by decide) q49 rfl dX8_tableWithMostRows_9 ?_
  refine u_icmp_ge (tgt := 44) F dX8_tableWithMostRows_12 (by decide) h (fun h => ?_) (fun h => ?_)
  · obtain rfl := Option.some.inj h
    refine g_sub (Ln := [(1, .int s.1)]) [1] rfl ?_
    exact K4_0 s.1 rfl
  · refine g_aload_n F 0 dX8_tableWithMostRows_15 rfl rfl ?_
    refine g_getr (j := 1) (nn := 3) F s0 rfl rfl uX8 (by decide) q170 dX8_tableWithMostRows_16 ?_
    refine g_getr (j := 4) (nn := 5) F shX5_3.1 rfl rfl uX5 (by decide) q61 dX8_tableWithMostRows_19 ?_
    refine g_iload_n F 2 dX8_tableWithMostRows_22 rfl rfl ?_
    refine u_rI F shX5_3.2.2.1 (by decide) dX8_tableWithMostRows_23 h (fun u1 h => ?_)
    refine g_aload_n F 0 dX8_tableWithMostRows_24 rfl rfl ?_
    refine g_getr (j := 1) (nn := 3) F s0 rfl rfl uX8 (by decide) q170 dX8_tableWithMostRows_25 ?_
    refine g_getr (j := 4) (nn := 5) F shX5_3.1 rfl rfl uX5 (by decide) q61 dX8_tableWithMostRows_28 ?_
    refine g_iload_n F 1 dX8_tableWithMostRows_31 rfl rfl ?_
    refine u_rI F shX5_3.2.2.1 (by decide) dX8_tableWithMostRows_32 h (fun u2 h => ?_)
    refine u_icmp_le (tgt := 38) F dX8_tableWithMostRows_33 (by decide) h (fun h => ?_) (fun h => ?_)
    · refine g_sub (Ln := [(0, .ref (E.2.1 0)), (1, .int s.1), (2, .int s.2)]) [0, 1, 2] rfl ?_
      exact wbX8_tableWithMostRows_38 F B hE s.1 s.2 I J h hl K4_0
    · refine g_iload_n F 2 dX8_tableWithMostRows_36 rfl rfl ?_
      refine g_istore_n (Ln := [(1, .int s.2), (0, .ref (E.2.1 0)), (2, .int s.2)]) F dX8_tableWithMostRows_37 rfl (by decide) rfl ?_
      refine g_sub (Ln := [(0, .ref (E.2.1 0)), (1, .int s.2), (2, .int s.2)]) [1, 0, 2] rfl ?_
      exact wbX8_tableWithMostRows_38 F B hE s.2 s.2 I J h hl K4_0
noncomputable def fX8_tableWithMostRows (I : gM) : Option (Int32) :=
  (lX8_tableWithMostRows_4 I ((0 : Int32), (1 : Int32))).bind fun w3 =>
  some w3
set_option maxRecDepth 100000 in
set_option maxHeartbeats 4000000 in
theorem wX8_tableWithMostRows (l : Launch) (E : gE) (hE : gDist sh E) (bk : Nat) (I : gM) (J : gN) {r : Int32} (h : fX8_tableWithMostRows I = some r) : Cu l sh E bk yX8_tableWithMostRows cX8_tableWithMostRows 3 (some .int) (gR 0) [.ref (E.2.1 0)] I J (fun r1 I1 J1 => r1 = some (.int r) ∧ I1 = I ∧ J1 = J) := by
  refine Cu.of "LeapJoin" rfl hE (by decide) (Nat.le_of_ble_eq_true rfl) (fun z F B e hl => ?_)
  subst hl
  unfold fX8_tableWithMostRows at h
  refine g_iconst (v := 0) F dX8_tableWithMostRows_0 (by decide) ?_
  refine g_istore_n (Ln := [(1, .int 0), (0, .ref (E.2.1 0))]) F dX8_tableWithMostRows_1 rfl (by decide) rfl ?_
  refine g_iconst (v := 1) F dX8_tableWithMostRows_2 (by decide) ?_
  refine g_istore_n (Ln := [(2, .int 1), (1, .int 0), (0, .ref (E.2.1 0))]) F dX8_tableWithMostRows_3 rfl (by decide) rfl ?_
  obtain ⟨w3, ew3, h⟩ := ob h
  refine g_sub (Ln := [(0, .ref (E.2.1 0)), (1, .int 0), (2, .int 1)]) [2, 1, 0] rfl ?_
  refine wlX8_tableWithMostRows_4 F B hE I J _ ew3 ?_
  refine g_iload_n F 0 dX8_tableWithMostRows_44 rfl rfl ?_
  obtain rfl := Option.some.inj h
  exact g_iret F e dX8_tableWithMostRows_45 ⟨rfl, rfl, rfl⟩
theorem DJ6_bitCount_0f7a4_0 : dAre cJ6_bitCount_0f7a4 [(0, .iload_n 0, 1), (1, .iload_n 0, 1), (2, .iconst 1, 1), (3, .iushr, 1), (4, .ldc_w 265, 3), (7, .iand, 1), (8, .isub, 1), (9, .istore_n 0, 1), (10, .iload_n 0, 1), (11, .ldc_w 266, 3), (14, .iand, 1), (15, .iload_n 0, 1), (16, .iconst 2, 1), (17, .iushr, 1), (18, .ldc_w 266, 3), (21, .iand, 1)] := dAre0 (by decide +kernel)
theorem dJ6_bitCount_0f7a4_0 : decode cJ6_bitCount_0f7a4 0 = .ok (.iload_n 0, 1) := DJ6_bitCount_0f7a4_0.1
theorem dJ6_bitCount_0f7a4_1 : decode cJ6_bitCount_0f7a4 1 = .ok (.iload_n 0, 1) := DJ6_bitCount_0f7a4_0.2.1
theorem dJ6_bitCount_0f7a4_2 : decode cJ6_bitCount_0f7a4 2 = .ok (.iconst 1, 1) := DJ6_bitCount_0f7a4_0.2.2.1
theorem dJ6_bitCount_0f7a4_3 : decode cJ6_bitCount_0f7a4 3 = .ok (.iushr, 1) := DJ6_bitCount_0f7a4_0.2.2.2.1
theorem dJ6_bitCount_0f7a4_4 : decode cJ6_bitCount_0f7a4 4 = .ok (.ldc_w 265, 3) := DJ6_bitCount_0f7a4_0.2.2.2.2.1
theorem dJ6_bitCount_0f7a4_7 : decode cJ6_bitCount_0f7a4 7 = .ok (.iand, 1) := DJ6_bitCount_0f7a4_0.2.2.2.2.2.1
theorem dJ6_bitCount_0f7a4_8 : decode cJ6_bitCount_0f7a4 8 = .ok (.isub, 1) := DJ6_bitCount_0f7a4_0.2.2.2.2.2.2.1
theorem dJ6_bitCount_0f7a4_9 : decode cJ6_bitCount_0f7a4 9 = .ok (.istore_n 0, 1) := DJ6_bitCount_0f7a4_0.2.2.2.2.2.2.2.1
theorem dJ6_bitCount_0f7a4_10 : decode cJ6_bitCount_0f7a4 10 = .ok (.iload_n 0, 1) := DJ6_bitCount_0f7a4_0.2.2.2.2.2.2.2.2.1
theorem dJ6_bitCount_0f7a4_11 : decode cJ6_bitCount_0f7a4 11 = .ok (.ldc_w 266, 3) := DJ6_bitCount_0f7a4_0.2.2.2.2.2.2.2.2.2.1
theorem dJ6_bitCount_0f7a4_14 : decode cJ6_bitCount_0f7a4 14 = .ok (.iand, 1) := DJ6_bitCount_0f7a4_0.2.2.2.2.2.2.2.2.2.2.1
theorem dJ6_bitCount_0f7a4_15 : decode cJ6_bitCount_0f7a4 15 = .ok (.iload_n 0, 1) := DJ6_bitCount_0f7a4_0.2.2.2.2.2.2.2.2.2.2.2.1
theorem dJ6_bitCount_0f7a4_16 : decode cJ6_bitCount_0f7a4 16 = .ok (.iconst 2, 1) := DJ6_bitCount_0f7a4_0.2.2.2.2.2.2.2.2.2.2.2.2.1
theorem dJ6_bitCount_0f7a4_17 : decode cJ6_bitCount_0f7a4 17 = .ok (.iushr, 1) := DJ6_bitCount_0f7a4_0.2.2.2.2.2.2.2.2.2.2.2.2.2.1
theorem dJ6_bitCount_0f7a4_18 : decode cJ6_bitCount_0f7a4 18 = .ok (.ldc_w 266, 3) := DJ6_bitCount_0f7a4_0.2.2.2.2.2.2.2.2.2.2.2.2.2.2.1
theorem dJ6_bitCount_0f7a4_21 : decode cJ6_bitCount_0f7a4 21 = .ok (.iand, 1) := DJ6_bitCount_0f7a4_0.2.2.2.2.2.2.2.2.2.2.2.2.2.2.2.1
theorem DJ6_bitCount_0f7a4_22 : dAre cJ6_bitCount_0f7a4 [(22, .iadd, 1), (23, .istore_n 0, 1), (24, .iload_n 0, 1), (25, .iload_n 0, 1), (26, .iconst 4, 1), (27, .iushr, 1), (28, .iadd, 1), (29, .ldc_w 267, 3), (32, .iand, 1), (33, .istore_n 0, 1), (34, .iload_n 0, 1), (35, .iload_n 0, 1), (36, .bipush 8, 2), (38, .iushr, 1), (39, .iadd, 1), (40, .istore_n 0, 1)] := dAre0 (by decide +kernel)
theorem dJ6_bitCount_0f7a4_22 : decode cJ6_bitCount_0f7a4 22 = .ok (.iadd, 1) := DJ6_bitCount_0f7a4_22.1
theorem dJ6_bitCount_0f7a4_23 : decode cJ6_bitCount_0f7a4 23 = .ok (.istore_n 0, 1) := DJ6_bitCount_0f7a4_22.2.1
theorem dJ6_bitCount_0f7a4_24 : decode cJ6_bitCount_0f7a4 24 = .ok (.iload_n 0, 1) := DJ6_bitCount_0f7a4_22.2.2.1
theorem dJ6_bitCount_0f7a4_25 : decode cJ6_bitCount_0f7a4 25 = .ok (.iload_n 0, 1) := DJ6_bitCount_0f7a4_22.2.2.2.1
theorem dJ6_bitCount_0f7a4_26 : decode cJ6_bitCount_0f7a4 26 = .ok (.iconst 4, 1) := DJ6_bitCount_0f7a4_22.2.2.2.2.1
theorem dJ6_bitCount_0f7a4_27 : decode cJ6_bitCount_0f7a4 27 = .ok (.iushr, 1) := DJ6_bitCount_0f7a4_22.2.2.2.2.2.1
theorem dJ6_bitCount_0f7a4_28 : decode cJ6_bitCount_0f7a4 28 = .ok (.iadd, 1) := DJ6_bitCount_0f7a4_22.2.2.2.2.2.2.1
theorem dJ6_bitCount_0f7a4_29 : decode cJ6_bitCount_0f7a4 29 = .ok (.ldc_w 267, 3) := DJ6_bitCount_0f7a4_22.2.2.2.2.2.2.2.1
theorem dJ6_bitCount_0f7a4_32 : decode cJ6_bitCount_0f7a4 32 = .ok (.iand, 1) := DJ6_bitCount_0f7a4_22.2.2.2.2.2.2.2.2.1
theorem dJ6_bitCount_0f7a4_33 : decode cJ6_bitCount_0f7a4 33 = .ok (.istore_n 0, 1) := DJ6_bitCount_0f7a4_22.2.2.2.2.2.2.2.2.2.1
theorem dJ6_bitCount_0f7a4_34 : decode cJ6_bitCount_0f7a4 34 = .ok (.iload_n 0, 1) := DJ6_bitCount_0f7a4_22.2.2.2.2.2.2.2.2.2.2.1
theorem dJ6_bitCount_0f7a4_35 : decode cJ6_bitCount_0f7a4 35 = .ok (.iload_n 0, 1) := DJ6_bitCount_0f7a4_22.2.2.2.2.2.2.2.2.2.2.2.1
theorem dJ6_bitCount_0f7a4_36 : decode cJ6_bitCount_0f7a4 36 = .ok (.bipush 8, 2) := DJ6_bitCount_0f7a4_22.2.2.2.2.2.2.2.2.2.2.2.2.1
theorem dJ6_bitCount_0f7a4_38 : decode cJ6_bitCount_0f7a4 38 = .ok (.iushr, 1) := DJ6_bitCount_0f7a4_22.2.2.2.2.2.2.2.2.2.2.2.2.2.1
theorem dJ6_bitCount_0f7a4_39 : decode cJ6_bitCount_0f7a4 39 = .ok (.iadd, 1) := DJ6_bitCount_0f7a4_22.2.2.2.2.2.2.2.2.2.2.2.2.2.2.1
theorem dJ6_bitCount_0f7a4_40 : decode cJ6_bitCount_0f7a4 40 = .ok (.istore_n 0, 1) := DJ6_bitCount_0f7a4_22.2.2.2.2.2.2.2.2.2.2.2.2.2.2.2.1
theorem DJ6_bitCount_0f7a4_41 : dAre cJ6_bitCount_0f7a4 [(41, .iload_n 0, 1), (42, .iload_n 0, 1), (43, .bipush 16, 2), (45, .iushr, 1), (46, .iadd, 1), (47, .istore_n 0, 1), (48, .iload_n 0, 1), (49, .bipush 63, 2), (51, .iand, 1), (52, .ireturn, 1)] := dAre0 (by decide +kernel)
theorem dJ6_bitCount_0f7a4_41 : decode cJ6_bitCount_0f7a4 41 = .ok (.iload_n 0, 1) := DJ6_bitCount_0f7a4_41.1
theorem dJ6_bitCount_0f7a4_42 : decode cJ6_bitCount_0f7a4 42 = .ok (.iload_n 0, 1) := DJ6_bitCount_0f7a4_41.2.1
theorem dJ6_bitCount_0f7a4_43 : decode cJ6_bitCount_0f7a4 43 = .ok (.bipush 16, 2) := DJ6_bitCount_0f7a4_41.2.2.1
theorem dJ6_bitCount_0f7a4_45 : decode cJ6_bitCount_0f7a4 45 = .ok (.iushr, 1) := DJ6_bitCount_0f7a4_41.2.2.2.1
theorem dJ6_bitCount_0f7a4_46 : decode cJ6_bitCount_0f7a4 46 = .ok (.iadd, 1) := DJ6_bitCount_0f7a4_41.2.2.2.2.1
theorem dJ6_bitCount_0f7a4_47 : decode cJ6_bitCount_0f7a4 47 = .ok (.istore_n 0, 1) := DJ6_bitCount_0f7a4_41.2.2.2.2.2.1
theorem dJ6_bitCount_0f7a4_48 : decode cJ6_bitCount_0f7a4 48 = .ok (.iload_n 0, 1) := DJ6_bitCount_0f7a4_41.2.2.2.2.2.2.1
theorem dJ6_bitCount_0f7a4_49 : decode cJ6_bitCount_0f7a4 49 = .ok (.bipush 63, 2) := DJ6_bitCount_0f7a4_41.2.2.2.2.2.2.2.1
theorem dJ6_bitCount_0f7a4_51 : decode cJ6_bitCount_0f7a4 51 = .ok (.iand, 1) := DJ6_bitCount_0f7a4_41.2.2.2.2.2.2.2.2.1
theorem dJ6_bitCount_0f7a4_52 : decode cJ6_bitCount_0f7a4 52 = .ok (.ireturn, 1) := DJ6_bitCount_0f7a4_41.2.2.2.2.2.2.2.2.2.1
theorem mJ6_bitCount_0f7a4 : gMs yJ6_bitCount_0f7a4 cJ6_bitCount_0f7a4 1 (some .int) 1 := ⟨q735, q21, q736, by decide, by decide, by decide +kernel⟩
noncomputable def fJ6_bitCount_0f7a4 (v0 : Int32) : Option (Int32) :=
  some ((((((((v0 - ((iU v0 1) &&& 1431655765)) &&& 858993459) + ((iU (v0 - ((iU v0 1) &&& 1431655765)) 2) &&& 858993459)) + (iU (((v0 - ((iU v0 1) &&& 1431655765)) &&& 858993459) + ((iU (v0 - ((iU v0 1) &&& 1431655765)) 2) &&& 858993459)) 4)) &&& 252645135) + (iU (((((v0 - ((iU v0 1) &&& 1431655765)) &&& 858993459) + ((iU (v0 - ((iU v0 1) &&& 1431655765)) 2) &&& 858993459)) + (iU (((v0 - ((iU v0 1) &&& 1431655765)) &&& 858993459) + ((iU (v0 - ((iU v0 1) &&& 1431655765)) 2) &&& 858993459)) 4)) &&& 252645135) 8)) + (iU ((((((v0 - ((iU v0 1) &&& 1431655765)) &&& 858993459) + ((iU (v0 - ((iU v0 1) &&& 1431655765)) 2) &&& 858993459)) + (iU (((v0 - ((iU v0 1) &&& 1431655765)) &&& 858993459) + ((iU (v0 - ((iU v0 1) &&& 1431655765)) 2) &&& 858993459)) 4)) &&& 252645135) + (iU (((((v0 - ((iU v0 1) &&& 1431655765)) &&& 858993459) + ((iU (v0 - ((iU v0 1) &&& 1431655765)) 2) &&& 858993459)) + (iU (((v0 - ((iU v0 1) &&& 1431655765)) &&& 858993459) + ((iU (v0 - ((iU v0 1) &&& 1431655765)) 2) &&& 858993459)) 4)) &&& 252645135) 8)) 16)) &&& 63)
set_option maxRecDepth 100000 in
set_option maxHeartbeats 4000000 in
theorem wJ6_bitCount_0f7a4 (l : Launch) (E : gE) (hE : gDist sh E) (bk : Nat) (v0 : Int32) (I : gM) (J : gN) {r : Int32} (h : fJ6_bitCount_0f7a4 v0 = some r) : Cu l sh E bk yJ6_bitCount_0f7a4 cJ6_bitCount_0f7a4 1 (some .int) (gR 0) [.int v0] I J (fun r1 I1 J1 => r1 = some (.int r) ∧ I1 = I ∧ J1 = J) := by
  refine Cu.of "java/lang/Integer" rfl hE (by decide) (Nat.le_of_ble_eq_true rfl) (fun z F B e hl => ?_)
  subst hl
  unfold fJ6_bitCount_0f7a4 at h
  refine g_iload_n F 0 dJ6_bitCount_0f7a4_0 rfl rfl ?_
  refine g_iload_n F 0 dJ6_bitCount_0f7a4_1 rfl rfl ?_
  refine g_iconst (v := 1) F dJ6_bitCount_0f7a4_2 (by decide) ?_
  refine g_iushr (v := iU v0 1) F dJ6_bitCount_0f7a4_3 rfl ?_
  refine g_ldc_w F dJ6_bitCount_0f7a4_4 q737 ?_
  refine g_iand (v := (iU v0 1) &&& 1431655765) F dJ6_bitCount_0f7a4_7 rfl ?_
  refine g_isub (v := v0 - ((iU v0 1) &&& 1431655765)) F dJ6_bitCount_0f7a4_8 rfl ?_
  refine g_istore_n (Ln := [(0, .int (v0 - ((iU v0 1) &&& 1431655765)))]) F dJ6_bitCount_0f7a4_9 rfl (by decide) rfl ?_
  refine g_iload_n F 0 dJ6_bitCount_0f7a4_10 rfl rfl ?_
  refine g_ldc_w F dJ6_bitCount_0f7a4_11 q738 ?_
  refine g_iand (v := (v0 - ((iU v0 1) &&& 1431655765)) &&& 858993459) F dJ6_bitCount_0f7a4_14 rfl ?_
  refine g_iload_n F 0 dJ6_bitCount_0f7a4_15 rfl rfl ?_
  refine g_iconst (v := 2) F dJ6_bitCount_0f7a4_16 (by decide) ?_
  refine g_iushr (v := iU (v0 - ((iU v0 1) &&& 1431655765)) 2) F dJ6_bitCount_0f7a4_17 rfl ?_
  refine g_ldc_w F dJ6_bitCount_0f7a4_18 q738 ?_
  refine g_iand (v := (iU (v0 - ((iU v0 1) &&& 1431655765)) 2) &&& 858993459) F dJ6_bitCount_0f7a4_21 rfl ?_
  refine g_iadd (v := ((v0 - ((iU v0 1) &&& 1431655765)) &&& 858993459) + ((iU (v0 - ((iU v0 1) &&& 1431655765)) 2) &&& 858993459)) F dJ6_bitCount_0f7a4_22 rfl ?_
  refine g_istore_n (Ln := [(0, .int (((v0 - ((iU v0 1) &&& 1431655765)) &&& 858993459) + ((iU (v0 - ((iU v0 1) &&& 1431655765)) 2) &&& 858993459)))]) F dJ6_bitCount_0f7a4_23 rfl (by decide) rfl ?_
  refine g_iload_n F 0 dJ6_bitCount_0f7a4_24 rfl rfl ?_
  refine g_iload_n F 0 dJ6_bitCount_0f7a4_25 rfl rfl ?_
  refine g_iconst (v := 4) F dJ6_bitCount_0f7a4_26 (by decide) ?_
  refine g_iushr (v := iU (((v0 - ((iU v0 1) &&& 1431655765)) &&& 858993459) + ((iU (v0 - ((iU v0 1) &&& 1431655765)) 2) &&& 858993459)) 4) F dJ6_bitCount_0f7a4_27 rfl ?_
  refine g_iadd (v := (((v0 - ((iU v0 1) &&& 1431655765)) &&& 858993459) + ((iU (v0 - ((iU v0 1) &&& 1431655765)) 2) &&& 858993459)) + (iU (((v0 - ((iU v0 1) &&& 1431655765)) &&& 858993459) + ((iU (v0 - ((iU v0 1) &&& 1431655765)) 2) &&& 858993459)) 4)) F dJ6_bitCount_0f7a4_28 rfl ?_
  refine g_ldc_w F dJ6_bitCount_0f7a4_29 q739 ?_
  refine g_iand (v := ((((v0 - ((iU v0 1) &&& 1431655765)) &&& 858993459) + ((iU (v0 - ((iU v0 1) &&& 1431655765)) 2) &&& 858993459)) + (iU (((v0 - ((iU v0 1) &&& 1431655765)) &&& 858993459) + ((iU (v0 - ((iU v0 1) &&& 1431655765)) 2) &&& 858993459)) 4)) &&& 252645135) F dJ6_bitCount_0f7a4_32 rfl ?_
  refine g_istore_n (Ln := [(0, .int (((((v0 - ((iU v0 1) &&& 1431655765)) &&& 858993459) + ((iU (v0 - ((iU v0 1) &&& 1431655765)) 2) &&& 858993459)) + (iU (((v0 - ((iU v0 1) &&& 1431655765)) &&& 858993459) + ((iU (v0 - ((iU v0 1) &&& 1431655765)) 2) &&& 858993459)) 4)) &&& 252645135))]) F dJ6_bitCount_0f7a4_33 rfl (by decide) rfl ?_
  refine g_iload_n F 0 dJ6_bitCount_0f7a4_34 rfl rfl ?_
  refine g_iload_n F 0 dJ6_bitCount_0f7a4_35 rfl rfl ?_
  refine g_bipush (v := 8) F dJ6_bitCount_0f7a4_36 (by decide) ?_
  refine g_iushr (v := iU (((((v0 - ((iU v0 1) &&& 1431655765)) &&& 858993459) + ((iU (v0 - ((iU v0 1) &&& 1431655765)) 2) &&& 858993459)) + (iU (((v0 - ((iU v0 1) &&& 1431655765)) &&& 858993459) + ((iU (v0 - ((iU v0 1) &&& 1431655765)) 2) &&& 858993459)) 4)) &&& 252645135) 8) F dJ6_bitCount_0f7a4_38 rfl ?_
  refine g_iadd (v := (((((v0 - ((iU v0 1) &&& 1431655765)) &&& 858993459) + ((iU (v0 - ((iU v0 1) &&& 1431655765)) 2) &&& 858993459)) + (iU (((v0 - ((iU v0 1) &&& 1431655765)) &&& 858993459) + ((iU (v0 - ((iU v0 1) &&& 1431655765)) 2) &&& 858993459)) 4)) &&& 252645135) + (iU (((((v0 - ((iU v0 1) &&& 1431655765)) &&& 858993459) + ((iU (v0 - ((iU v0 1) &&& 1431655765)) 2) &&& 858993459)) + (iU (((v0 - ((iU v0 1) &&& 1431655765)) &&& 858993459) + ((iU (v0 - ((iU v0 1) &&& 1431655765)) 2) &&& 858993459)) 4)) &&& 252645135) 8)) F dJ6_bitCount_0f7a4_39 rfl ?_
  refine g_istore_n (Ln := [(0, .int ((((((v0 - ((iU v0 1) &&& 1431655765)) &&& 858993459) + ((iU (v0 - ((iU v0 1) &&& 1431655765)) 2) &&& 858993459)) + (iU (((v0 - ((iU v0 1) &&& 1431655765)) &&& 858993459) + ((iU (v0 - ((iU v0 1) &&& 1431655765)) 2) &&& 858993459)) 4)) &&& 252645135) + (iU (((((v0 - ((iU v0 1) &&& 1431655765)) &&& 858993459) + ((iU (v0 - ((iU v0 1) &&& 1431655765)) 2) &&& 858993459)) + (iU (((v0 - ((iU v0 1) &&& 1431655765)) &&& 858993459) + ((iU (v0 - ((iU v0 1) &&& 1431655765)) 2) &&& 858993459)) 4)) &&& 252645135) 8)))]) F dJ6_bitCount_0f7a4_40 rfl (by decide) rfl ?_
  refine g_iload_n F 0 dJ6_bitCount_0f7a4_41 rfl rfl ?_
  refine g_iload_n F 0 dJ6_bitCount_0f7a4_42 rfl rfl ?_
  refine g_bipush (v := 16) F dJ6_bitCount_0f7a4_43 (by decide) ?_
  refine g_iushr (v := iU ((((((v0 - ((iU v0 1) &&& 1431655765)) &&& 858993459) + ((iU (v0 - ((iU v0 1) &&& 1431655765)) 2) &&& 858993459)) + (iU (((v0 - ((iU v0 1) &&& 1431655765)) &&& 858993459) + ((iU (v0 - ((iU v0 1) &&& 1431655765)) 2) &&& 858993459)) 4)) &&& 252645135) + (iU (((((v0 - ((iU v0 1) &&& 1431655765)) &&& 858993459) + ((iU (v0 - ((iU v0 1) &&& 1431655765)) 2) &&& 858993459)) + (iU (((v0 - ((iU v0 1) &&& 1431655765)) &&& 858993459) + ((iU (v0 - ((iU v0 1) &&& 1431655765)) 2) &&& 858993459)) 4)) &&& 252645135) 8)) 16) F dJ6_bitCount_0f7a4_45 rfl ?_
  refine g_iadd (v := ((((((v0 - ((iU v0 1) &&& 1431655765)) &&& 858993459) + ((iU (v0 - ((iU v0 1) &&& 1431655765)) 2) &&& 858993459)) + (iU (((v0 - ((iU v0 1) &&& 1431655765)) &&& 858993459) + ((iU (v0 - ((iU v0 1) &&& 1431655765)) 2) &&& 858993459)) 4)) &&& 252645135) + (iU (((((v0 - ((iU v0 1) &&& 1431655765)) &&& 858993459) + ((iU (v0 - ((iU v0 1) &&& 1431655765)) 2) &&& 858993459)) + (iU (((v0 - ((iU v0 1) &&& 1431655765)) &&& 858993459) + ((iU (v0 - ((iU v0 1) &&& 1431655765)) 2) &&& 858993459)) 4)) &&& 252645135) 8)) + (iU ((((((v0 - ((iU v0 1) &&& 1431655765)) &&& 858993459) + ((iU (v0 - ((iU v0 1) &&& 1431655765)) 2) &&& 858993459)) + (iU (((v0 - ((iU v0 1) &&& 1431655765)) &&& 858993459) + ((iU (v0 - ((iU v0 1) &&& 1431655765)) 2) &&& 858993459)) 4)) &&& 252645135) + (iU (((((v0 - ((iU v0 1) &&& 1431655765)) &&& 858993459) + ((iU (v0 - ((iU v0 1) &&& 1431655765)) 2) &&& 858993459)) + (iU (((v0 - ((iU v0 1) &&& 1431655765)) &&& 858993459) + ((iU (v0 - ((iU v0 1) &&& 1431655765)) 2) &&& 858993459)) 4)) &&& 252645135) 8)) 16)) F dJ6_bitCount_0f7a4_46 rfl ?_
  refine g_istore_n (Ln := [(0, .int (((((((v0 - ((iU v0 1) &&& 1431655765)) &&& 858993459) + ((iU (v0 - ((iU v0 1) &&& 1431655765)) 2) &&& 858993459)) + (iU (((v0 - ((iU v0 1) &&& 1431655765)) &&& 858993459) + ((iU (v0 - ((iU v0 1) &&& 1431655765)) 2) &&& 858993459)) 4)) &&& 252645135) + (iU (((((v0 - ((iU v0 1) &&& 1431655765)) &&& 858993459) + ((iU (v0 - ((iU v0 1) &&& 1431655765)) 2) &&& 858993459)) + (iU (((v0 - ((iU v0 1) &&& 1431655765)) &&& 858993459) + ((iU (v0 - ((iU v0 1) &&& 1431655765)) 2) &&& 858993459)) 4)) &&& 252645135) 8)) + (iU ((((((v0 - ((iU v0 1) &&& 1431655765)) &&& 858993459) + ((iU (v0 - ((iU v0 1) &&& 1431655765)) 2) &&& 858993459)) + (iU (((v0 - ((iU v0 1) &&& 1431655765)) &&& 858993459) + ((iU (v0 - ((iU v0 1) &&& 1431655765)) 2) &&& 858993459)) 4)) &&& 252645135) + (iU (((((v0 - ((iU v0 1) &&& 1431655765)) &&& 858993459) + ((iU (v0 - ((iU v0 1) &&& 1431655765)) 2) &&& 858993459)) + (iU (((v0 - ((iU v0 1) &&& 1431655765)) &&& 858993459) + ((iU (v0 - ((iU v0 1) &&& 1431655765)) 2) &&& 858993459)) 4)) &&& 252645135) 8)) 16)))]) F dJ6_bitCount_0f7a4_47 rfl (by decide) rfl ?_
  refine g_iload_n F 0 dJ6_bitCount_0f7a4_48 rfl rfl ?_
  refine g_bipush (v := 63) F dJ6_bitCount_0f7a4_49 (by decide) ?_
  refine g_iand (v := (((((((v0 - ((iU v0 1) &&& 1431655765)) &&& 858993459) + ((iU (v0 - ((iU v0 1) &&& 1431655765)) 2) &&& 858993459)) + (iU (((v0 - ((iU v0 1) &&& 1431655765)) &&& 858993459) + ((iU (v0 - ((iU v0 1) &&& 1431655765)) 2) &&& 858993459)) 4)) &&& 252645135) + (iU (((((v0 - ((iU v0 1) &&& 1431655765)) &&& 858993459) + ((iU (v0 - ((iU v0 1) &&& 1431655765)) 2) &&& 858993459)) + (iU (((v0 - ((iU v0 1) &&& 1431655765)) &&& 858993459) + ((iU (v0 - ((iU v0 1) &&& 1431655765)) 2) &&& 858993459)) 4)) &&& 252645135) 8)) + (iU ((((((v0 - ((iU v0 1) &&& 1431655765)) &&& 858993459) + ((iU (v0 - ((iU v0 1) &&& 1431655765)) 2) &&& 858993459)) + (iU (((v0 - ((iU v0 1) &&& 1431655765)) &&& 858993459) + ((iU (v0 - ((iU v0 1) &&& 1431655765)) 2) &&& 858993459)) 4)) &&& 252645135) + (iU (((((v0 - ((iU v0 1) &&& 1431655765)) &&& 858993459) + ((iU (v0 - ((iU v0 1) &&& 1431655765)) 2) &&& 858993459)) + (iU (((v0 - ((iU v0 1) &&& 1431655765)) &&& 858993459) + ((iU (v0 - ((iU v0 1) &&& 1431655765)) 2) &&& 858993459)) 4)) &&& 252645135) 8)) 16)) &&& 63) F dJ6_bitCount_0f7a4_51 rfl ?_
  obtain rfl := Option.some.inj h
  exact g_iret F e dJ6_bitCount_0f7a4_52 ⟨rfl, rfl, rfl⟩
theorem DX8_givenRows_0 : dAre cX8_givenRows [(0, .aload_n 0, 1), (1, .getfield 42, 3), (4, .aload_n 0, 1), (5, .getfield 32, 3), (8, .aload_n 0, 1), (9, .getfield 19, 3), (12, .iload_n 1, 1), (13, .invokevirtual 212, 3), (16, .invokestatic 352, 3), (19, .ireturn, 1)] := dAre0 (by decide +kernel)
theorem dX8_givenRows_0 : decode cX8_givenRows 0 = .ok (.aload_n 0, 1) := DX8_givenRows_0.1
theorem dX8_givenRows_1 : decode cX8_givenRows 1 = .ok (.getfield 42, 3) := DX8_givenRows_0.2.1
theorem dX8_givenRows_4 : decode cX8_givenRows 4 = .ok (.aload_n 0, 1) := DX8_givenRows_0.2.2.1
theorem dX8_givenRows_5 : decode cX8_givenRows 5 = .ok (.getfield 32, 3) := DX8_givenRows_0.2.2.2.1
theorem dX8_givenRows_8 : decode cX8_givenRows 8 = .ok (.aload_n 0, 1) := DX8_givenRows_0.2.2.2.2.1
theorem dX8_givenRows_9 : decode cX8_givenRows 9 = .ok (.getfield 19, 3) := DX8_givenRows_0.2.2.2.2.2.1
theorem dX8_givenRows_12 : decode cX8_givenRows 12 = .ok (.iload_n 1, 1) := DX8_givenRows_0.2.2.2.2.2.2.1
theorem dX8_givenRows_13 : decode cX8_givenRows 13 = .ok (.invokevirtual 212, 3) := DX8_givenRows_0.2.2.2.2.2.2.2.1
theorem dX8_givenRows_16 : decode cX8_givenRows 16 = .ok (.invokestatic 352, 3) := DX8_givenRows_0.2.2.2.2.2.2.2.2.1
theorem dX8_givenRows_19 : decode cX8_givenRows 19 = .ok (.ireturn, 1) := DX8_givenRows_0.2.2.2.2.2.2.2.2.2.1
theorem mX8_givenRows : gMv yX8_givenRows cX8_givenRows 2 (some .int) RX8 1 := ⟨q732, q1378, q1, q733, rfl, by decide, by decide, by decide +kernel⟩
noncomputable def fX8_givenRows (v1 : Int32) (I : gM) : Option (Int32) :=
  (fX0_givenBits 18 3 v1 I).bind fun r1 =>
  (fJ6_bitCount_0f7a4 r1).bind fun r2 =>
  some r2
set_option maxRecDepth 100000 in
set_option maxHeartbeats 4000000 in
theorem wX8_givenRows (l : Launch) (E : gE) (hE : gDist sh E) (bk : Nat) (v1 : Int32) (I : gM) (J : gN) {r : Int32} (h : fX8_givenRows v1 I = some r) : Cu l sh E bk yX8_givenRows cX8_givenRows 2 (some .int) (gR 3) [.ref (E.2.1 0), .int v1] I J (fun r1 I1 J1 => r1 = some (.int r) ∧ I1 = I ∧ J1 = J) := by
  refine Cu.of "LeapJoin" rfl hE (by decide) (Nat.le_of_ble_eq_true rfl) (fun z F B e hl => ?_)
  subst hl
  unfold fX8_givenRows at h
  refine g_aload_n F 0 dX8_givenRows_0 rfl rfl ?_
  refine g_getr (j := 6) (nn := 40) F s0 rfl rfl uX8 (by decide) q175 dX8_givenRows_1 ?_
  refine g_aload_n F 0 dX8_givenRows_4 rfl rfl ?_
  refine g_getr (j := 4) (nn := 18) F s0 rfl rfl uX8 (by decide) q173 dX8_givenRows_5 ?_
  refine g_aload_n F 0 dX8_givenRows_8 rfl rfl ?_
  refine g_getr (j := 1) (nn := 3) F s0 rfl rfl uX8 (by decide) q170 dX8_givenRows_9 ?_
  refine g_iload_n F 1 dX8_givenRows_12 rfl rfl ?_
  refine u_callV (k := 40) (As := [.ref (E.2.1 18), .ref (E.2.1 3), .int v1]) (rest := []) (sn := fun r1 => [.int r1]) F B (fun _ => wX0_givenBits (zl z) E hE bk 18 3 v1 shX1_18 shX5_3 I J) mX0_givenBits q459 rfl s40 rfl rfl rfl (Nat.le_of_ble_eq_true rfl) dX8_givenRows_13 (fun _ => rfl) h (fun r1 h => ?_)
  refine u_callS (As := [.int r1]) (rest := []) (sn := fun r2 => [.int r2]) F B (fun _ => wJ6_bitCount_0f7a4 (zl z) E hE bk r1 I J) mJ6_bitCount_0f7a4 q734 rfl rfl rfl (Nat.le_of_ble_eq_true rfl) dX8_givenRows_16 (fun _ => rfl) h (fun r2 h => ?_)
  obtain rfl := Option.some.inj h
  exact g_iret F e dX8_givenRows_19 ⟨rfl, rfl, rfl⟩
theorem DX8_tableWithMostGiven_0 : dAre cX8_tableWithMostGiven [(0, .iconst 0, 1), (1, .istore_n 1, 1), (2, .aload_n 0, 1), (3, .iconst 0, 1), (4, .invokevirtual 357, 3), (7, .istore_n 2, 1), (8, .iconst 1, 1), (9, .istore_n 3, 1), (10, .iload_n 3, 1), (11, .aload_n 0, 1), (12, .getfield 19, 3), (15, .getfield 134, 3), (18, .if_icmp .ge 27, 3), (21, .aload_n 0, 1), (22, .iload_n 3, 1), (23, .invokevirtual 357, 3)] := dAre0 (by decide +kernel)
theorem dX8_tableWithMostGiven_0 : decode cX8_tableWithMostGiven 0 = .ok (.iconst 0, 1) := DX8_tableWithMostGiven_0.1
theorem dX8_tableWithMostGiven_1 : decode cX8_tableWithMostGiven 1 = .ok (.istore_n 1, 1) := DX8_tableWithMostGiven_0.2.1
theorem dX8_tableWithMostGiven_2 : decode cX8_tableWithMostGiven 2 = .ok (.aload_n 0, 1) := DX8_tableWithMostGiven_0.2.2.1
theorem dX8_tableWithMostGiven_3 : decode cX8_tableWithMostGiven 3 = .ok (.iconst 0, 1) := DX8_tableWithMostGiven_0.2.2.2.1
theorem dX8_tableWithMostGiven_4 : decode cX8_tableWithMostGiven 4 = .ok (.invokevirtual 357, 3) := DX8_tableWithMostGiven_0.2.2.2.2.1
theorem dX8_tableWithMostGiven_7 : decode cX8_tableWithMostGiven 7 = .ok (.istore_n 2, 1) := DX8_tableWithMostGiven_0.2.2.2.2.2.1
theorem dX8_tableWithMostGiven_8 : decode cX8_tableWithMostGiven 8 = .ok (.iconst 1, 1) := DX8_tableWithMostGiven_0.2.2.2.2.2.2.1
theorem dX8_tableWithMostGiven_9 : decode cX8_tableWithMostGiven 9 = .ok (.istore_n 3, 1) := DX8_tableWithMostGiven_0.2.2.2.2.2.2.2.1
theorem dX8_tableWithMostGiven_10 : decode cX8_tableWithMostGiven 10 = .ok (.iload_n 3, 1) := DX8_tableWithMostGiven_0.2.2.2.2.2.2.2.2.1
theorem dX8_tableWithMostGiven_11 : decode cX8_tableWithMostGiven 11 = .ok (.aload_n 0, 1) := DX8_tableWithMostGiven_0.2.2.2.2.2.2.2.2.2.1
theorem dX8_tableWithMostGiven_12 : decode cX8_tableWithMostGiven 12 = .ok (.getfield 19, 3) := DX8_tableWithMostGiven_0.2.2.2.2.2.2.2.2.2.2.1
theorem dX8_tableWithMostGiven_15 : decode cX8_tableWithMostGiven 15 = .ok (.getfield 134, 3) := DX8_tableWithMostGiven_0.2.2.2.2.2.2.2.2.2.2.2.1
theorem dX8_tableWithMostGiven_18 : decode cX8_tableWithMostGiven 18 = .ok (.if_icmp .ge 27, 3) := DX8_tableWithMostGiven_0.2.2.2.2.2.2.2.2.2.2.2.2.1
theorem dX8_tableWithMostGiven_21 : decode cX8_tableWithMostGiven 21 = .ok (.aload_n 0, 1) := DX8_tableWithMostGiven_0.2.2.2.2.2.2.2.2.2.2.2.2.2.1
theorem dX8_tableWithMostGiven_22 : decode cX8_tableWithMostGiven 22 = .ok (.iload_n 3, 1) := DX8_tableWithMostGiven_0.2.2.2.2.2.2.2.2.2.2.2.2.2.2.1
theorem dX8_tableWithMostGiven_23 : decode cX8_tableWithMostGiven 23 = .ok (.invokevirtual 357, 3) := DX8_tableWithMostGiven_0.2.2.2.2.2.2.2.2.2.2.2.2.2.2.2.1
theorem DX8_tableWithMostGiven_26 : dAre cX8_tableWithMostGiven [(26, .istore 4, 2), (28, .iload 4, 2), (30, .iload_n 2, 1), (31, .if_icmp .le 8, 3), (34, .iload_n 3, 1), (35, .istore_n 1, 1), (36, .iload 4, 2), (38, .istore_n 2, 1), (39, .iinc 3 1, 3), (42, .goto (-32), 3), (45, .iload_n 1, 1), (46, .ireturn, 1)] := dAre0 (by decide +kernel)
theorem dX8_tableWithMostGiven_26 : decode cX8_tableWithMostGiven 26 = .ok (.istore 4, 2) := DX8_tableWithMostGiven_26.1
theorem dX8_tableWithMostGiven_28 : decode cX8_tableWithMostGiven 28 = .ok (.iload 4, 2) := DX8_tableWithMostGiven_26.2.1
theorem dX8_tableWithMostGiven_30 : decode cX8_tableWithMostGiven 30 = .ok (.iload_n 2, 1) := DX8_tableWithMostGiven_26.2.2.1
theorem dX8_tableWithMostGiven_31 : decode cX8_tableWithMostGiven 31 = .ok (.if_icmp .le 8, 3) := DX8_tableWithMostGiven_26.2.2.2.1
theorem dX8_tableWithMostGiven_34 : decode cX8_tableWithMostGiven 34 = .ok (.iload_n 3, 1) := DX8_tableWithMostGiven_26.2.2.2.2.1
theorem dX8_tableWithMostGiven_35 : decode cX8_tableWithMostGiven 35 = .ok (.istore_n 1, 1) := DX8_tableWithMostGiven_26.2.2.2.2.2.1
theorem dX8_tableWithMostGiven_36 : decode cX8_tableWithMostGiven 36 = .ok (.iload 4, 2) := DX8_tableWithMostGiven_26.2.2.2.2.2.2.1
theorem dX8_tableWithMostGiven_38 : decode cX8_tableWithMostGiven 38 = .ok (.istore_n 2, 1) := DX8_tableWithMostGiven_26.2.2.2.2.2.2.2.1
theorem dX8_tableWithMostGiven_39 : decode cX8_tableWithMostGiven 39 = .ok (.iinc 3 1, 3) := DX8_tableWithMostGiven_26.2.2.2.2.2.2.2.2.1
theorem dX8_tableWithMostGiven_42 : decode cX8_tableWithMostGiven 42 = .ok (.goto (-32), 3) := DX8_tableWithMostGiven_26.2.2.2.2.2.2.2.2.2.1
theorem dX8_tableWithMostGiven_45 : decode cX8_tableWithMostGiven 45 = .ok (.iload_n 1, 1) := DX8_tableWithMostGiven_26.2.2.2.2.2.2.2.2.2.2.1
theorem dX8_tableWithMostGiven_46 : decode cX8_tableWithMostGiven 46 = .ok (.ireturn, 1) := DX8_tableWithMostGiven_26.2.2.2.2.2.2.2.2.2.2.2.1
theorem mX8_tableWithMostGiven : gMv yX8_tableWithMostGiven cX8_tableWithMostGiven 5 (some .int) RX8 0 := ⟨q729, q1377, q1, q730, rfl, by decide, by decide, by decide +kernel⟩
noncomputable def bX8_tableWithMostGiven_39 (v1 : Int32) (v2 : Int32) (v3 : Int32) : Option ((Int32 × Int32 × Int32) ⊕ (Int32)) :=
  some (.inl (v1, v2, v3 + 1))
set_option maxRecDepth 100000 in
set_option maxHeartbeats 4000000 in
theorem wbX8_tableWithMostGiven_39 {z : gZ} {E : gE} {bk : Nat} (F : Fx z sh E "LeapJoin" cX8_tableWithMostGiven (gR 4) 5) (B : bZ z bk) (hE : gDist sh E) (v1 : Int32) (v2 : Int32) (v3 : Int32) (I : gM) (J : gN) {y : (Int32 × Int32 × Int32) ⊕ (Int32)} (h : bX8_tableWithMostGiven_39 v1 v2 v3 = some y) (hl : ∀ s' : Int32 × Int32 × Int32, y = .inl s' → G z 10 [(0, .ref (E.2.1 0)), (1, .int (s'.1)), (2, .int (s'.2.1)), (3, .int (s'.2.2))] [] I J) (K10_0 : ∀ x : Int32, y = .inr x → G z 45 [(1, .int x)] [] I J) : G z 39 [(0, .ref (E.2.1 0)), (1, .int v1), (2, .int v2), (3, .int v3)] [] I J := by
  unfold bX8_tableWithMostGiven_39 at h
  refine g_iinc (v := v3 + 1) (Ln := [(3, .int (v3 + 1)), (0, .ref (E.2.1 0)), (1, .int v1), (2, .int v2)]) F 3 dX8_tableWithMostGiven_39 rfl (add_c (by decide)) (by decide) rfl ?_
  refine g_goto (tgt := 10) F dX8_tableWithMostGiven_42 (by decide) ?_
  obtain rfl := Option.some.inj h
  refine g_sub (Ln := [(0, .ref (E.2.1 0)), (1, .int v1), (2, .int v2), (3, .int (v3 + 1))]) [1, 2, 3, 0] rfl ?_
  exact hl (v1, v2, v3 + 1) rfl
noncomputable def lX8_tableWithMostGiven_10 (I : gM) : (Int32 × Int32 × Int32) → Option (Int32) :=
  itO fun s =>
    if (I 3 0) ≤ s.2.2 then
      some (.inr s.1)
    else
      (fX8_givenRows s.2.2 I).bind fun r2 =>
      if r2 ≤ s.2.1 then
        bX8_tableWithMostGiven_39 s.1 s.2.1 s.2.2
      else
        bX8_tableWithMostGiven_39 s.2.2 r2 s.2.2
set_option maxRecDepth 100000 in
set_option maxHeartbeats 4000000 in
theorem wlX8_tableWithMostGiven_10 {z : gZ} {E : gE} {bk : Nat} (F : Fx z sh E "LeapJoin" cX8_tableWithMostGiven (gR 4) 5) (B : bZ z bk) (hE : gDist sh E) (I : gM) (J : gN) {r : Int32} : ∀ s : Int32 × Int32 × Int32, lX8_tableWithMostGiven_10 I s = some r → (G z 45 [(1, .int r)] [] I J) → G z 10 [(0, .ref (E.2.1 0)), (1, .int s.1), (2, .int s.2.1), (3, .int s.2.2)] [] I J := by
  intro s h X0
  unfold lX8_tableWithMostGiven_10 at h
  revert s
  refine itO_ind (P := fun s : Int32 × Int32 × Int32 => G z 10 [(0, .ref (E.2.1 0)), (1, .int s.1), (2, .int s.2.1), (3, .int s.2.2)] [] I J) (fun s y h hl hr => ?_)
  have K10_0 : ∀ x : Int32, y = .inr x → (G z 45 [(1, .int x)] [] I J) := fun x q => by have q2 := hr _ q; subst q2; exact X0
  refine g_iload_n F 3 dX8_tableWithMostGiven_10 rfl rfl ?_
  refine g_aload_n F 0 dX8_tableWithMostGiven_11 rfl rfl ?_
  refine g_getr (j := 1) (nn := 3) F s0 rfl rfl uX8 (by decide) q170 dX8_tableWithMostGiven_12 ?_
  refine g_geti (j := 0) (v := I 3 0) F shX5_3.1 rfl rfl uX5 (by decide) q49 rfl dX8_tableWithMostGiven_15 ?_
  refine u_icmp_ge (tgt := 45) F dX8_tableWithMostGiven_18 (by decide) h (fun h => ?_) (fun h => ?_)
  · obtain rfl := Option.some.inj h
    refine g_sub (Ln := [(1, .int s.1)]) [1] rfl ?_
    exact K10_0 s.1 rfl
  · refine g_aload_n F 0 dX8_tableWithMostGiven_21 rfl rfl ?_
    refine g_iload_n F 3 dX8_tableWithMostGiven_22 rfl rfl ?_
    refine u_callV (k := 0) (As := [.int s.2.2]) (rest := []) (sn := fun r2 => [.int r2]) F B (fun _ => wX8_givenRows (zl z) E hE bk s.2.2 I J) mX8_givenRows q731 rfl s0 rfl rfl rfl (Nat.le_of_ble_eq_true rfl) dX8_tableWithMostGiven_23 (fun _ => rfl) h (fun r2 h => ?_)
    refine g_istore (Ln := [(4, .int r2), (0, .ref (E.2.1 0)), (1, .int s.1), (2, .int s.2.1), (3, .int s.2.2)]) F dX8_tableWithMostGiven_26 (by decide) rfl ?_
    refine g_iload F 0 dX8_tableWithMostGiven_28 rfl ?_
    refine g_iload_n F 3 dX8_tableWithMostGiven_30 rfl rfl ?_
    refine u_icmp_le (tgt := 39) F dX8_tableWithMostGiven_31 (by decide) h (fun h => ?_) (fun h => ?_)
    · refine g_sub (Ln := [(0, .ref (E.2.1 0)), (1, .int s.1), (2, .int s.2.1), (3, .int s.2.2)]) [1, 2, 3, 4] rfl ?_
      exact wbX8_tableWithMostGiven_39 F B hE s.1 s.2.1 s.2.2 I J h hl K10_0
    · refine g_iload_n F 4 dX8_tableWithMostGiven_34 rfl rfl ?_
      refine g_istore_n (Ln := [(1, .int s.2.2), (4, .int r2), (0, .ref (E.2.1 0)), (2, .int s.2.1), (3, .int s.2.2)]) F dX8_tableWithMostGiven_35 rfl (by decide) rfl ?_
      refine g_iload F 1 dX8_tableWithMostGiven_36 rfl ?_
      refine g_istore_n (Ln := [(2, .int r2), (1, .int s.2.2), (4, .int r2), (0, .ref (E.2.1 0)), (3, .int s.2.2)]) F dX8_tableWithMostGiven_38 rfl (by decide) rfl ?_
      refine g_sub (Ln := [(0, .ref (E.2.1 0)), (1, .int s.2.2), (2, .int r2), (3, .int s.2.2)]) [3, 1, 0, 4] rfl ?_
      exact wbX8_tableWithMostGiven_39 F B hE s.2.2 r2 s.2.2 I J h hl K10_0
noncomputable def fX8_tableWithMostGiven (I : gM) : Option (Int32) :=
  (fX8_givenRows (0 : Int32) I).bind fun r1 =>
  (lX8_tableWithMostGiven_10 I ((0 : Int32), r1, (1 : Int32))).bind fun w3 =>
  some w3
set_option maxRecDepth 100000 in
set_option maxHeartbeats 4000000 in
theorem wX8_tableWithMostGiven (l : Launch) (E : gE) (hE : gDist sh E) (bk : Nat) (I : gM) (J : gN) {r : Int32} (h : fX8_tableWithMostGiven I = some r) : Cu l sh E bk yX8_tableWithMostGiven cX8_tableWithMostGiven 5 (some .int) (gR 4) [.ref (E.2.1 0)] I J (fun r1 I1 J1 => r1 = some (.int r) ∧ I1 = I ∧ J1 = J) := by
  refine Cu.of "LeapJoin" rfl hE (by decide) (Nat.le_of_ble_eq_true rfl) (fun z F B e hl => ?_)
  subst hl
  unfold fX8_tableWithMostGiven at h
  refine g_iconst (v := 0) F dX8_tableWithMostGiven_0 (by decide) ?_
  refine g_istore_n (Ln := [(1, .int 0), (0, .ref (E.2.1 0))]) F dX8_tableWithMostGiven_1 rfl (by decide) rfl ?_
  refine g_aload_n F 1 dX8_tableWithMostGiven_2 rfl rfl ?_
  refine g_iconst (v := 0) F dX8_tableWithMostGiven_3 (by decide) ?_
  refine u_callV (k := 0) (As := [.int 0]) (rest := []) (sn := fun r1 => [.int r1]) F B (fun _ => wX8_givenRows (zl z) E hE bk (0 : Int32) I J) mX8_givenRows q731 rfl s0 rfl rfl rfl (Nat.le_of_ble_eq_true rfl) dX8_tableWithMostGiven_4 (fun _ => rfl) h (fun r1 h => ?_)
  refine g_istore_n (Ln := [(2, .int r1), (1, .int 0), (0, .ref (E.2.1 0))]) F dX8_tableWithMostGiven_7 rfl (by decide) rfl ?_
  refine g_iconst (v := 1) F dX8_tableWithMostGiven_8 (by decide) ?_
  refine g_istore_n (Ln := [(3, .int 1), (2, .int r1), (1, .int 0), (0, .ref (E.2.1 0))]) F dX8_tableWithMostGiven_9 rfl (by decide) rfl ?_
  obtain ⟨w3, ew3, h⟩ := ob h
  refine g_sub (Ln := [(0, .ref (E.2.1 0)), (1, .int 0), (2, .int r1), (3, .int 1)]) [3, 2, 1, 0] rfl ?_
  refine wlX8_tableWithMostGiven_10 F B hE I J _ ew3 ?_
  refine g_iload_n F 0 dX8_tableWithMostGiven_45 rfl rfl ?_
  obtain rfl := Option.some.inj h
  exact g_iret F e dX8_tableWithMostGiven_46 ⟨rfl, rfl, rfl⟩
theorem DX8_dangling_0 : dAre cX8_dangling [(0, .iconst 0, 1), (1, .istore_n 1, 1), (2, .iconst 0, 1), (3, .istore_n 2, 1), (4, .iload_n 2, 1), (5, .aload_n 0, 1), (6, .getfield 19, 3), (9, .getfield 134, 3), (12, .if_icmp .ge 38, 3), (15, .aload_n 0, 1), (16, .getfield 19, 3), (19, .iload_n 2, 1), (20, .invokevirtual 179, 3), (23, .ifCond .eq 21, 3), (26, .iload_n 1, 1), (27, .aload_n 0, 1)] := dAre0 (by decide +kernel)
theorem dX8_dangling_0 : decode cX8_dangling 0 = .ok (.iconst 0, 1) := DX8_dangling_0.1
theorem dX8_dangling_1 : decode cX8_dangling 1 = .ok (.istore_n 1, 1) := DX8_dangling_0.2.1
theorem dX8_dangling_2 : decode cX8_dangling 2 = .ok (.iconst 0, 1) := DX8_dangling_0.2.2.1
theorem dX8_dangling_3 : decode cX8_dangling 3 = .ok (.istore_n 2, 1) := DX8_dangling_0.2.2.2.1
theorem dX8_dangling_4 : decode cX8_dangling 4 = .ok (.iload_n 2, 1) := DX8_dangling_0.2.2.2.2.1
theorem dX8_dangling_5 : decode cX8_dangling 5 = .ok (.aload_n 0, 1) := DX8_dangling_0.2.2.2.2.2.1
theorem dX8_dangling_6 : decode cX8_dangling 6 = .ok (.getfield 19, 3) := DX8_dangling_0.2.2.2.2.2.2.1
theorem dX8_dangling_9 : decode cX8_dangling 9 = .ok (.getfield 134, 3) := DX8_dangling_0.2.2.2.2.2.2.2.1
theorem dX8_dangling_12 : decode cX8_dangling 12 = .ok (.if_icmp .ge 38, 3) := DX8_dangling_0.2.2.2.2.2.2.2.2.1
theorem dX8_dangling_15 : decode cX8_dangling 15 = .ok (.aload_n 0, 1) := DX8_dangling_0.2.2.2.2.2.2.2.2.2.1
theorem dX8_dangling_16 : decode cX8_dangling 16 = .ok (.getfield 19, 3) := DX8_dangling_0.2.2.2.2.2.2.2.2.2.2.1
theorem dX8_dangling_19 : decode cX8_dangling 19 = .ok (.iload_n 2, 1) := DX8_dangling_0.2.2.2.2.2.2.2.2.2.2.2.1
theorem dX8_dangling_20 : decode cX8_dangling 20 = .ok (.invokevirtual 179, 3) := DX8_dangling_0.2.2.2.2.2.2.2.2.2.2.2.2.1
theorem dX8_dangling_23 : decode cX8_dangling 23 = .ok (.ifCond .eq 21, 3) := DX8_dangling_0.2.2.2.2.2.2.2.2.2.2.2.2.2.1
theorem dX8_dangling_26 : decode cX8_dangling 26 = .ok (.iload_n 1, 1) := DX8_dangling_0.2.2.2.2.2.2.2.2.2.2.2.2.2.2.1
theorem dX8_dangling_27 : decode cX8_dangling 27 = .ok (.aload_n 0, 1) := DX8_dangling_0.2.2.2.2.2.2.2.2.2.2.2.2.2.2.2.1
theorem DX8_dangling_28 : dAre cX8_dangling [(28, .getfield 19, 3), (31, .getfield 176, 3), (34, .iload_n 2, 1), (35, .iaload, 1), (36, .aload_n 0, 1), (37, .iload_n 2, 1), (38, .invokevirtual 357, 3), (41, .isub, 1), (42, .iadd, 1), (43, .istore_n 1, 1), (44, .iinc 2 1, 3), (47, .goto (-43), 3), (50, .iload_n 1, 1), (51, .ireturn, 1)] := dAre0 (by decide +kernel)
theorem dX8_dangling_28 : decode cX8_dangling 28 = .ok (.getfield 19, 3) := DX8_dangling_28.1
theorem dX8_dangling_31 : decode cX8_dangling 31 = .ok (.getfield 176, 3) := DX8_dangling_28.2.1
theorem dX8_dangling_34 : decode cX8_dangling 34 = .ok (.iload_n 2, 1) := DX8_dangling_28.2.2.1
theorem dX8_dangling_35 : decode cX8_dangling 35 = .ok (.iaload, 1) := DX8_dangling_28.2.2.2.1
theorem dX8_dangling_36 : decode cX8_dangling 36 = .ok (.aload_n 0, 1) := DX8_dangling_28.2.2.2.2.1
theorem dX8_dangling_37 : decode cX8_dangling 37 = .ok (.iload_n 2, 1) := DX8_dangling_28.2.2.2.2.2.1
theorem dX8_dangling_38 : decode cX8_dangling 38 = .ok (.invokevirtual 357, 3) := DX8_dangling_28.2.2.2.2.2.2.1
theorem dX8_dangling_41 : decode cX8_dangling 41 = .ok (.isub, 1) := DX8_dangling_28.2.2.2.2.2.2.2.1
theorem dX8_dangling_42 : decode cX8_dangling 42 = .ok (.iadd, 1) := DX8_dangling_28.2.2.2.2.2.2.2.2.1
theorem dX8_dangling_43 : decode cX8_dangling 43 = .ok (.istore_n 1, 1) := DX8_dangling_28.2.2.2.2.2.2.2.2.2.1
theorem dX8_dangling_44 : decode cX8_dangling 44 = .ok (.iinc 2 1, 3) := DX8_dangling_28.2.2.2.2.2.2.2.2.2.2.1
theorem dX8_dangling_47 : decode cX8_dangling 47 = .ok (.goto (-43), 3) := DX8_dangling_28.2.2.2.2.2.2.2.2.2.2.2.1
theorem dX8_dangling_50 : decode cX8_dangling 50 = .ok (.iload_n 1, 1) := DX8_dangling_28.2.2.2.2.2.2.2.2.2.2.2.2.1
theorem dX8_dangling_51 : decode cX8_dangling 51 = .ok (.ireturn, 1) := DX8_dangling_28.2.2.2.2.2.2.2.2.2.2.2.2.2.1
theorem mX8_dangling : gMv yX8_dangling cX8_dangling 3 (some .int) RX8 0 := ⟨q741, q1379, q1, q742, rfl, by decide, by decide, by decide +kernel⟩
noncomputable def bX8_dangling_44 (v1 : Int32) (v2 : Int32) : Option ((Int32 × Int32) ⊕ (Int32)) :=
  some (.inl (v1, v2 + 1))
set_option maxRecDepth 100000 in
set_option maxHeartbeats 4000000 in
theorem wbX8_dangling_44 {z : gZ} {E : gE} {bk : Nat} (F : Fx z sh E "LeapJoin" cX8_dangling (gR 4) 3) (B : bZ z bk) (hE : gDist sh E) (v1 : Int32) (v2 : Int32) (I : gM) (J : gN) {y : (Int32 × Int32) ⊕ (Int32)} (h : bX8_dangling_44 v1 v2 = some y) (hl : ∀ s' : Int32 × Int32, y = .inl s' → G z 4 [(0, .ref (E.2.1 0)), (1, .int (s'.1)), (2, .int (s'.2))] [] I J) (K4_0 : ∀ x : Int32, y = .inr x → G z 50 [(1, .int x)] [] I J) : G z 44 [(0, .ref (E.2.1 0)), (1, .int v1), (2, .int v2)] [] I J := by
  unfold bX8_dangling_44 at h
  refine g_iinc (v := v2 + 1) (Ln := [(2, .int (v2 + 1)), (0, .ref (E.2.1 0)), (1, .int v1)]) F 2 dX8_dangling_44 rfl (add_c (by decide)) (by decide) rfl ?_
  refine g_goto (tgt := 4) F dX8_dangling_47 (by decide) ?_
  obtain rfl := Option.some.inj h
  refine g_sub (Ln := [(0, .ref (E.2.1 0)), (1, .int v1), (2, .int (v2 + 1))]) [1, 2, 0] rfl ?_
  exact hl (v1, v2 + 1) rfl
noncomputable def lX8_dangling_4 (I : gM) : (Int32 × Int32) → Option (Int32) :=
  itO fun s =>
    if (I 3 0) ≤ s.2 then
      some (.inr s.1)
    else
      (fX5_isUsed 3 s.2 I).bind fun r1 =>
      if r1 = 0 then
        bX8_dangling_44 s.1 s.2
      else
        (rI 4 (I 5) s.2).bind fun u2 =>
        (fX8_givenRows s.2 I).bind fun r3 =>
        bX8_dangling_44 (s.1 + (u2 - r3)) s.2
set_option maxRecDepth 100000 in
set_option maxHeartbeats 4000000 in
theorem wlX8_dangling_4 {z : gZ} {E : gE} {bk : Nat} (F : Fx z sh E "LeapJoin" cX8_dangling (gR 4) 3) (B : bZ z bk) (hE : gDist sh E) (I : gM) (J : gN) {r : Int32} : ∀ s : Int32 × Int32, lX8_dangling_4 I s = some r → (G z 50 [(1, .int r)] [] I J) → G z 4 [(0, .ref (E.2.1 0)), (1, .int s.1), (2, .int s.2)] [] I J := by
  intro s h X0
  unfold lX8_dangling_4 at h
  revert s
  refine itO_ind (P := fun s : Int32 × Int32 => G z 4 [(0, .ref (E.2.1 0)), (1, .int s.1), (2, .int s.2)] [] I J) (fun s y h hl hr => ?_)
  have K4_0 : ∀ x : Int32, y = .inr x → (G z 50 [(1, .int x)] [] I J) := fun x q => by have q2 := hr _ q; subst q2; exact X0
  refine g_iload_n F 2 dX8_dangling_4 rfl rfl ?_
  refine g_aload_n F 0 dX8_dangling_5 rfl rfl ?_
  refine g_getr (j := 1) (nn := 3) F s0 rfl rfl uX8 (by decide) q170 dX8_dangling_6 ?_
  refine g_geti (j := 0) (v := I 3 0) F shX5_3.1 rfl rfl uX5 (by decide) q49 rfl dX8_dangling_9 ?_
  refine u_icmp_ge (tgt := 50) F dX8_dangling_12 (by decide) h (fun h => ?_) (fun h => ?_)
  · obtain rfl := Option.some.inj h
    refine g_sub (Ln := [(1, .int s.1)]) [1] rfl ?_
    exact K4_0 s.1 rfl
  · refine g_aload_n F 0 dX8_dangling_15 rfl rfl ?_
    refine g_getr (j := 1) (nn := 3) F s0 rfl rfl uX8 (by decide) q170 dX8_dangling_16 ?_
    refine g_iload_n F 2 dX8_dangling_19 rfl rfl ?_
    refine u_callV (k := 3) (As := [.int s.2]) (rest := []) (sn := fun r1 => [.int r1]) F B (fun _ => wX5_isUsed (zl z) E hE bk 3 s.2 shX5_3 I J) mX5_isUsed q454 rfl shX5_3.1 rfl rfl rfl (Nat.le_of_ble_eq_true rfl) dX8_dangling_20 (fun _ => rfl) h (fun r1 h => ?_)
    refine u_if_eq (tgt := 44) F dX8_dangling_23 (by decide) h (fun h => ?_) (fun h => ?_)
    · refine g_sub (Ln := [(0, .ref (E.2.1 0)), (1, .int s.1), (2, .int s.2)]) [0, 1, 2] rfl ?_
      exact wbX8_dangling_44 F B hE s.1 s.2 I J h hl K4_0
    · refine g_iload_n F 1 dX8_dangling_26 rfl rfl ?_
      refine g_aload_n F 0 dX8_dangling_27 rfl rfl ?_
      refine g_getr (j := 1) (nn := 3) F s0 rfl rfl uX8 (by decide) q170 dX8_dangling_28 ?_
      refine g_getr (j := 4) (nn := 5) F shX5_3.1 rfl rfl uX5 (by decide) q61 dX8_dangling_31 ?_
      refine g_iload_n F 2 dX8_dangling_34 rfl rfl ?_
      refine u_rI F shX5_3.2.2.1 (by decide) dX8_dangling_35 h (fun u2 h => ?_)
      refine g_aload_n F 0 dX8_dangling_36 rfl rfl ?_
      refine g_iload_n F 2 dX8_dangling_37 rfl rfl ?_
      refine u_callV (k := 0) (As := [.int s.2]) (rest := [.int u2, .int s.1]) (sn := fun r3 => [.int r3, .int u2, .int s.1]) F B (fun _ => wX8_givenRows (zl z) E hE bk s.2 I J) mX8_givenRows q731 rfl s0 rfl rfl rfl (Nat.le_of_ble_eq_true rfl) dX8_dangling_38 (fun _ => rfl) h (fun r3 h => ?_)
      refine g_isub (v := u2 - r3) F dX8_dangling_41 rfl ?_
      refine g_iadd (v := s.1 + (u2 - r3)) F dX8_dangling_42 rfl ?_
      refine g_istore_n (Ln := [(1, .int (s.1 + (u2 - r3))), (0, .ref (E.2.1 0)), (2, .int s.2)]) F dX8_dangling_43 rfl (by decide) rfl ?_
      refine g_sub (Ln := [(0, .ref (E.2.1 0)), (1, .int (s.1 + (u2 - r3))), (2, .int s.2)]) [1, 0, 2] rfl ?_
      exact wbX8_dangling_44 F B hE (s.1 + (u2 - r3)) s.2 I J h hl K4_0
noncomputable def fX8_dangling (I : gM) : Option (Int32) :=
  (lX8_dangling_4 I ((0 : Int32), (0 : Int32))).bind fun w4 =>
  some w4
set_option maxRecDepth 100000 in
set_option maxHeartbeats 4000000 in
theorem wX8_dangling (l : Launch) (E : gE) (hE : gDist sh E) (bk : Nat) (I : gM) (J : gN) {r : Int32} (h : fX8_dangling I = some r) : Cu l sh E bk yX8_dangling cX8_dangling 3 (some .int) (gR 4) [.ref (E.2.1 0)] I J (fun r1 I1 J1 => r1 = some (.int r) ∧ I1 = I ∧ J1 = J) := by
  refine Cu.of "LeapJoin" rfl hE (by decide) (Nat.le_of_ble_eq_true rfl) (fun z F B e hl => ?_)
  subst hl
  unfold fX8_dangling at h
  refine g_iconst (v := 0) F dX8_dangling_0 (by decide) ?_
  refine g_istore_n (Ln := [(1, .int 0), (0, .ref (E.2.1 0))]) F dX8_dangling_1 rfl (by decide) rfl ?_
  refine g_iconst (v := 0) F dX8_dangling_2 (by decide) ?_
  refine g_istore_n (Ln := [(2, .int 0), (1, .int 0), (0, .ref (E.2.1 0))]) F dX8_dangling_3 rfl (by decide) rfl ?_
  obtain ⟨w4, ew4, h⟩ := ob h
  refine g_sub (Ln := [(0, .ref (E.2.1 0)), (1, .int 0), (2, .int 0)]) [2, 1, 0] rfl ?_
  refine wlX8_dangling_4 F B hE I J _ ew4 ?_
  refine g_iload_n F 0 dX8_dangling_50 rfl rfl ?_
  obtain rfl := Option.some.inj h
  exact g_iret F e dX8_dangling_51 ⟨rfl, rfl, rfl⟩
theorem DX8_tellingCouples_0 : dAre cX8_tellingCouples [(0, .iconst 0, 1), (1, .istore_n 1, 1), (2, .iconst 0, 1), (3, .istore_n 2, 1), (4, .iload_n 2, 1), (5, .iconst 4, 1), (6, .if_icmp .ge 39, 3), (9, .iconst 0, 1), (10, .istore_n 3, 1), (11, .iload_n 3, 1), (12, .iconst 4, 1), (13, .if_icmp .ge 26, 3), (16, .iload_n 2, 1), (17, .iload_n 3, 1), (18, .if_icmp .eq 15, 3), (21, .aload_n 0, 1)] := dAre0 (by decide +kernel)
theorem dX8_tellingCouples_0 : decode cX8_tellingCouples 0 = .ok (.iconst 0, 1) := DX8_tellingCouples_0.1
theorem dX8_tellingCouples_1 : decode cX8_tellingCouples 1 = .ok (.istore_n 1, 1) := DX8_tellingCouples_0.2.1
theorem dX8_tellingCouples_2 : decode cX8_tellingCouples 2 = .ok (.iconst 0, 1) := DX8_tellingCouples_0.2.2.1
theorem dX8_tellingCouples_3 : decode cX8_tellingCouples 3 = .ok (.istore_n 2, 1) := DX8_tellingCouples_0.2.2.2.1
theorem dX8_tellingCouples_4 : decode cX8_tellingCouples 4 = .ok (.iload_n 2, 1) := DX8_tellingCouples_0.2.2.2.2.1
theorem dX8_tellingCouples_5 : decode cX8_tellingCouples 5 = .ok (.iconst 4, 1) := DX8_tellingCouples_0.2.2.2.2.2.1
theorem dX8_tellingCouples_6 : decode cX8_tellingCouples 6 = .ok (.if_icmp .ge 39, 3) := DX8_tellingCouples_0.2.2.2.2.2.2.1
theorem dX8_tellingCouples_9 : decode cX8_tellingCouples 9 = .ok (.iconst 0, 1) := DX8_tellingCouples_0.2.2.2.2.2.2.2.1
theorem dX8_tellingCouples_10 : decode cX8_tellingCouples 10 = .ok (.istore_n 3, 1) := DX8_tellingCouples_0.2.2.2.2.2.2.2.2.1
theorem dX8_tellingCouples_11 : decode cX8_tellingCouples 11 = .ok (.iload_n 3, 1) := DX8_tellingCouples_0.2.2.2.2.2.2.2.2.2.1
theorem dX8_tellingCouples_12 : decode cX8_tellingCouples 12 = .ok (.iconst 4, 1) := DX8_tellingCouples_0.2.2.2.2.2.2.2.2.2.2.1
theorem dX8_tellingCouples_13 : decode cX8_tellingCouples 13 = .ok (.if_icmp .ge 26, 3) := DX8_tellingCouples_0.2.2.2.2.2.2.2.2.2.2.2.1
theorem dX8_tellingCouples_16 : decode cX8_tellingCouples 16 = .ok (.iload_n 2, 1) := DX8_tellingCouples_0.2.2.2.2.2.2.2.2.2.2.2.2.1
theorem dX8_tellingCouples_17 : decode cX8_tellingCouples 17 = .ok (.iload_n 3, 1) := DX8_tellingCouples_0.2.2.2.2.2.2.2.2.2.2.2.2.2.1
theorem dX8_tellingCouples_18 : decode cX8_tellingCouples 18 = .ok (.if_icmp .eq 15, 3) := DX8_tellingCouples_0.2.2.2.2.2.2.2.2.2.2.2.2.2.2.1
theorem dX8_tellingCouples_21 : decode cX8_tellingCouples 21 = .ok (.aload_n 0, 1) := DX8_tellingCouples_0.2.2.2.2.2.2.2.2.2.2.2.2.2.2.2.1
theorem DX8_tellingCouples_22 : dAre cX8_tellingCouples [(22, .iload_n 2, 1), (23, .iload_n 3, 1), (24, .invokevirtual 360, 3), (27, .ifCond .eq 6, 3), (30, .iinc 1 1, 3), (33, .iinc 3 1, 3), (36, .goto (-25), 3), (39, .iinc 2 1, 3), (42, .goto (-38), 3), (45, .iload_n 1, 1), (46, .ireturn, 1)] := dAre0 (by decide +kernel)
theorem dX8_tellingCouples_22 : decode cX8_tellingCouples 22 = .ok (.iload_n 2, 1) := DX8_tellingCouples_22.1
theorem dX8_tellingCouples_23 : decode cX8_tellingCouples 23 = .ok (.iload_n 3, 1) := DX8_tellingCouples_22.2.1
theorem dX8_tellingCouples_24 : decode cX8_tellingCouples 24 = .ok (.invokevirtual 360, 3) := DX8_tellingCouples_22.2.2.1
theorem dX8_tellingCouples_27 : decode cX8_tellingCouples 27 = .ok (.ifCond .eq 6, 3) := DX8_tellingCouples_22.2.2.2.1
theorem dX8_tellingCouples_30 : decode cX8_tellingCouples 30 = .ok (.iinc 1 1, 3) := DX8_tellingCouples_22.2.2.2.2.1
theorem dX8_tellingCouples_33 : decode cX8_tellingCouples 33 = .ok (.iinc 3 1, 3) := DX8_tellingCouples_22.2.2.2.2.2.1
theorem dX8_tellingCouples_36 : decode cX8_tellingCouples 36 = .ok (.goto (-25), 3) := DX8_tellingCouples_22.2.2.2.2.2.2.1
theorem dX8_tellingCouples_39 : decode cX8_tellingCouples 39 = .ok (.iinc 2 1, 3) := DX8_tellingCouples_22.2.2.2.2.2.2.2.1
theorem dX8_tellingCouples_42 : decode cX8_tellingCouples 42 = .ok (.goto (-38), 3) := DX8_tellingCouples_22.2.2.2.2.2.2.2.2.1
theorem dX8_tellingCouples_45 : decode cX8_tellingCouples 45 = .ok (.iload_n 1, 1) := DX8_tellingCouples_22.2.2.2.2.2.2.2.2.2.1
theorem dX8_tellingCouples_46 : decode cX8_tellingCouples 46 = .ok (.ireturn, 1) := DX8_tellingCouples_22.2.2.2.2.2.2.2.2.2.2.1
theorem mX8_tellingCouples : gMv yX8_tellingCouples cX8_tellingCouples 4 (some .int) RX8 0 := ⟨q744, q1380, q1, q745, rfl, by decide, by decide, by decide +kernel⟩
noncomputable def bX8_tellingCouples_33 (v1 : Int32) (v3 : Int32) (I : gM) : Option ((Int32 × Int32 × gM) ⊕ (Int32 × gM)) :=
  some (.inl (v1, v3 + 1, I))
set_option maxRecDepth 100000 in
set_option maxHeartbeats 4000000 in
theorem wbX8_tellingCouples_33 {z : gZ} {E : gE} {bk : Nat} (F : Fx z sh E "LeapJoin" cX8_tellingCouples (gR 5) 4) (B : bZ z bk) (hE : gDist sh E) (v1 : Int32) (v2 : Int32) (v3 : Int32) (I : gM) (J : gN) {y : (Int32 × Int32 × gM) ⊕ (Int32 × gM)} (h : bX8_tellingCouples_33 v1 v3 I = some y) (hl : ∀ s' : Int32 × Int32 × gM, y = .inl s' → G z 11 [(0, .ref (E.2.1 0)), (1, .int (s'.1)), (2, .int v2), (3, .int (s'.2.1))] [] s'.2.2 J) (K11_0 : ∀ x : Int32 × gM, y = .inr x → G z 39 [(0, .ref (E.2.1 0)), (1, .int x.1), (2, .int v2)] [] x.2 J) : G z 33 [(0, .ref (E.2.1 0)), (1, .int v1), (2, .int v2), (3, .int v3)] [] I J := by
  unfold bX8_tellingCouples_33 at h
  refine g_iinc (v := v3 + 1) (Ln := [(3, .int (v3 + 1)), (0, .ref (E.2.1 0)), (1, .int v1), (2, .int v2)]) F 3 dX8_tellingCouples_33 rfl (add_c (by decide)) (by decide) rfl ?_
  refine g_goto (tgt := 11) F dX8_tellingCouples_36 (by decide) ?_
  obtain rfl := Option.some.inj h
  refine g_sub (Ln := [(0, .ref (E.2.1 0)), (1, .int v1), (2, .int v2), (3, .int (v3 + 1))]) [1, 2, 3, 0] rfl ?_
  exact hl (v1, v3 + 1, I) rfl
noncomputable def lX8_tellingCouples_11 (v2 : Int32) : (Int32 × Int32 × gM) → Option (Int32 × gM) :=
  itO fun s =>
    if (4 : Int32) ≤ s.2.1 then
      some (.inr (s.1, s.2.2))
    else
      if v2 = s.2.1 then
        bX8_tellingCouples_33 s.1 s.2.1 s.2.2
      else
        (fX8_tells v2 s.2.1 s.2.2).bind fun r1 =>
        if r1.1 = 0 then
          bX8_tellingCouples_33 s.1 s.2.1 r1.2
        else
          bX8_tellingCouples_33 (s.1 + 1) s.2.1 r1.2
set_option maxRecDepth 100000 in
set_option maxHeartbeats 4000000 in
theorem wlX8_tellingCouples_11 {z : gZ} {E : gE} {bk : Nat} (F : Fx z sh E "LeapJoin" cX8_tellingCouples (gR 5) 4) (B : bZ z bk) (hE : gDist sh E) (v2 : Int32) (J : gN) {r : Int32 × gM} : ∀ s : Int32 × Int32 × gM, lX8_tellingCouples_11 v2 s = some r → (G z 39 [(0, .ref (E.2.1 0)), (1, .int r.1), (2, .int v2)] [] r.2 J) → G z 11 [(0, .ref (E.2.1 0)), (1, .int s.1), (2, .int v2), (3, .int s.2.1)] [] s.2.2 J := by
  intro s h X0
  unfold lX8_tellingCouples_11 at h
  revert s
  refine itO_ind (P := fun s : Int32 × Int32 × gM => G z 11 [(0, .ref (E.2.1 0)), (1, .int s.1), (2, .int v2), (3, .int s.2.1)] [] s.2.2 J) (fun s y h hl hr => ?_)
  have K11_0 : ∀ x : Int32 × gM, y = .inr x → (G z 39 [(0, .ref (E.2.1 0)), (1, .int x.1), (2, .int v2)] [] x.2 J) := fun x q => by have q2 := hr _ q; subst q2; exact X0
  refine g_iload_n F 3 dX8_tellingCouples_11 rfl rfl ?_
  refine g_iconst (v := 4) F dX8_tellingCouples_12 (by decide) ?_
  refine u_icmp_ge (tgt := 39) F dX8_tellingCouples_13 (by decide) h (fun h => ?_) (fun h => ?_)
  · obtain rfl := Option.some.inj h
    refine g_sub (Ln := [(0, .ref (E.2.1 0)), (1, .int s.1), (2, .int v2)]) [0, 1, 2] rfl ?_
    exact K11_0 (s.1, s.2.2) rfl
  · refine g_iload_n F 2 dX8_tellingCouples_16 rfl rfl ?_
    refine g_iload_n F 3 dX8_tellingCouples_17 rfl rfl ?_
    refine u_icmp_eq (tgt := 33) F dX8_tellingCouples_18 (by decide) h (fun h => ?_) (fun h => ?_)
    · refine g_sub (Ln := [(0, .ref (E.2.1 0)), (1, .int s.1), (2, .int v2), (3, .int s.2.1)]) [0, 1, 2, 3] rfl ?_
      exact wbX8_tellingCouples_33 F B hE s.1 v2 s.2.1 s.2.2 J h hl K11_0
    · refine g_aload_n F 0 dX8_tellingCouples_21 rfl rfl ?_
      refine g_iload_n F 2 dX8_tellingCouples_22 rfl rfl ?_
      refine g_iload_n F 3 dX8_tellingCouples_23 rfl rfl ?_
      refine u_callV (k := 0) (As := [.int v2, .int s.2.1]) (rest := []) (sn := fun r1 => [.int r1.1]) F B (fun _ => wX8_tells (zl z) E hE bk v2 s.2.1 s.2.2 J) mX8_tells q746 rfl s0 rfl rfl rfl (Nat.le_of_ble_eq_true rfl) dX8_tellingCouples_24 (fun _ => rfl) h (fun r1 h => ?_)
      refine u_if_eq (tgt := 33) F dX8_tellingCouples_27 (by decide) h (fun h => ?_) (fun h => ?_)
      · refine g_sub (Ln := [(0, .ref (E.2.1 0)), (1, .int s.1), (2, .int v2), (3, .int s.2.1)]) [0, 1, 2, 3] rfl ?_
        exact wbX8_tellingCouples_33 F B hE s.1 v2 s.2.1 r1.2 J h hl K11_0
      · refine g_iinc (v := s.1 + 1) (Ln := [(1, .int (s.1 + 1)), (0, .ref (E.2.1 0)), (2, .int v2), (3, .int s.2.1)]) F 1 dX8_tellingCouples_30 rfl (add_c (by decide)) (by decide) rfl ?_
        refine g_sub (Ln := [(0, .ref (E.2.1 0)), (1, .int (s.1 + 1)), (2, .int v2), (3, .int s.2.1)]) [1, 0, 2, 3] rfl ?_
        exact wbX8_tellingCouples_33 F B hE (s.1 + 1) v2 s.2.1 r1.2 J h hl K11_0
noncomputable def lX8_tellingCouples_4 : (Int32 × Int32 × gM) → Option (Int32 × gM) :=
  itO fun s =>
    if (4 : Int32) ≤ s.2.1 then
      some (.inr (s.1, s.2.2))
    else
      (lX8_tellingCouples_11 s.2.1 (s.1, (0 : Int32), s.2.2)).bind fun w2 =>
      some (.inl (w2.1, s.2.1 + 1, w2.2))
set_option maxRecDepth 100000 in
set_option maxHeartbeats 4000000 in
theorem wlX8_tellingCouples_4 {z : gZ} {E : gE} {bk : Nat} (F : Fx z sh E "LeapJoin" cX8_tellingCouples (gR 5) 4) (B : bZ z bk) (hE : gDist sh E) (J : gN) {r : Int32 × gM} : ∀ s : Int32 × Int32 × gM, lX8_tellingCouples_4 s = some r → (G z 45 [(1, .int r.1)] [] r.2 J) → G z 4 [(0, .ref (E.2.1 0)), (1, .int s.1), (2, .int s.2.1)] [] s.2.2 J := by
  intro s h X0
  unfold lX8_tellingCouples_4 at h
  revert s
  refine itO_ind (P := fun s : Int32 × Int32 × gM => G z 4 [(0, .ref (E.2.1 0)), (1, .int s.1), (2, .int s.2.1)] [] s.2.2 J) (fun s y h hl hr => ?_)
  have K4_0 : ∀ x : Int32 × gM, y = .inr x → (G z 45 [(1, .int x.1)] [] x.2 J) := fun x q => by have q2 := hr _ q; subst q2; exact X0
  refine g_iload_n F 2 dX8_tellingCouples_4 rfl rfl ?_
  refine g_iconst (v := 4) F dX8_tellingCouples_5 (by decide) ?_
  refine u_icmp_ge (tgt := 45) F dX8_tellingCouples_6 (by decide) h (fun h => ?_) (fun h => ?_)
  · obtain rfl := Option.some.inj h
    refine g_sub (Ln := [(1, .int s.1)]) [1] rfl ?_
    exact K4_0 (s.1, s.2.2) rfl
  · refine g_iconst (v := 0) F dX8_tellingCouples_9 (by decide) ?_
    refine g_istore_n (Ln := [(3, .int 0), (0, .ref (E.2.1 0)), (1, .int s.1), (2, .int s.2.1)]) F dX8_tellingCouples_10 rfl (by decide) rfl ?_
    obtain ⟨w2, ew2, h⟩ := ob h
    refine g_sub (Ln := [(0, .ref (E.2.1 0)), (1, .int s.1), (2, .int s.2.1), (3, .int 0)]) [1, 2, 3, 0] rfl ?_
    refine wlX8_tellingCouples_11 F B hE s.2.1 J _ ew2 ?_
    refine g_iinc (v := s.2.1 + 1) (Ln := [(2, .int (s.2.1 + 1)), (0, .ref (E.2.1 0)), (1, .int w2.1)]) F 2 dX8_tellingCouples_39 rfl (add_c (by decide)) (by decide) rfl ?_
    refine g_goto (tgt := 4) F dX8_tellingCouples_42 (by decide) ?_
    obtain rfl := Option.some.inj h
    refine g_sub (Ln := [(0, .ref (E.2.1 0)), (1, .int w2.1), (2, .int (s.2.1 + 1))]) [1, 2, 0] rfl ?_
    exact hl (w2.1, s.2.1 + 1, w2.2) rfl
noncomputable def fX8_tellingCouples (I : gM) : Option (Int32 × gM) :=
  (lX8_tellingCouples_4 ((0 : Int32), (0 : Int32), I)).bind fun w3 =>
  some (w3.1, w3.2)
set_option maxRecDepth 100000 in
set_option maxHeartbeats 4000000 in
theorem wX8_tellingCouples (l : Launch) (E : gE) (hE : gDist sh E) (bk : Nat) (I : gM) (J : gN) {r : Int32 × gM} (h : fX8_tellingCouples I = some r) : Cu l sh E bk yX8_tellingCouples cX8_tellingCouples 4 (some .int) (gR 5) [.ref (E.2.1 0)] I J (fun r1 I1 J1 => r1 = some (.int r.1) ∧ I1 = r.2 ∧ J1 = J) := by
  refine Cu.of "LeapJoin" rfl hE (by decide) (Nat.le_of_ble_eq_true rfl) (fun z F B e hl => ?_)
  subst hl
  unfold fX8_tellingCouples at h
  refine g_iconst (v := 0) F dX8_tellingCouples_0 (by decide) ?_
  refine g_istore_n (Ln := [(1, .int 0), (0, .ref (E.2.1 0))]) F dX8_tellingCouples_1 rfl (by decide) rfl ?_
  refine g_iconst (v := 0) F dX8_tellingCouples_2 (by decide) ?_
  refine g_istore_n (Ln := [(2, .int 0), (1, .int 0), (0, .ref (E.2.1 0))]) F dX8_tellingCouples_3 rfl (by decide) rfl ?_
  obtain ⟨w3, ew3, h⟩ := ob h
  refine g_sub (Ln := [(0, .ref (E.2.1 0)), (1, .int 0), (2, .int 0)]) [2, 1, 0] rfl ?_
  refine wlX8_tellingCouples_4 F B hE J _ ew3 ?_
  refine g_iload_n F 0 dX8_tellingCouples_45 rfl rfl ?_
  obtain rfl := Option.some.inj h
  exact g_iret F e dX8_tellingCouples_46 ⟨rfl, rfl, rfl⟩
theorem dX8_most_15 : decode cX8_most 15 = .ok (.tableswitch 112 0 6 #[41, 49, 54, 59, 64, 69, 89], 41) := by decide +kernel
theorem DX8_most_0 : dAre cX8_most [(0, .aload_n 0, 1), (1, .getfield 19, 3), (4, .getfield 134, 3), (7, .ifCond .ne 7, 3), (10, .ldc_w 260, 3), (13, .ireturn, 1), (14, .iload_n 1, 1), (56, .aload_n 0, 1), (57, .getfield 19, 3), (60, .invokevirtual 334, 3), (63, .ireturn, 1), (64, .aload_n 0, 1), (65, .invokevirtual 337, 3), (68, .ireturn, 1), (69, .aload_n 0, 1), (70, .invokevirtual 340, 3)] := dAre0 (by decide +kernel)
theorem dX8_most_0 : decode cX8_most 0 = .ok (.aload_n 0, 1) := DX8_most_0.1
theorem dX8_most_1 : decode cX8_most 1 = .ok (.getfield 19, 3) := DX8_most_0.2.1
theorem dX8_most_4 : decode cX8_most 4 = .ok (.getfield 134, 3) := DX8_most_0.2.2.1
theorem dX8_most_7 : decode cX8_most 7 = .ok (.ifCond .ne 7, 3) := DX8_most_0.2.2.2.1
theorem dX8_most_10 : decode cX8_most 10 = .ok (.ldc_w 260, 3) := DX8_most_0.2.2.2.2.1
theorem dX8_most_13 : decode cX8_most 13 = .ok (.ireturn, 1) := DX8_most_0.2.2.2.2.2.1
theorem dX8_most_14 : decode cX8_most 14 = .ok (.iload_n 1, 1) := DX8_most_0.2.2.2.2.2.2.1
theorem dX8_most_56 : decode cX8_most 56 = .ok (.aload_n 0, 1) := DX8_most_0.2.2.2.2.2.2.2.1
theorem dX8_most_57 : decode cX8_most 57 = .ok (.getfield 19, 3) := DX8_most_0.2.2.2.2.2.2.2.2.1
theorem dX8_most_60 : decode cX8_most 60 = .ok (.invokevirtual 334, 3) := DX8_most_0.2.2.2.2.2.2.2.2.2.1
theorem dX8_most_63 : decode cX8_most 63 = .ok (.ireturn, 1) := DX8_most_0.2.2.2.2.2.2.2.2.2.2.1
theorem dX8_most_64 : decode cX8_most 64 = .ok (.aload_n 0, 1) := DX8_most_0.2.2.2.2.2.2.2.2.2.2.2.1
theorem dX8_most_65 : decode cX8_most 65 = .ok (.invokevirtual 337, 3) := DX8_most_0.2.2.2.2.2.2.2.2.2.2.2.2.1
theorem dX8_most_68 : decode cX8_most 68 = .ok (.ireturn, 1) := DX8_most_0.2.2.2.2.2.2.2.2.2.2.2.2.2.1
theorem dX8_most_69 : decode cX8_most 69 = .ok (.aload_n 0, 1) := DX8_most_0.2.2.2.2.2.2.2.2.2.2.2.2.2.2.1
theorem dX8_most_70 : decode cX8_most 70 = .ok (.invokevirtual 340, 3) := DX8_most_0.2.2.2.2.2.2.2.2.2.2.2.2.2.2.2.1
theorem DX8_most_73 : dAre cX8_most [(73, .ireturn, 1), (74, .aload_n 0, 1), (75, .invokevirtual 343, 3), (78, .ireturn, 1), (79, .aload_n 0, 1), (80, .invokevirtual 346, 3), (83, .ireturn, 1), (84, .aload_n 0, 1), (85, .getfield 36, 3), (88, .aload_n 0, 1), (89, .getfield 19, 3), (92, .iconst 0, 1), (93, .invokevirtual 143, 3), (96, .aload_n 0, 1), (97, .getfield 36, 3), (100, .getfield 193, 3)] := dAre0 (by decide +kernel)
theorem dX8_most_73 : decode cX8_most 73 = .ok (.ireturn, 1) := DX8_most_73.1
theorem dX8_most_74 : decode cX8_most 74 = .ok (.aload_n 0, 1) := DX8_most_73.2.1
theorem dX8_most_75 : decode cX8_most 75 = .ok (.invokevirtual 343, 3) := DX8_most_73.2.2.1
theorem dX8_most_78 : decode cX8_most 78 = .ok (.ireturn, 1) := DX8_most_73.2.2.2.1
theorem dX8_most_79 : decode cX8_most 79 = .ok (.aload_n 0, 1) := DX8_most_73.2.2.2.2.1
theorem dX8_most_80 : decode cX8_most 80 = .ok (.invokevirtual 346, 3) := DX8_most_73.2.2.2.2.2.1
theorem dX8_most_83 : decode cX8_most 83 = .ok (.ireturn, 1) := DX8_most_73.2.2.2.2.2.2.1
theorem dX8_most_84 : decode cX8_most 84 = .ok (.aload_n 0, 1) := DX8_most_73.2.2.2.2.2.2.2.1
theorem dX8_most_85 : decode cX8_most 85 = .ok (.getfield 36, 3) := DX8_most_73.2.2.2.2.2.2.2.2.1
theorem dX8_most_88 : decode cX8_most 88 = .ok (.aload_n 0, 1) := DX8_most_73.2.2.2.2.2.2.2.2.2.1
theorem dX8_most_89 : decode cX8_most 89 = .ok (.getfield 19, 3) := DX8_most_73.2.2.2.2.2.2.2.2.2.2.1
theorem dX8_most_92 : decode cX8_most 92 = .ok (.iconst 0, 1) := DX8_most_73.2.2.2.2.2.2.2.2.2.2.2.1
theorem dX8_most_93 : decode cX8_most 93 = .ok (.invokevirtual 143, 3) := DX8_most_73.2.2.2.2.2.2.2.2.2.2.2.2.1
theorem dX8_most_96 : decode cX8_most 96 = .ok (.aload_n 0, 1) := DX8_most_73.2.2.2.2.2.2.2.2.2.2.2.2.2.1
theorem dX8_most_97 : decode cX8_most 97 = .ok (.getfield 36, 3) := DX8_most_73.2.2.2.2.2.2.2.2.2.2.2.2.2.2.1
theorem dX8_most_100 : decode cX8_most 100 = .ok (.getfield 193, 3) := DX8_most_73.2.2.2.2.2.2.2.2.2.2.2.2.2.2.2.1
theorem DX8_most_103 : dAre cX8_most [(103, .ireturn, 1), (104, .aload_n 0, 1), (105, .getfield 49, 3), (108, .aload_n 0, 1), (109, .getfield 19, 3), (112, .aload_n 0, 1), (113, .getfield 36, 3), (116, .invokevirtual 202, 3), (119, .aload_n 0, 1), (120, .getfield 49, 3), (123, .getfield 349, 3), (126, .ireturn, 1), (127, .ldc_w 260, 3), (130, .ireturn, 1)] := dAre0 (by decide +kernel)
theorem dX8_most_103 : decode cX8_most 103 = .ok (.ireturn, 1) := DX8_most_103.1
theorem dX8_most_104 : decode cX8_most 104 = .ok (.aload_n 0, 1) := DX8_most_103.2.1
theorem dX8_most_105 : decode cX8_most 105 = .ok (.getfield 49, 3) := DX8_most_103.2.2.1
theorem dX8_most_108 : decode cX8_most 108 = .ok (.aload_n 0, 1) := DX8_most_103.2.2.2.1
theorem dX8_most_109 : decode cX8_most 109 = .ok (.getfield 19, 3) := DX8_most_103.2.2.2.2.1
theorem dX8_most_112 : decode cX8_most 112 = .ok (.aload_n 0, 1) := DX8_most_103.2.2.2.2.2.1
theorem dX8_most_113 : decode cX8_most 113 = .ok (.getfield 36, 3) := DX8_most_103.2.2.2.2.2.2.1
theorem dX8_most_116 : decode cX8_most 116 = .ok (.invokevirtual 202, 3) := DX8_most_103.2.2.2.2.2.2.2.1
theorem dX8_most_119 : decode cX8_most 119 = .ok (.aload_n 0, 1) := DX8_most_103.2.2.2.2.2.2.2.2.1
theorem dX8_most_120 : decode cX8_most 120 = .ok (.getfield 49, 3) := DX8_most_103.2.2.2.2.2.2.2.2.2.1
theorem dX8_most_123 : decode cX8_most 123 = .ok (.getfield 349, 3) := DX8_most_103.2.2.2.2.2.2.2.2.2.2.1
theorem dX8_most_126 : decode cX8_most 126 = .ok (.ireturn, 1) := DX8_most_103.2.2.2.2.2.2.2.2.2.2.2.1
theorem dX8_most_127 : decode cX8_most 127 = .ok (.ldc_w 260, 3) := DX8_most_103.2.2.2.2.2.2.2.2.2.2.2.2.1
theorem dX8_most_130 : decode cX8_most 130 = .ok (.ireturn, 1) := DX8_most_103.2.2.2.2.2.2.2.2.2.2.2.2.2.1
theorem mX8_most : gMv yX8_most cX8_most 2 (some .int) RX8 1 := ⟨q718, q719, q1, q720, rfl, by decide, by decide, by decide +kernel⟩
noncomputable def fX8_most (v1 : Int32) (I : gM) : Option (Int32 × gM) :=
  if (I 3 0) = 0 then
    some (((-1000000) : Int32), I)
  else
    if v1 = 0 then
      (fX5_allNumbers 3 I).bind fun r1 =>
      some (r1, I)
    else
    if v1 = 1 then
      (fX8_tableWithMostRows I).bind fun r2 =>
      some (r2, I)
    else
    if v1 = 2 then
      (fX8_tableWithMostGiven I).bind fun r3 =>
      some (r3, I)
    else
    if v1 = 3 then
      (fX8_dangling I).bind fun r4 =>
      some (r4, I)
    else
    if v1 = 4 then
      (fX8_tellingCouples I).bind fun r5 =>
      some (r5.1, r5.2)
    else
    if v1 = 5 then
      (fX1_findBy 29 3 (0 : Int32) I).bind fun r6 =>
      some (r6 29 1, r6)
    else
    if v1 = 6 then
      (fX7_weigh 3 29 I).bind fun r7 =>
      some (r7 43 3, r7)
    else
    some (((-1000000) : Int32), I)
set_option maxRecDepth 100000 in
set_option maxHeartbeats 4000000 in
theorem wX8_most (l : Launch) (E : gE) (hE : gDist sh E) (bk : Nat) (v1 : Int32) (I : gM) (J : gN) {r : Int32 × gM} (h : fX8_most v1 I = some r) : Cu l sh E bk yX8_most cX8_most 2 (some .int) (gR 17) [.ref (E.2.1 0), .int v1] I J (fun r1 I1 J1 => r1 = some (.int r.1) ∧ I1 = r.2 ∧ J1 = J) := by
  refine Cu.of "LeapJoin" rfl hE (by decide) (Nat.le_of_ble_eq_true rfl) (fun z F B e hl => ?_)
  subst hl
  unfold fX8_most at h
  refine g_aload_n F 0 dX8_most_0 rfl rfl ?_
  refine g_getr (j := 1) (nn := 3) F s0 rfl rfl uX8 (by decide) q170 dX8_most_1 ?_
  refine g_geti (j := 0) (v := I 3 0) F shX5_3.1 rfl rfl uX5 (by decide) q49 rfl dX8_most_4 ?_
  refine u_if_ne (tgt := 14) F dX8_most_7 (by decide) h (fun h => ?_) (fun h => ?_)
  · refine g_ldc_w F dX8_most_10 q555 ?_
    obtain rfl := Option.some.inj h
    exact g_iret F e dX8_most_13 ⟨rfl, rfl, rfl⟩
  · refine g_iload_n F 1 dX8_most_14 rfl rfl ?_
    rcases oi h with ⟨c15_0, h⟩ | ⟨c15_0, h⟩
    · refine g_tableIn (tgt := 56) F dX8_most_15 (by rw [c15_0]; decide) (by rw [c15_0]; decide) (by rw [c15_0]; rfl) (by decide) ?_
      refine g_aload_n F 0 dX8_most_56 rfl rfl ?_
      refine g_getr (j := 1) (nn := 3) F s0 rfl rfl uX8 (by decide) q170 dX8_most_57 ?_
      refine u_callV (k := 3) (As := []) (rest := []) (sn := fun r1 => [.int r1]) F B (fun _ => wX5_allNumbers (zl z) E hE bk 3 shX5_3 I J) mX5_allNumbers q721 rfl shX5_3.1 rfl rfl rfl (Nat.le_of_ble_eq_true rfl) dX8_most_60 (fun _ => rfl) h (fun r1 h => ?_)
      obtain rfl := Option.some.inj h
      exact g_iret F e dX8_most_63 ⟨rfl, rfl, rfl⟩
    rcases oi h with ⟨c15_1, h⟩ | ⟨c15_1, h⟩
    · refine g_tableIn (tgt := 64) F dX8_most_15 (by rw [c15_1]; decide) (by rw [c15_1]; decide) (by rw [c15_1]; rfl) (by decide) ?_
      refine g_aload_n F 0 dX8_most_64 rfl rfl ?_
      refine u_callV (k := 0) (As := []) (rest := []) (sn := fun r2 => [.int r2]) F B (fun _ => wX8_tableWithMostRows (zl z) E hE bk  I J) mX8_tableWithMostRows q725 rfl s0 rfl rfl rfl (Nat.le_of_ble_eq_true rfl) dX8_most_65 (fun _ => rfl) h (fun r2 h => ?_)
      obtain rfl := Option.some.inj h
      exact g_iret F e dX8_most_68 ⟨rfl, rfl, rfl⟩
    rcases oi h with ⟨c15_2, h⟩ | ⟨c15_2, h⟩
    · refine g_tableIn (tgt := 69) F dX8_most_15 (by rw [c15_2]; decide) (by rw [c15_2]; decide) (by rw [c15_2]; rfl) (by decide) ?_
      refine g_aload_n F 0 dX8_most_69 rfl rfl ?_
      refine u_callV (k := 0) (As := []) (rest := []) (sn := fun r3 => [.int r3]) F B (fun _ => wX8_tableWithMostGiven (zl z) E hE bk  I J) mX8_tableWithMostGiven q728 rfl s0 rfl rfl rfl (Nat.le_of_ble_eq_true rfl) dX8_most_70 (fun _ => rfl) h (fun r3 h => ?_)
      obtain rfl := Option.some.inj h
      exact g_iret F e dX8_most_73 ⟨rfl, rfl, rfl⟩
    rcases oi h with ⟨c15_3, h⟩ | ⟨c15_3, h⟩
    · refine g_tableIn (tgt := 74) F dX8_most_15 (by rw [c15_3]; decide) (by rw [c15_3]; decide) (by rw [c15_3]; rfl) (by decide) ?_
      refine g_aload_n F 0 dX8_most_74 rfl rfl ?_
      refine u_callV (k := 0) (As := []) (rest := []) (sn := fun r4 => [.int r4]) F B (fun _ => wX8_dangling (zl z) E hE bk  I J) mX8_dangling q740 rfl s0 rfl rfl rfl (Nat.le_of_ble_eq_true rfl) dX8_most_75 (fun _ => rfl) h (fun r4 h => ?_)
      obtain rfl := Option.some.inj h
      exact g_iret F e dX8_most_78 ⟨rfl, rfl, rfl⟩
    rcases oi h with ⟨c15_4, h⟩ | ⟨c15_4, h⟩
    · refine g_tableIn (tgt := 79) F dX8_most_15 (by rw [c15_4]; decide) (by rw [c15_4]; decide) (by rw [c15_4]; rfl) (by decide) ?_
      refine g_aload_n F 0 dX8_most_79 rfl rfl ?_
      refine u_callV (k := 0) (As := []) (rest := []) (sn := fun r5 => [.int r5.1]) F B (fun _ => wX8_tellingCouples (zl z) E hE bk  I J) mX8_tellingCouples q743 rfl s0 rfl rfl rfl (Nat.le_of_ble_eq_true rfl) dX8_most_80 (fun _ => rfl) h (fun r5 h => ?_)
      obtain rfl := Option.some.inj h
      exact g_iret F e dX8_most_83 ⟨rfl, rfl, rfl⟩
    rcases oi h with ⟨c15_5, h⟩ | ⟨c15_5, h⟩
    · refine g_tableIn (tgt := 84) F dX8_most_15 (by rw [c15_5]; decide) (by rw [c15_5]; decide) (by rw [c15_5]; rfl) (by decide) ?_
      refine g_aload_n F 0 dX8_most_84 rfl rfl ?_
      refine g_getr (j := 5) (nn := 29) F s0 rfl rfl uX8 (by decide) q174 dX8_most_85 ?_
      refine g_aload_n F 0 dX8_most_88 rfl rfl ?_
      refine g_getr (j := 1) (nn := 3) F s0 rfl rfl uX8 (by decide) q170 dX8_most_89 ?_
      refine g_iconst (v := 0) F dX8_most_92 (by decide) ?_
      refine u_callV (k := 29) (As := [.ref (E.2.1 3), .int 0]) (rest := []) (sn := fun _ => []) F B (fun _ => wX1_findBy (zl z) E hE bk 29 3 (0 : Int32) shX1_29 shX5_3 I J) mX1_findBy q331 rfl shX1_29.1 rfl rfl rfl (Nat.le_of_ble_eq_true rfl) dX8_most_93 (fun _ => rfl) h (fun r6 h => ?_)
      refine g_aload_n F 0 dX8_most_96 rfl rfl ?_
      refine g_getr (j := 5) (nn := 29) F s0 rfl rfl uX8 (by decide) q174 dX8_most_97 ?_
      refine g_geti (j := 1) (v := r6 29 1) F shX1_29.1 rfl rfl uX1 (by decide) q82 rfl dX8_most_100 ?_
      obtain rfl := Option.some.inj h
      exact g_iret F e dX8_most_103 ⟨rfl, rfl, rfl⟩
    rcases oi h with ⟨c15_6, h⟩ | ⟨c15_6, h⟩
    · refine g_tableIn (tgt := 104) F dX8_most_15 (by rw [c15_6]; decide) (by rw [c15_6]; decide) (by rw [c15_6]; rfl) (by decide) ?_
      refine g_aload_n F 0 dX8_most_104 rfl rfl ?_
      refine g_getr (j := 7) (nn := 43) F s0 rfl rfl uX8 (by decide) q176 dX8_most_105 ?_
      refine g_aload_n F 0 dX8_most_108 rfl rfl ?_
      refine g_getr (j := 1) (nn := 3) F s0 rfl rfl uX8 (by decide) q170 dX8_most_109 ?_
      refine g_aload_n F 0 dX8_most_112 rfl rfl ?_
      refine g_getr (j := 5) (nn := 29) F s0 rfl rfl uX8 (by decide) q174 dX8_most_113 ?_
      refine u_callV (k := 43) (As := [.ref (E.2.1 3), .ref (E.2.1 29)]) (rest := []) (sn := fun _ => []) F B (fun _ => wX7_weigh (zl z) E hE bk 3 29 shX5_3 shX1_29 I J) mX7_weigh q445 rfl s43 rfl rfl rfl (Nat.le_of_ble_eq_true rfl) dX8_most_116 (fun _ => rfl) h (fun r7 h => ?_)
      refine g_aload_n F 0 dX8_most_119 rfl rfl ?_
      refine g_getr (j := 7) (nn := 43) F s0 rfl rfl uX8 (by decide) q176 dX8_most_120 ?_
      refine g_geti (j := 3) (v := r7 43 3) F s43 rfl rfl uX7 (by decide) q131 rfl dX8_most_123 ?_
      obtain rfl := Option.some.inj h
      exact g_iret F e dX8_most_126 ⟨rfl, rfl, rfl⟩
    refine g_tableOut (tgt := 127) F dX8_most_15 (by have q0 : ¬ (v1).toInt = 0 := fun q => c15_0 (Int32.toInt_inj.mp (q.trans (by decide))); have q1 : ¬ (v1).toInt = 1 := fun q => c15_1 (Int32.toInt_inj.mp (q.trans (by decide))); have q2 : ¬ (v1).toInt = 2 := fun q => c15_2 (Int32.toInt_inj.mp (q.trans (by decide))); have q3 : ¬ (v1).toInt = 3 := fun q => c15_3 (Int32.toInt_inj.mp (q.trans (by decide))); have q4 : ¬ (v1).toInt = 4 := fun q => c15_4 (Int32.toInt_inj.mp (q.trans (by decide))); have q5 : ¬ (v1).toInt = 5 := fun q => c15_5 (Int32.toInt_inj.mp (q.trans (by decide))); have q6 : ¬ (v1).toInt = 6 := fun q => c15_6 (Int32.toInt_inj.mp (q.trans (by decide))); omega) (by decide) ?_
    refine g_ldc_w F dX8_most_127 q555 ?_
    obtain rfl := Option.some.inj h
    exact g_iret F e dX8_most_130 ⟨rfl, rfl, rfl⟩
theorem DX8_image_0 : dAre cX8_image [(0, .aload_n 0, 1), (1, .getfield 19, 3), (4, .getfield 134, 3), (7, .ifCond .ne 5, 3), (10, .iconst (-1), 1), (11, .ireturn, 1), (12, .aload_n 0, 1), (13, .getfield 26, 3), (16, .aload_n 0, 1), (17, .getfield 19, 3), (20, .invokevirtual 123, 3), (23, .aload_n 0, 1), (24, .getfield 60, 3), (27, .aload_n 0, 1), (28, .getfield 56, 3), (31, .invokevirtual 364, 3)] := dAre0 (by decide +kernel)
theorem dX8_image_0 : decode cX8_image 0 = .ok (.aload_n 0, 1) := DX8_image_0.1
theorem dX8_image_1 : decode cX8_image 1 = .ok (.getfield 19, 3) := DX8_image_0.2.1
theorem dX8_image_4 : decode cX8_image 4 = .ok (.getfield 134, 3) := DX8_image_0.2.2.1
theorem dX8_image_7 : decode cX8_image 7 = .ok (.ifCond .ne 5, 3) := DX8_image_0.2.2.2.1
theorem dX8_image_10 : decode cX8_image 10 = .ok (.iconst (-1), 1) := DX8_image_0.2.2.2.2.1
theorem dX8_image_11 : decode cX8_image 11 = .ok (.ireturn, 1) := DX8_image_0.2.2.2.2.2.1
theorem dX8_image_12 : decode cX8_image 12 = .ok (.aload_n 0, 1) := DX8_image_0.2.2.2.2.2.2.1
theorem dX8_image_13 : decode cX8_image 13 = .ok (.getfield 26, 3) := DX8_image_0.2.2.2.2.2.2.2.1
theorem dX8_image_16 : decode cX8_image 16 = .ok (.aload_n 0, 1) := DX8_image_0.2.2.2.2.2.2.2.2.1
theorem dX8_image_17 : decode cX8_image 17 = .ok (.getfield 19, 3) := DX8_image_0.2.2.2.2.2.2.2.2.2.1
theorem dX8_image_20 : decode cX8_image 20 = .ok (.invokevirtual 123, 3) := DX8_image_0.2.2.2.2.2.2.2.2.2.2.1
theorem dX8_image_23 : decode cX8_image 23 = .ok (.aload_n 0, 1) := DX8_image_0.2.2.2.2.2.2.2.2.2.2.2.1
theorem dX8_image_24 : decode cX8_image 24 = .ok (.getfield 60, 3) := DX8_image_0.2.2.2.2.2.2.2.2.2.2.2.2.1
theorem dX8_image_27 : decode cX8_image 27 = .ok (.aload_n 0, 1) := DX8_image_0.2.2.2.2.2.2.2.2.2.2.2.2.2.1
theorem dX8_image_28 : decode cX8_image 28 = .ok (.getfield 56, 3) := DX8_image_0.2.2.2.2.2.2.2.2.2.2.2.2.2.2.1
theorem dX8_image_31 : decode cX8_image 31 = .ok (.invokevirtual 364, 3) := DX8_image_0.2.2.2.2.2.2.2.2.2.2.2.2.2.2.2.1
theorem DX8_image_34 : dAre cX8_image [(34, .aload_n 0, 1), (35, .iconst 1, 1), (36, .putfield 89, 3), (39, .aload_n 0, 1), (40, .getfield 32, 3), (43, .getfield 186, 3), (46, .ireturn, 1)] := dAre0 (by decide +kernel)
theorem dX8_image_34 : decode cX8_image 34 = .ok (.aload_n 0, 1) := DX8_image_34.1
theorem dX8_image_35 : decode cX8_image 35 = .ok (.iconst 1, 1) := DX8_image_34.2.1
theorem dX8_image_36 : decode cX8_image 36 = .ok (.putfield 89, 3) := DX8_image_34.2.2.1
theorem dX8_image_39 : decode cX8_image 39 = .ok (.aload_n 0, 1) := DX8_image_34.2.2.2.1
theorem dX8_image_40 : decode cX8_image 40 = .ok (.getfield 32, 3) := DX8_image_34.2.2.2.2.1
theorem dX8_image_43 : decode cX8_image 43 = .ok (.getfield 186, 3) := DX8_image_34.2.2.2.2.2.1
theorem dX8_image_46 : decode cX8_image 46 = .ok (.ireturn, 1) := DX8_image_34.2.2.2.2.2.2.1
theorem mX8_image : gMv yX8_image cX8_image 1 (some .int) RX8 0 := ⟨q748, q749, q1, q750, rfl, by decide, by decide, by decide +kernel⟩
noncomputable def fX8_image (I : gM) : Option (Int32 × gM) :=
  if (I 3 0) = 0 then
    some (((-1) : Int32), I)
  else
    (fX5_copyFrom 13 3 I).bind fun r1 =>
    (fX2_copyFrom 46 44 r1).bind fun r2 =>
    (pU r2 0 15 (1 : Int32)).bind fun I3 =>
    some (I3 18 0, I3)
set_option maxRecDepth 100000 in
set_option maxHeartbeats 4000000 in
theorem wX8_image (l : Launch) (E : gE) (hE : gDist sh E) (bk : Nat) (I : gM) (J : gN) {r : Int32 × gM} (h : fX8_image I = some r) : Cu l sh E bk yX8_image cX8_image 1 (some .int) (gR 2) [.ref (E.2.1 0)] I J (fun r1 I1 J1 => r1 = some (.int r.1) ∧ I1 = r.2 ∧ J1 = J) := by
  refine Cu.of "LeapJoin" rfl hE (by decide) (Nat.le_of_ble_eq_true rfl) (fun z F B e hl => ?_)
  subst hl
  unfold fX8_image at h
  refine g_aload_n F 0 dX8_image_0 rfl rfl ?_
  refine g_getr (j := 1) (nn := 3) F s0 rfl rfl uX8 (by decide) q170 dX8_image_1 ?_
  refine g_geti (j := 0) (v := I 3 0) F shX5_3.1 rfl rfl uX5 (by decide) q49 rfl dX8_image_4 ?_
  refine u_if_ne (tgt := 12) F dX8_image_7 (by decide) h (fun h => ?_) (fun h => ?_)
  · refine g_iconst (v := (-1)) F dX8_image_10 (by decide) ?_
    obtain rfl := Option.some.inj h
    exact g_iret F e dX8_image_11 ⟨rfl, rfl, rfl⟩
  · refine g_aload_n F 0 dX8_image_12 rfl rfl ?_
    refine g_getr (j := 3) (nn := 13) F s0 rfl rfl uX8 (by decide) q172 dX8_image_13 ?_
    refine g_aload_n F 0 dX8_image_16 rfl rfl ?_
    refine g_getr (j := 1) (nn := 3) F s0 rfl rfl uX8 (by decide) q170 dX8_image_17 ?_
    refine u_callV (k := 13) (As := [.ref (E.2.1 3)]) (rest := []) (sn := fun _ => []) F B (fun _ => wX5_copyFrom (zl z) E hE bk 13 3 shX5_13 shX5_3 I J) mX5_copyFrom q314 rfl shX5_13.1 rfl rfl rfl (Nat.le_of_ble_eq_true rfl) dX8_image_20 (fun _ => rfl) h (fun r1 h => ?_)
    refine g_aload_n F 0 dX8_image_23 rfl rfl ?_
    refine g_getr (j := 9) (nn := 46) F s0 rfl rfl uX8 (by decide) q178 dX8_image_24 ?_
    refine g_aload_n F 0 dX8_image_27 rfl rfl ?_
    refine g_getr (j := 8) (nn := 44) F s0 rfl rfl uX8 (by decide) q177 dX8_image_28 ?_
    refine u_callV (k := 46) (As := [.ref (E.2.1 44)]) (rest := []) (sn := fun _ => []) F B (fun _ => wX2_copyFrom (zl z) E hE bk 46 44 shX2_46 shX2_44 r1 J) mX2_copyFrom q751 rfl shX2_46.1 rfl rfl rfl (Nat.le_of_ble_eq_true rfl) dX8_image_31 (fun _ => rfl) h (fun r2 h => ?_)
    refine g_aload_n F 0 dX8_image_34 rfl rfl ?_
    refine g_iconst (v := 1) F dX8_image_35 (by decide) ?_
    refine u_puti (j := 15) F s0 rfl rfl uX8 (by decide) q184 tyX8_ok nmX8 rfl rfl rfl dX8_image_36 h (fun I3 h => ?_)
    refine g_aload_n F 0 dX8_image_39 rfl rfl ?_
    refine g_getr (j := 4) (nn := 18) F s0 rfl rfl uX8 (by decide) q173 dX8_image_40 ?_
    refine g_geti (j := 0) (v := I3 18 0) F shX1_18.1 rfl rfl uX1 (by decide) q79 rfl dX8_image_43 ?_
    obtain rfl := Option.some.inj h
    exact g_iret F e dX8_image_46 ⟨rfl, rfl, rfl⟩
theorem DX8_back_0 : dAre cX8_back [(0, .aload_n 0, 1), (1, .getfield 89, 3), (4, .ifCond .ne 5, 3), (7, .iconst (-1), 1), (8, .ireturn, 1), (9, .aload_n 0, 1), (10, .getfield 19, 3), (13, .aload_n 0, 1), (14, .getfield 26, 3), (17, .invokevirtual 123, 3), (20, .aload_n 0, 1), (21, .getfield 56, 3), (24, .aload_n 0, 1), (25, .getfield 60, 3), (28, .invokevirtual 364, 3), (31, .aload_n 0, 1)] := dAre0 (by decide +kernel)
theorem dX8_back_0 : decode cX8_back 0 = .ok (.aload_n 0, 1) := DX8_back_0.1
theorem dX8_back_1 : decode cX8_back 1 = .ok (.getfield 89, 3) := DX8_back_0.2.1
theorem dX8_back_4 : decode cX8_back 4 = .ok (.ifCond .ne 5, 3) := DX8_back_0.2.2.1
theorem dX8_back_7 : decode cX8_back 7 = .ok (.iconst (-1), 1) := DX8_back_0.2.2.2.1
theorem dX8_back_8 : decode cX8_back 8 = .ok (.ireturn, 1) := DX8_back_0.2.2.2.2.1
theorem dX8_back_9 : decode cX8_back 9 = .ok (.aload_n 0, 1) := DX8_back_0.2.2.2.2.2.1
theorem dX8_back_10 : decode cX8_back 10 = .ok (.getfield 19, 3) := DX8_back_0.2.2.2.2.2.2.1
theorem dX8_back_13 : decode cX8_back 13 = .ok (.aload_n 0, 1) := DX8_back_0.2.2.2.2.2.2.2.1
theorem dX8_back_14 : decode cX8_back 14 = .ok (.getfield 26, 3) := DX8_back_0.2.2.2.2.2.2.2.2.1
theorem dX8_back_17 : decode cX8_back 17 = .ok (.invokevirtual 123, 3) := DX8_back_0.2.2.2.2.2.2.2.2.2.1
theorem dX8_back_20 : decode cX8_back 20 = .ok (.aload_n 0, 1) := DX8_back_0.2.2.2.2.2.2.2.2.2.2.1
theorem dX8_back_21 : decode cX8_back 21 = .ok (.getfield 56, 3) := DX8_back_0.2.2.2.2.2.2.2.2.2.2.2.1
theorem dX8_back_24 : decode cX8_back 24 = .ok (.aload_n 0, 1) := DX8_back_0.2.2.2.2.2.2.2.2.2.2.2.2.1
theorem dX8_back_25 : decode cX8_back 25 = .ok (.getfield 60, 3) := DX8_back_0.2.2.2.2.2.2.2.2.2.2.2.2.2.1
theorem dX8_back_28 : decode cX8_back 28 = .ok (.invokevirtual 364, 3) := DX8_back_0.2.2.2.2.2.2.2.2.2.2.2.2.2.2.1
theorem dX8_back_31 : decode cX8_back 31 = .ok (.aload_n 0, 1) := DX8_back_0.2.2.2.2.2.2.2.2.2.2.2.2.2.2.2.1
theorem DX8_back_32 : dAre cX8_back [(32, .getfield 66, 3), (35, .invokevirtual 130, 3), (38, .aload_n 0, 1), (39, .invokevirtual 131, 3), (42, .aload_n 0, 1), (43, .getfield 32, 3), (46, .getfield 186, 3), (49, .ireturn, 1)] := dAre0 (by decide +kernel)
theorem dX8_back_32 : decode cX8_back 32 = .ok (.getfield 66, 3) := DX8_back_32.1
theorem dX8_back_35 : decode cX8_back 35 = .ok (.invokevirtual 130, 3) := DX8_back_32.2.1
theorem dX8_back_38 : decode cX8_back 38 = .ok (.aload_n 0, 1) := DX8_back_32.2.2.1
theorem dX8_back_39 : decode cX8_back 39 = .ok (.invokevirtual 131, 3) := DX8_back_32.2.2.2.1
theorem dX8_back_42 : decode cX8_back 42 = .ok (.aload_n 0, 1) := DX8_back_32.2.2.2.2.1
theorem dX8_back_43 : decode cX8_back 43 = .ok (.getfield 32, 3) := DX8_back_32.2.2.2.2.2.1
theorem dX8_back_46 : decode cX8_back 46 = .ok (.getfield 186, 3) := DX8_back_32.2.2.2.2.2.2.1
theorem dX8_back_49 : decode cX8_back 49 = .ok (.ireturn, 1) := DX8_back_32.2.2.2.2.2.2.2.1
theorem mX8_back : gMv yX8_back cX8_back 1 (some .int) RX8 0 := ⟨q757, q758, q1, q759, rfl, by decide, by decide, by decide +kernel⟩
noncomputable def fX8_back (I : gM) : Option (Int32 × gM) :=
  if (I 0 15) = 0 then
    some (((-1) : Int32), I)
  else
    (fX5_copyFrom 3 13 I).bind fun r1 =>
    (fX2_copyFrom 44 46 r1).bind fun r2 =>
    (fX3_clear r2).bind fun r3 =>
    (fX8_renew r3).bind fun r4 =>
    some (r4 18 0, r4)
set_option maxRecDepth 100000 in
set_option maxHeartbeats 4000000 in
theorem wX8_back (l : Launch) (E : gE) (hE : gDist sh E) (bk : Nat) (I : gM) (J : gN) {r : Int32 × gM} (h : fX8_back I = some r) : Cu l sh E bk yX8_back cX8_back 1 (some .int) (gR 17) [.ref (E.2.1 0)] I J (fun r1 I1 J1 => r1 = some (.int r.1) ∧ I1 = r.2 ∧ J1 = J) := by
  refine Cu.of "LeapJoin" rfl hE (by decide) (Nat.le_of_ble_eq_true rfl) (fun z F B e hl => ?_)
  subst hl
  unfold fX8_back at h
  refine g_aload_n F 0 dX8_back_0 rfl rfl ?_
  refine g_geti (j := 15) (v := I 0 15) F s0 rfl rfl uX8 (by decide) q184 rfl dX8_back_1 ?_
  refine u_if_ne (tgt := 9) F dX8_back_4 (by decide) h (fun h => ?_) (fun h => ?_)
  · refine g_iconst (v := (-1)) F dX8_back_7 (by decide) ?_
    obtain rfl := Option.some.inj h
    exact g_iret F e dX8_back_8 ⟨rfl, rfl, rfl⟩
  · refine g_aload_n F 0 dX8_back_9 rfl rfl ?_
    refine g_getr (j := 1) (nn := 3) F s0 rfl rfl uX8 (by decide) q170 dX8_back_10 ?_
    refine g_aload_n F 0 dX8_back_13 rfl rfl ?_
    refine g_getr (j := 3) (nn := 13) F s0 rfl rfl uX8 (by decide) q172 dX8_back_14 ?_
    refine u_callV (k := 3) (As := [.ref (E.2.1 13)]) (rest := []) (sn := fun _ => []) F B (fun _ => wX5_copyFrom (zl z) E hE bk 3 13 shX5_3 shX5_13 I J) mX5_copyFrom q314 rfl shX5_3.1 rfl rfl rfl (Nat.le_of_ble_eq_true rfl) dX8_back_17 (fun _ => rfl) h (fun r1 h => ?_)
    refine g_aload_n F 0 dX8_back_20 rfl rfl ?_
    refine g_getr (j := 8) (nn := 44) F s0 rfl rfl uX8 (by decide) q177 dX8_back_21 ?_
    refine g_aload_n F 0 dX8_back_24 rfl rfl ?_
    refine g_getr (j := 9) (nn := 46) F s0 rfl rfl uX8 (by decide) q178 dX8_back_25 ?_
    refine u_callV (k := 44) (As := [.ref (E.2.1 46)]) (rest := []) (sn := fun _ => []) F B (fun _ => wX2_copyFrom (zl z) E hE bk 44 46 shX2_44 shX2_46 r1 J) mX2_copyFrom q751 rfl shX2_44.1 rfl rfl rfl (Nat.le_of_ble_eq_true rfl) dX8_back_28 (fun _ => rfl) h (fun r2 h => ?_)
    refine g_aload_n F 0 dX8_back_31 rfl rfl ?_
    refine g_getr (j := 10) (nn := 48) F s0 rfl rfl uX8 (by decide) q179 dX8_back_32 ?_
    refine u_callV (k := 48) (As := []) (rest := []) (sn := fun _ => []) F B (fun _ => wX3_clear (zl z) E hE bk  r2 J) mX3_clear q324 rfl s48 rfl rfl rfl (Nat.le_of_ble_eq_true rfl) dX8_back_35 (fun _ => rfl) h (fun r3 h => ?_)
    refine g_aload_n F 0 dX8_back_38 rfl rfl ?_
    refine u_callV (k := 0) (As := []) (rest := []) (sn := fun _ => []) F B (fun _ => wX8_renew (zl z) E hE bk  r3 J) mX8_renew q328 rfl s0 rfl rfl rfl (Nat.le_of_ble_eq_true rfl) dX8_back_39 (fun _ => rfl) h (fun r4 h => ?_)
    refine g_aload_n F 0 dX8_back_42 rfl rfl ?_
    refine g_getr (j := 4) (nn := 18) F s0 rfl rfl uX8 (by decide) q173 dX8_back_43 ?_
    refine g_geti (j := 0) (v := r4 18 0) F shX1_18.1 rfl rfl uX1 (by decide) q79 rfl dX8_back_46 ?_
    obtain rfl := Option.some.inj h
    exact g_iret F e dX8_back_49 ⟨rfl, rfl, rfl⟩
theorem dX8_count_1 : decode cX8_count 1 = .ok (.tableswitch 72 0 4 #[35, 43, 48, 56, 64], 35) := by decide +kernel
theorem DX8_count_0 : dAre cX8_count [(0, .iload_n 1, 1), (36, .aload_n 0, 1), (37, .getfield 19, 3), (40, .getfield 134, 3), (43, .ireturn, 1), (44, .aload_n 0, 1), (45, .getfield 85, 3), (48, .ireturn, 1), (49, .aload_n 0, 1), (50, .getfield 12, 3), (53, .getfield 101, 3), (56, .ireturn, 1), (57, .aload_n 0, 1), (58, .getfield 56, 3), (61, .invokevirtual 320, 3), (64, .ireturn, 1)] := dAre0 (by decide +kernel)
theorem dX8_count_0 : decode cX8_count 0 = .ok (.iload_n 1, 1) := DX8_count_0.1
theorem dX8_count_36 : decode cX8_count 36 = .ok (.aload_n 0, 1) := DX8_count_0.2.1
theorem dX8_count_37 : decode cX8_count 37 = .ok (.getfield 19, 3) := DX8_count_0.2.2.1
theorem dX8_count_40 : decode cX8_count 40 = .ok (.getfield 134, 3) := DX8_count_0.2.2.2.1
theorem dX8_count_43 : decode cX8_count 43 = .ok (.ireturn, 1) := DX8_count_0.2.2.2.2.1
theorem dX8_count_44 : decode cX8_count 44 = .ok (.aload_n 0, 1) := DX8_count_0.2.2.2.2.2.1
theorem dX8_count_45 : decode cX8_count 45 = .ok (.getfield 85, 3) := DX8_count_0.2.2.2.2.2.2.1
theorem dX8_count_48 : decode cX8_count 48 = .ok (.ireturn, 1) := DX8_count_0.2.2.2.2.2.2.2.1
theorem dX8_count_49 : decode cX8_count 49 = .ok (.aload_n 0, 1) := DX8_count_0.2.2.2.2.2.2.2.2.1
theorem dX8_count_50 : decode cX8_count 50 = .ok (.getfield 12, 3) := DX8_count_0.2.2.2.2.2.2.2.2.2.1
theorem dX8_count_53 : decode cX8_count 53 = .ok (.getfield 101, 3) := DX8_count_0.2.2.2.2.2.2.2.2.2.2.1
theorem dX8_count_56 : decode cX8_count 56 = .ok (.ireturn, 1) := DX8_count_0.2.2.2.2.2.2.2.2.2.2.2.1
theorem dX8_count_57 : decode cX8_count 57 = .ok (.aload_n 0, 1) := DX8_count_0.2.2.2.2.2.2.2.2.2.2.2.2.1
theorem dX8_count_58 : decode cX8_count 58 = .ok (.getfield 56, 3) := DX8_count_0.2.2.2.2.2.2.2.2.2.2.2.2.2.1
theorem dX8_count_61 : decode cX8_count 61 = .ok (.invokevirtual 320, 3) := DX8_count_0.2.2.2.2.2.2.2.2.2.2.2.2.2.2.1
theorem dX8_count_64 : decode cX8_count 64 = .ok (.ireturn, 1) := DX8_count_0.2.2.2.2.2.2.2.2.2.2.2.2.2.2.2.1
theorem DX8_count_65 : dAre cX8_count [(65, .aload_n 0, 1), (66, .getfield 66, 3), (69, .getfield 303, 3), (72, .ireturn, 1), (73, .ldc_w 260, 3), (76, .ireturn, 1)] := dAre0 (by decide +kernel)
theorem dX8_count_65 : decode cX8_count 65 = .ok (.aload_n 0, 1) := DX8_count_65.1
theorem dX8_count_66 : decode cX8_count 66 = .ok (.getfield 66, 3) := DX8_count_65.2.1
theorem dX8_count_69 : decode cX8_count 69 = .ok (.getfield 303, 3) := DX8_count_65.2.2.1
theorem dX8_count_72 : decode cX8_count 72 = .ok (.ireturn, 1) := DX8_count_65.2.2.2.1
theorem dX8_count_73 : decode cX8_count 73 = .ok (.ldc_w 260, 3) := DX8_count_65.2.2.2.2.1
theorem dX8_count_76 : decode cX8_count 76 = .ok (.ireturn, 1) := DX8_count_65.2.2.2.2.2.1
theorem mX8_count : gMv yX8_count cX8_count 2 (some .int) RX8 1 := ⟨q761, q762, q1, q763, rfl, by decide, by decide, by decide +kernel⟩
noncomputable def fX8_count (v1 : Int32) (I : gM) : Option (Int32) :=
  if v1 = 0 then
    some (I 3 0)
  else
  if v1 = 1 then
    some (I 0 14)
  else
  if v1 = 2 then
    some (I 1 0)
  else
  if v1 = 3 then
    (fX2_shown 44 I).bind fun r1 =>
    some r1
  else
  if v1 = 4 then
    some (I 48 0)
  else
  some ((-1000000) : Int32)
set_option maxRecDepth 100000 in
set_option maxHeartbeats 4000000 in
theorem wX8_count (l : Launch) (E : gE) (hE : gDist sh E) (bk : Nat) (v1 : Int32) (I : gM) (J : gN) {r : Int32} (h : fX8_count v1 I = some r) : Cu l sh E bk yX8_count cX8_count 2 (some .int) (gR 2) [.ref (E.2.1 0), .int v1] I J (fun r1 I1 J1 => r1 = some (.int r) ∧ I1 = I ∧ J1 = J) := by
  refine Cu.of "LeapJoin" rfl hE (by decide) (Nat.le_of_ble_eq_true rfl) (fun z F B e hl => ?_)
  subst hl
  unfold fX8_count at h
  refine g_iload_n F 1 dX8_count_0 rfl rfl ?_
  rcases oi h with ⟨c1_0, h⟩ | ⟨c1_0, h⟩
  · refine g_tableIn (tgt := 36) F dX8_count_1 (by rw [c1_0]; decide) (by rw [c1_0]; decide) (by rw [c1_0]; rfl) (by decide) ?_
    refine g_aload_n F 0 dX8_count_36 rfl rfl ?_
    refine g_getr (j := 1) (nn := 3) F s0 rfl rfl uX8 (by decide) q170 dX8_count_37 ?_
    refine g_geti (j := 0) (v := I 3 0) F shX5_3.1 rfl rfl uX5 (by decide) q49 rfl dX8_count_40 ?_
    obtain rfl := Option.some.inj h
    exact g_iret F e dX8_count_43 ⟨rfl, rfl, rfl⟩
  rcases oi h with ⟨c1_1, h⟩ | ⟨c1_1, h⟩
  · refine g_tableIn (tgt := 44) F dX8_count_1 (by rw [c1_1]; decide) (by rw [c1_1]; decide) (by rw [c1_1]; rfl) (by decide) ?_
    refine g_aload_n F 0 dX8_count_44 rfl rfl ?_
    refine g_geti (j := 14) (v := I 0 14) F s0 rfl rfl uX8 (by decide) q183 rfl dX8_count_45 ?_
    obtain rfl := Option.some.inj h
    exact g_iret F e dX8_count_48 ⟨rfl, rfl, rfl⟩
  rcases oi h with ⟨c1_2, h⟩ | ⟨c1_2, h⟩
  · refine g_tableIn (tgt := 49) F dX8_count_1 (by rw [c1_2]; decide) (by rw [c1_2]; decide) (by rw [c1_2]; rfl) (by decide) ?_
    refine g_aload_n F 0 dX8_count_49 rfl rfl ?_
    refine g_getr (j := 0) (nn := 1) F s0 rfl rfl uX8 (by decide) q169 dX8_count_50 ?_
    refine g_geti (j := 0) (v := I 1 0) F s1 rfl rfl uX6 (by decide) q36 rfl dX8_count_53 ?_
    obtain rfl := Option.some.inj h
    exact g_iret F e dX8_count_56 ⟨rfl, rfl, rfl⟩
  rcases oi h with ⟨c1_3, h⟩ | ⟨c1_3, h⟩
  · refine g_tableIn (tgt := 57) F dX8_count_1 (by rw [c1_3]; decide) (by rw [c1_3]; decide) (by rw [c1_3]; rfl) (by decide) ?_
    refine g_aload_n F 0 dX8_count_57 rfl rfl ?_
    refine g_getr (j := 8) (nn := 44) F s0 rfl rfl uX8 (by decide) q177 dX8_count_58 ?_
    refine u_callV (k := 44) (As := []) (rest := []) (sn := fun r1 => [.int r1]) F B (fun _ => wX2_shown (zl z) E hE bk 44 shX2_44 I J) mX2_shown q678 rfl shX2_44.1 rfl rfl rfl (Nat.le_of_ble_eq_true rfl) dX8_count_61 (fun _ => rfl) h (fun r1 h => ?_)
    obtain rfl := Option.some.inj h
    exact g_iret F e dX8_count_64 ⟨rfl, rfl, rfl⟩
  rcases oi h with ⟨c1_4, h⟩ | ⟨c1_4, h⟩
  · refine g_tableIn (tgt := 65) F dX8_count_1 (by rw [c1_4]; decide) (by rw [c1_4]; decide) (by rw [c1_4]; rfl) (by decide) ?_
    refine g_aload_n F 0 dX8_count_65 rfl rfl ?_
    refine g_getr (j := 10) (nn := 48) F s0 rfl rfl uX8 (by decide) q179 dX8_count_66 ?_
    refine g_geti (j := 0) (v := I 48 0) F s48 rfl rfl uX3 (by decide) q153 rfl dX8_count_69 ?_
    obtain rfl := Option.some.inj h
    exact g_iret F e dX8_count_72 ⟨rfl, rfl, rfl⟩
  refine g_tableOut (tgt := 73) F dX8_count_1 (by have q0 : ¬ (v1).toInt = 0 := fun q => c1_0 (Int32.toInt_inj.mp (q.trans (by decide))); have q1 : ¬ (v1).toInt = 1 := fun q => c1_1 (Int32.toInt_inj.mp (q.trans (by decide))); have q2 : ¬ (v1).toInt = 2 := fun q => c1_2 (Int32.toInt_inj.mp (q.trans (by decide))); have q3 : ¬ (v1).toInt = 3 := fun q => c1_3 (Int32.toInt_inj.mp (q.trans (by decide))); have q4 : ¬ (v1).toInt = 4 := fun q => c1_4 (Int32.toInt_inj.mp (q.trans (by decide))); omega) (by decide) ?_
  refine g_ldc_w F dX8_count_73 q555 ?_
  obtain rfl := Option.some.inj h
  exact g_iret F e dX8_count_76 ⟨rfl, rfl, rfl⟩
theorem DX9_in_0 : dAre cX9_in [(0, .iload_n 0, 1), (1, .iload_n 1, 1), (2, .if_icmp .lt 12, 3), (5, .iload_n 0, 1), (6, .iload_n 2, 1), (7, .if_icmp .gt 7, 3), (10, .iconst 1, 1), (11, .goto 4, 3), (14, .iconst 0, 1), (15, .ireturn, 1)] := dAre0 (by decide +kernel)
theorem dX9_in_0 : decode cX9_in 0 = .ok (.iload_n 0, 1) := DX9_in_0.1
theorem dX9_in_1 : decode cX9_in 1 = .ok (.iload_n 1, 1) := DX9_in_0.2.1
theorem dX9_in_2 : decode cX9_in 2 = .ok (.if_icmp .lt 12, 3) := DX9_in_0.2.2.1
theorem dX9_in_5 : decode cX9_in 5 = .ok (.iload_n 0, 1) := DX9_in_0.2.2.2.1
theorem dX9_in_6 : decode cX9_in 6 = .ok (.iload_n 2, 1) := DX9_in_0.2.2.2.2.1
theorem dX9_in_7 : decode cX9_in 7 = .ok (.if_icmp .gt 7, 3) := DX9_in_0.2.2.2.2.2.1
theorem dX9_in_10 : decode cX9_in 10 = .ok (.iconst 1, 1) := DX9_in_0.2.2.2.2.2.2.1
theorem dX9_in_11 : decode cX9_in 11 = .ok (.goto 4, 3) := DX9_in_0.2.2.2.2.2.2.2.1
theorem dX9_in_14 : decode cX9_in 14 = .ok (.iconst 0, 1) := DX9_in_0.2.2.2.2.2.2.2.2.1
theorem dX9_in_15 : decode cX9_in 15 = .ok (.ireturn, 1) := DX9_in_0.2.2.2.2.2.2.2.2.2.1
theorem mX9_in : gMs yX9_in cX9_in 3 (some .boolean) 3 := ⟨q924, q10, q925, by decide, by decide, by decide +kernel⟩
noncomputable def fX9_in (v0 : Int32) (v1 : Int32) (v2 : Int32) : Option (Int32) :=
  if v0 < v1 then
    some (0 : Int32)
  else
    if v2 < v0 then
      some (0 : Int32)
    else
      some (1 : Int32)
set_option maxRecDepth 100000 in
set_option maxHeartbeats 4000000 in
theorem wX9_in (l : Launch) (E : gE) (hE : gDist sh E) (bk : Nat) (v0 : Int32) (v1 : Int32) (v2 : Int32) (I : gM) (J : gN) {r : Int32} (h : fX9_in v0 v1 v2 = some r) : Cu l sh E bk yX9_in cX9_in 3 (some .boolean) (gR 0) [.int v0, .int v1, .int v2] I J (fun r1 I1 J1 => r1 = some (.int r) ∧ I1 = I ∧ J1 = J) := by
  refine Cu.of "LeapJoinModel" rfl hE (by decide) (Nat.le_of_ble_eq_true rfl) (fun z F B e hl => ?_)
  subst hl
  unfold fX9_in at h
  refine g_iload_n F 0 dX9_in_0 rfl rfl ?_
  refine g_iload_n F 1 dX9_in_1 rfl rfl ?_
  refine u_icmp_lt (tgt := 14) F dX9_in_2 (by decide) h (fun h => ?_) (fun h => ?_)
  · refine g_iconst (v := 0) F dX9_in_14 (by decide) ?_
    obtain rfl := Option.some.inj h
    exact g_zret F rfl e dX9_in_15 ⟨rfl, rfl, rfl⟩
  · refine g_iload_n F 0 dX9_in_5 rfl rfl ?_
    refine g_iload_n F 2 dX9_in_6 rfl rfl ?_
    refine u_icmp_gt (tgt := 14) F dX9_in_7 (by decide) h (fun h => ?_) (fun h => ?_)
    · refine g_iconst (v := 0) F dX9_in_14 (by decide) ?_
      obtain rfl := Option.some.inj h
      exact g_zret F rfl e dX9_in_15 ⟨rfl, rfl, rfl⟩
    · refine g_iconst (v := 1) F dX9_in_10 (by decide) ?_
      refine g_goto (tgt := 15) F dX9_in_11 (by decide) ?_
      obtain rfl := Option.some.inj h
      exact g_zret F rfl e dX9_in_15 ⟨rfl, rfl, rfl⟩
theorem DX9_has_0 : dAre cX9_has [(0, .iload_n 0, 1), (1, .iload_n 1, 1), (2, .ishr, 1), (3, .iconst 1, 1), (4, .iand, 1), (5, .iconst 1, 1), (6, .if_icmp .ne 7, 3), (9, .iconst 1, 1), (10, .goto 4, 3), (13, .iconst 0, 1), (14, .ireturn, 1)] := dAre0 (by decide +kernel)
theorem dX9_has_0 : decode cX9_has 0 = .ok (.iload_n 0, 1) := DX9_has_0.1
theorem dX9_has_1 : decode cX9_has 1 = .ok (.iload_n 1, 1) := DX9_has_0.2.1
theorem dX9_has_2 : decode cX9_has 2 = .ok (.ishr, 1) := DX9_has_0.2.2.1
theorem dX9_has_3 : decode cX9_has 3 = .ok (.iconst 1, 1) := DX9_has_0.2.2.2.1
theorem dX9_has_4 : decode cX9_has 4 = .ok (.iand, 1) := DX9_has_0.2.2.2.2.1
theorem dX9_has_5 : decode cX9_has 5 = .ok (.iconst 1, 1) := DX9_has_0.2.2.2.2.2.1
theorem dX9_has_6 : decode cX9_has 6 = .ok (.if_icmp .ne 7, 3) := DX9_has_0.2.2.2.2.2.2.1
theorem dX9_has_9 : decode cX9_has 9 = .ok (.iconst 1, 1) := DX9_has_0.2.2.2.2.2.2.2.1
theorem dX9_has_10 : decode cX9_has 10 = .ok (.goto 4, 3) := DX9_has_0.2.2.2.2.2.2.2.2.1
theorem dX9_has_13 : decode cX9_has 13 = .ok (.iconst 0, 1) := DX9_has_0.2.2.2.2.2.2.2.2.2.1
theorem dX9_has_14 : decode cX9_has 14 = .ok (.ireturn, 1) := DX9_has_0.2.2.2.2.2.2.2.2.2.2.1
theorem mX9_has : gMs yX9_has cX9_has 2 (some .boolean) 2 := ⟨q955, q10, q956, by decide, by decide, by decide +kernel⟩
noncomputable def fX9_has (v0 : Int32) (v1 : Int32) : Option (Int32) :=
  if ((v0 >>> (v1 &&& 31)) &&& 1) = 1 then
    some (1 : Int32)
  else
    some (0 : Int32)
set_option maxRecDepth 100000 in
set_option maxHeartbeats 4000000 in
theorem wX9_has (l : Launch) (E : gE) (hE : gDist sh E) (bk : Nat) (v0 : Int32) (v1 : Int32) (I : gM) (J : gN) {r : Int32} (h : fX9_has v0 v1 = some r) : Cu l sh E bk yX9_has cX9_has 2 (some .boolean) (gR 0) [.int v0, .int v1] I J (fun r1 I1 J1 => r1 = some (.int r) ∧ I1 = I ∧ J1 = J) := by
  refine Cu.of "LeapJoinModel" rfl hE (by decide) (Nat.le_of_ble_eq_true rfl) (fun z F B e hl => ?_)
  subst hl
  unfold fX9_has at h
  refine g_iload_n F 0 dX9_has_0 rfl rfl ?_
  refine g_iload_n F 1 dX9_has_1 rfl rfl ?_
  refine g_ishr (v := v0 >>> (v1 &&& 31)) F dX9_has_2 rfl ?_
  refine g_iconst (v := 1) F dX9_has_3 (by decide) ?_
  refine g_iand (v := (v0 >>> (v1 &&& 31)) &&& 1) F dX9_has_4 rfl ?_
  refine g_iconst (v := 1) F dX9_has_5 (by decide) ?_
  refine u_icmp_ne (tgt := 13) F dX9_has_6 (by decide) h (fun h => ?_) (fun h => ?_)
  · refine g_iconst (v := 1) F dX9_has_9 (by decide) ?_
    refine g_goto (tgt := 14) F dX9_has_10 (by decide) ?_
    obtain rfl := Option.some.inj h
    exact g_zret F rfl e dX9_has_14 ⟨rfl, rfl, rfl⟩
  · refine g_iconst (v := 0) F dX9_has_13 (by decide) ?_
    obtain rfl := Option.some.inj h
    exact g_zret F rfl e dX9_has_14 ⟨rfl, rfl, rfl⟩
theorem DX9_bits_0 : dAre cX9_bits [(0, .iconst 0, 1), (1, .istore_n 1, 1), (2, .iconst 0, 1), (3, .istore_n 2, 1), (4, .iload_n 2, 1), (5, .bipush 12, 2), (7, .if_icmp .ge 17, 3), (10, .iload_n 1, 1), (11, .iload_n 0, 1), (12, .iload_n 2, 1), (13, .ishr, 1), (14, .iconst 1, 1), (15, .iand, 1), (16, .iadd, 1), (17, .istore_n 1, 1), (18, .iinc 2 1, 3)] := dAre0 (by decide +kernel)
theorem dX9_bits_0 : decode cX9_bits 0 = .ok (.iconst 0, 1) := DX9_bits_0.1
theorem dX9_bits_1 : decode cX9_bits 1 = .ok (.istore_n 1, 1) := DX9_bits_0.2.1
theorem dX9_bits_2 : decode cX9_bits 2 = .ok (.iconst 0, 1) := DX9_bits_0.2.2.1
theorem dX9_bits_3 : decode cX9_bits 3 = .ok (.istore_n 2, 1) := DX9_bits_0.2.2.2.1
theorem dX9_bits_4 : decode cX9_bits 4 = .ok (.iload_n 2, 1) := DX9_bits_0.2.2.2.2.1
theorem dX9_bits_5 : decode cX9_bits 5 = .ok (.bipush 12, 2) := DX9_bits_0.2.2.2.2.2.1
theorem dX9_bits_7 : decode cX9_bits 7 = .ok (.if_icmp .ge 17, 3) := DX9_bits_0.2.2.2.2.2.2.1
theorem dX9_bits_10 : decode cX9_bits 10 = .ok (.iload_n 1, 1) := DX9_bits_0.2.2.2.2.2.2.2.1
theorem dX9_bits_11 : decode cX9_bits 11 = .ok (.iload_n 0, 1) := DX9_bits_0.2.2.2.2.2.2.2.2.1
theorem dX9_bits_12 : decode cX9_bits 12 = .ok (.iload_n 2, 1) := DX9_bits_0.2.2.2.2.2.2.2.2.2.1
theorem dX9_bits_13 : decode cX9_bits 13 = .ok (.ishr, 1) := DX9_bits_0.2.2.2.2.2.2.2.2.2.2.1
theorem dX9_bits_14 : decode cX9_bits 14 = .ok (.iconst 1, 1) := DX9_bits_0.2.2.2.2.2.2.2.2.2.2.2.1
theorem dX9_bits_15 : decode cX9_bits 15 = .ok (.iand, 1) := DX9_bits_0.2.2.2.2.2.2.2.2.2.2.2.2.1
theorem dX9_bits_16 : decode cX9_bits 16 = .ok (.iadd, 1) := DX9_bits_0.2.2.2.2.2.2.2.2.2.2.2.2.2.1
theorem dX9_bits_17 : decode cX9_bits 17 = .ok (.istore_n 1, 1) := DX9_bits_0.2.2.2.2.2.2.2.2.2.2.2.2.2.2.1
theorem dX9_bits_18 : decode cX9_bits 18 = .ok (.iinc 2 1, 3) := DX9_bits_0.2.2.2.2.2.2.2.2.2.2.2.2.2.2.2.1
theorem DX9_bits_21 : dAre cX9_bits [(21, .goto (-17), 3), (24, .iload_n 1, 1), (25, .ireturn, 1)] := dAre0 (by decide +kernel)
theorem dX9_bits_21 : decode cX9_bits 21 = .ok (.goto (-17), 3) := DX9_bits_21.1
theorem dX9_bits_24 : decode cX9_bits 24 = .ok (.iload_n 1, 1) := DX9_bits_21.2.1
theorem dX9_bits_25 : decode cX9_bits 25 = .ok (.ireturn, 1) := DX9_bits_21.2.2.1
theorem mX9_bits : gMs yX9_bits cX9_bits 3 (some .int) 1 := ⟨q1325, q10, q1326, by decide, by decide, by decide +kernel⟩
noncomputable def lX9_bits_4 (v0 : Int32) : (Int32 × Int32) → Option (Int32) :=
  itO fun s =>
    if (12 : Int32) ≤ s.2 then
      some (.inr s.1)
    else
      some (.inl (s.1 + ((v0 >>> (s.2 &&& 31)) &&& 1), s.2 + 1))
set_option maxRecDepth 100000 in
set_option maxHeartbeats 4000000 in
theorem wlX9_bits_4 {z : gZ} {E : gE} {bk : Nat} (F : Fx z sh E "LeapJoinModel" cX9_bits (gR 0) 3) (B : bZ z bk) (hE : gDist sh E) (v0 : Int32) (I : gM) (J : gN) {r : Int32} : ∀ s : Int32 × Int32, lX9_bits_4 v0 s = some r → (G z 24 [(1, .int r)] [] I J) → G z 4 [(0, .int v0), (1, .int s.1), (2, .int s.2)] [] I J := by
  intro s h X0
  unfold lX9_bits_4 at h
  revert s
  refine itO_ind (P := fun s : Int32 × Int32 => G z 4 [(0, .int v0), (1, .int s.1), (2, .int s.2)] [] I J) (fun s y h hl hr => ?_)
  have K4_0 : ∀ x : Int32, y = .inr x → (G z 24 [(1, .int x)] [] I J) := fun x q => by have q2 := hr _ q; subst q2; exact X0
  refine g_iload_n F 2 dX9_bits_4 rfl rfl ?_
  refine g_bipush (v := 12) F dX9_bits_5 (by decide) ?_
  refine u_icmp_ge (tgt := 24) F dX9_bits_7 (by decide) h (fun h => ?_) (fun h => ?_)
  · obtain rfl := Option.some.inj h
    refine g_sub (Ln := [(1, .int s.1)]) [1] rfl ?_
    exact K4_0 s.1 rfl
  · refine g_iload_n F 1 dX9_bits_10 rfl rfl ?_
    refine g_iload_n F 0 dX9_bits_11 rfl rfl ?_
    refine g_iload_n F 2 dX9_bits_12 rfl rfl ?_
    refine g_ishr (v := v0 >>> (s.2 &&& 31)) F dX9_bits_13 rfl ?_
    refine g_iconst (v := 1) F dX9_bits_14 (by decide) ?_
    refine g_iand (v := (v0 >>> (s.2 &&& 31)) &&& 1) F dX9_bits_15 rfl ?_
    refine g_iadd (v := s.1 + ((v0 >>> (s.2 &&& 31)) &&& 1)) F dX9_bits_16 rfl ?_
    refine g_istore_n (Ln := [(1, .int (s.1 + ((v0 >>> (s.2 &&& 31)) &&& 1))), (0, .int v0), (2, .int s.2)]) F dX9_bits_17 rfl (by decide) rfl ?_
    refine g_iinc (v := s.2 + 1) (Ln := [(2, .int (s.2 + 1)), (1, .int (s.1 + ((v0 >>> (s.2 &&& 31)) &&& 1))), (0, .int v0)]) F 2 dX9_bits_18 rfl (add_c (by decide)) (by decide) rfl ?_
    refine g_goto (tgt := 4) F dX9_bits_21 (by decide) ?_
    obtain rfl := Option.some.inj h
    refine g_sub (Ln := [(0, .int v0), (1, .int (s.1 + ((v0 >>> (s.2 &&& 31)) &&& 1))), (2, .int (s.2 + 1))]) [2, 1, 0] rfl ?_
    exact hl (s.1 + ((v0 >>> (s.2 &&& 31)) &&& 1), s.2 + 1) rfl
noncomputable def fX9_bits (v0 : Int32) : Option (Int32) :=
  (lX9_bits_4 v0 ((0 : Int32), (0 : Int32))).bind fun w1 =>
  some w1
set_option maxRecDepth 100000 in
set_option maxHeartbeats 4000000 in
theorem wX9_bits (l : Launch) (E : gE) (hE : gDist sh E) (bk : Nat) (v0 : Int32) (I : gM) (J : gN) {r : Int32} (h : fX9_bits v0 = some r) : Cu l sh E bk yX9_bits cX9_bits 3 (some .int) (gR 0) [.int v0] I J (fun r1 I1 J1 => r1 = some (.int r) ∧ I1 = I ∧ J1 = J) := by
  refine Cu.of "LeapJoinModel" rfl hE (by decide) (Nat.le_of_ble_eq_true rfl) (fun z F B e hl => ?_)
  subst hl
  unfold fX9_bits at h
  refine g_iconst (v := 0) F dX9_bits_0 (by decide) ?_
  refine g_istore_n (Ln := [(1, .int 0), (0, .int v0)]) F dX9_bits_1 rfl (by decide) rfl ?_
  refine g_iconst (v := 0) F dX9_bits_2 (by decide) ?_
  refine g_istore_n (Ln := [(2, .int 0), (1, .int 0), (0, .int v0)]) F dX9_bits_3 rfl (by decide) rfl ?_
  obtain ⟨w1, ew1, h⟩ := ob h
  refine g_sub (Ln := [(0, .int v0), (1, .int 0), (2, .int 0)]) [2, 1, 0] rfl ?_
  refine wlX9_bits_4 F B hE v0 I J _ ew1 ?_
  refine g_iload_n F 0 dX9_bits_24 rfl rfl ?_
  obtain rfl := Option.some.inj h
  exact g_iret F e dX9_bits_25 ⟨rfl, rfl, rfl⟩
theorem DX9_byteOf_0 : dAre cX9_byteOf [(0, .iload 5, 2), (2, .iconst 4, 1), (3, .if_icmp .ge 7, 3), (6, .iload_n 0, 1), (7, .goto 38, 3), (10, .iload 5, 2), (12, .bipush 8, 2), (14, .if_icmp .ge 7, 3), (17, .iload_n 1, 1), (18, .goto 27, 3), (21, .iload 5, 2), (23, .bipush 12, 2), (25, .if_icmp .ge 7, 3), (28, .iload_n 2, 1), (29, .goto 16, 3), (32, .iload 5, 2)] := dAre0 (by decide +kernel)
theorem dX9_byteOf_0 : decode cX9_byteOf 0 = .ok (.iload 5, 2) := DX9_byteOf_0.1
theorem dX9_byteOf_2 : decode cX9_byteOf 2 = .ok (.iconst 4, 1) := DX9_byteOf_0.2.1
theorem dX9_byteOf_3 : decode cX9_byteOf 3 = .ok (.if_icmp .ge 7, 3) := DX9_byteOf_0.2.2.1
theorem dX9_byteOf_6 : decode cX9_byteOf 6 = .ok (.iload_n 0, 1) := DX9_byteOf_0.2.2.2.1
theorem dX9_byteOf_7 : decode cX9_byteOf 7 = .ok (.goto 38, 3) := DX9_byteOf_0.2.2.2.2.1
theorem dX9_byteOf_10 : decode cX9_byteOf 10 = .ok (.iload 5, 2) := DX9_byteOf_0.2.2.2.2.2.1
theorem dX9_byteOf_12 : decode cX9_byteOf 12 = .ok (.bipush 8, 2) := DX9_byteOf_0.2.2.2.2.2.2.1
theorem dX9_byteOf_14 : decode cX9_byteOf 14 = .ok (.if_icmp .ge 7, 3) := DX9_byteOf_0.2.2.2.2.2.2.2.1
theorem dX9_byteOf_17 : decode cX9_byteOf 17 = .ok (.iload_n 1, 1) := DX9_byteOf_0.2.2.2.2.2.2.2.2.1
theorem dX9_byteOf_18 : decode cX9_byteOf 18 = .ok (.goto 27, 3) := DX9_byteOf_0.2.2.2.2.2.2.2.2.2.1
theorem dX9_byteOf_21 : decode cX9_byteOf 21 = .ok (.iload 5, 2) := DX9_byteOf_0.2.2.2.2.2.2.2.2.2.2.1
theorem dX9_byteOf_23 : decode cX9_byteOf 23 = .ok (.bipush 12, 2) := DX9_byteOf_0.2.2.2.2.2.2.2.2.2.2.2.1
theorem dX9_byteOf_25 : decode cX9_byteOf 25 = .ok (.if_icmp .ge 7, 3) := DX9_byteOf_0.2.2.2.2.2.2.2.2.2.2.2.2.1
theorem dX9_byteOf_28 : decode cX9_byteOf 28 = .ok (.iload_n 2, 1) := DX9_byteOf_0.2.2.2.2.2.2.2.2.2.2.2.2.2.1
theorem dX9_byteOf_29 : decode cX9_byteOf 29 = .ok (.goto 16, 3) := DX9_byteOf_0.2.2.2.2.2.2.2.2.2.2.2.2.2.2.1
theorem dX9_byteOf_32 : decode cX9_byteOf 32 = .ok (.iload 5, 2) := DX9_byteOf_0.2.2.2.2.2.2.2.2.2.2.2.2.2.2.2.1
theorem DX9_byteOf_34 : dAre cX9_byteOf [(34, .bipush 16, 2), (36, .if_icmp .ge 7, 3), (39, .iload_n 3, 1), (40, .goto 5, 3), (43, .iload 4, 2), (45, .istore 6, 2), (47, .iload 6, 2), (49, .bipush 24, 2), (51, .bipush 8, 2), (53, .iload 5, 2), (55, .iconst 4, 1), (56, .irem, 1), (57, .imul, 1), (58, .isub, 1), (59, .ishr, 1), (60, .sipush 255, 3)] := dAre0 (by decide +kernel)
theorem dX9_byteOf_34 : decode cX9_byteOf 34 = .ok (.bipush 16, 2) := DX9_byteOf_34.1
theorem dX9_byteOf_36 : decode cX9_byteOf 36 = .ok (.if_icmp .ge 7, 3) := DX9_byteOf_34.2.1
theorem dX9_byteOf_39 : decode cX9_byteOf 39 = .ok (.iload_n 3, 1) := DX9_byteOf_34.2.2.1
theorem dX9_byteOf_40 : decode cX9_byteOf 40 = .ok (.goto 5, 3) := DX9_byteOf_34.2.2.2.1
theorem dX9_byteOf_43 : decode cX9_byteOf 43 = .ok (.iload 4, 2) := DX9_byteOf_34.2.2.2.2.1
theorem dX9_byteOf_45 : decode cX9_byteOf 45 = .ok (.istore 6, 2) := DX9_byteOf_34.2.2.2.2.2.1
theorem dX9_byteOf_47 : decode cX9_byteOf 47 = .ok (.iload 6, 2) := DX9_byteOf_34.2.2.2.2.2.2.1
theorem dX9_byteOf_49 : decode cX9_byteOf 49 = .ok (.bipush 24, 2) := DX9_byteOf_34.2.2.2.2.2.2.2.1
theorem dX9_byteOf_51 : decode cX9_byteOf 51 = .ok (.bipush 8, 2) := DX9_byteOf_34.2.2.2.2.2.2.2.2.1
theorem dX9_byteOf_53 : decode cX9_byteOf 53 = .ok (.iload 5, 2) := DX9_byteOf_34.2.2.2.2.2.2.2.2.2.1
theorem dX9_byteOf_55 : decode cX9_byteOf 55 = .ok (.iconst 4, 1) := DX9_byteOf_34.2.2.2.2.2.2.2.2.2.2.1
theorem dX9_byteOf_56 : decode cX9_byteOf 56 = .ok (.irem, 1) := DX9_byteOf_34.2.2.2.2.2.2.2.2.2.2.2.1
theorem dX9_byteOf_57 : decode cX9_byteOf 57 = .ok (.imul, 1) := DX9_byteOf_34.2.2.2.2.2.2.2.2.2.2.2.2.1
theorem dX9_byteOf_58 : decode cX9_byteOf 58 = .ok (.isub, 1) := DX9_byteOf_34.2.2.2.2.2.2.2.2.2.2.2.2.2.1
theorem dX9_byteOf_59 : decode cX9_byteOf 59 = .ok (.ishr, 1) := DX9_byteOf_34.2.2.2.2.2.2.2.2.2.2.2.2.2.2.1
theorem dX9_byteOf_60 : decode cX9_byteOf 60 = .ok (.sipush 255, 3) := DX9_byteOf_34.2.2.2.2.2.2.2.2.2.2.2.2.2.2.2.1
theorem dX9_byteOf_63 : decode cX9_byteOf 63 = .ok (.iand, 1) := by decide +kernel
theorem dX9_byteOf_64 : decode cX9_byteOf 64 = .ok (.ireturn, 1) := by decide +kernel
theorem mX9_byteOf : gMs yX9_byteOf cX9_byteOf 7 (some .int) 6 := ⟨q917, q10, q918, by decide, by decide, by decide +kernel⟩
noncomputable def bX9_byteOf_45 (v5 : Int32) (t0 : Int32) : Option (Int32) :=
  some ((t0 >>> (((24 : Int32) - ((8 : Int32) * (iR v5 4))) &&& 31)) &&& 255)
set_option maxRecDepth 100000 in
set_option maxHeartbeats 4000000 in
theorem wbX9_byteOf_45 {z : gZ} {E : gE} {bk : Nat} (F : Fx z sh E "LeapJoinModel" cX9_byteOf (gR 0) 7) (B : bZ z bk) (hE : gDist sh E) (v5 : Int32) (t0 : Int32) (I : gM) (J : gN) {y : Int32} (h : bX9_byteOf_45 v5 t0 = some y) (e : Fe z sh E (some .int) (fun r1 I1 J1 => r1 = some (.int y) ∧ I1 = I ∧ J1 = J)) : G z 45 [(5, .int v5)] [.int t0] I J := by
  unfold bX9_byteOf_45 at h
  refine g_istore (Ln := [(6, .int t0), (5, .int v5)]) F dX9_byteOf_45 (by decide) rfl ?_
  refine g_iload F 0 dX9_byteOf_47 rfl ?_
  refine g_bipush (v := 24) F dX9_byteOf_49 (by decide) ?_
  refine g_bipush (v := 8) F dX9_byteOf_51 (by decide) ?_
  refine g_iload F 1 dX9_byteOf_53 rfl ?_
  refine g_iconst (v := 4) F dX9_byteOf_55 (by decide) ?_
  refine g_irem (v := iR v5 4) F dX9_byteOf_56 (by decide) rfl ?_
  refine g_imul (v := (8 : Int32) * (iR v5 4)) F dX9_byteOf_57 rfl ?_
  refine g_isub (v := (24 : Int32) - ((8 : Int32) * (iR v5 4))) F dX9_byteOf_58 rfl ?_
  refine g_ishr (v := t0 >>> (((24 : Int32) - ((8 : Int32) * (iR v5 4))) &&& 31)) F dX9_byteOf_59 rfl ?_
  refine g_sipush (v := 255) F dX9_byteOf_60 (by decide) ?_
  refine g_iand (v := (t0 >>> (((24 : Int32) - ((8 : Int32) * (iR v5 4))) &&& 31)) &&& 255) F dX9_byteOf_63 rfl ?_
  obtain rfl := Option.some.inj h
  exact g_iret F e dX9_byteOf_64 ⟨rfl, rfl, rfl⟩
noncomputable def fX9_byteOf (v0 : Int32) (v1 : Int32) (v2 : Int32) (v3 : Int32) (v4 : Int32) (v5 : Int32) : Option (Int32) :=
  if (4 : Int32) ≤ v5 then
    if (8 : Int32) ≤ v5 then
      if (12 : Int32) ≤ v5 then
        if (16 : Int32) ≤ v5 then
          bX9_byteOf_45 v5 v4
        else
          bX9_byteOf_45 v5 v3
      else
        bX9_byteOf_45 v5 v2
    else
      bX9_byteOf_45 v5 v1
  else
    bX9_byteOf_45 v5 v0
set_option maxRecDepth 100000 in
set_option maxHeartbeats 4000000 in
theorem wX9_byteOf (l : Launch) (E : gE) (hE : gDist sh E) (bk : Nat) (v0 : Int32) (v1 : Int32) (v2 : Int32) (v3 : Int32) (v4 : Int32) (v5 : Int32) (I : gM) (J : gN) {r : Int32} (h : fX9_byteOf v0 v1 v2 v3 v4 v5 = some r) : Cu l sh E bk yX9_byteOf cX9_byteOf 7 (some .int) (gR 0) [.int v0, .int v1, .int v2, .int v3, .int v4, .int v5] I J (fun r1 I1 J1 => r1 = some (.int r) ∧ I1 = I ∧ J1 = J) := by
  refine Cu.of "LeapJoinModel" rfl hE (by decide) (Nat.le_of_ble_eq_true rfl) (fun z F B e hl => ?_)
  subst hl
  unfold fX9_byteOf at h
  refine g_iload F 5 dX9_byteOf_0 rfl ?_
  refine g_iconst (v := 4) F dX9_byteOf_2 (by decide) ?_
  refine u_icmp_ge (tgt := 10) F dX9_byteOf_3 (by decide) h (fun h => ?_) (fun h => ?_)
  · refine g_iload F 5 dX9_byteOf_10 rfl ?_
    refine g_bipush (v := 8) F dX9_byteOf_12 (by decide) ?_
    refine u_icmp_ge (tgt := 21) F dX9_byteOf_14 (by decide) h (fun h => ?_) (fun h => ?_)
    · refine g_iload F 5 dX9_byteOf_21 rfl ?_
      refine g_bipush (v := 12) F dX9_byteOf_23 (by decide) ?_
      refine u_icmp_ge (tgt := 32) F dX9_byteOf_25 (by decide) h (fun h => ?_) (fun h => ?_)
      · refine g_iload F 5 dX9_byteOf_32 rfl ?_
        refine g_bipush (v := 16) F dX9_byteOf_34 (by decide) ?_
        refine u_icmp_ge (tgt := 43) F dX9_byteOf_36 (by decide) h (fun h => ?_) (fun h => ?_)
        · refine g_iload F 4 dX9_byteOf_43 rfl ?_
          refine g_sub (Ln := [(5, .int v5)]) [5] rfl ?_
          exact wbX9_byteOf_45 F B hE v5 v4 I J h e
        · refine g_iload_n F 3 dX9_byteOf_39 rfl rfl ?_
          refine g_goto (tgt := 45) F dX9_byteOf_40 (by decide) ?_
          refine g_sub (Ln := [(5, .int v5)]) [5] rfl ?_
          exact wbX9_byteOf_45 F B hE v5 v3 I J h e
      · refine g_iload_n F 2 dX9_byteOf_28 rfl rfl ?_
        refine g_goto (tgt := 45) F dX9_byteOf_29 (by decide) ?_
        refine g_sub (Ln := [(5, .int v5)]) [5] rfl ?_
        exact wbX9_byteOf_45 F B hE v5 v2 I J h e
    · refine g_iload_n F 1 dX9_byteOf_17 rfl rfl ?_
      refine g_goto (tgt := 45) F dX9_byteOf_18 (by decide) ?_
      refine g_sub (Ln := [(5, .int v5)]) [5] rfl ?_
      exact wbX9_byteOf_45 F B hE v5 v1 I J h e
  · refine g_iload_n F 0 dX9_byteOf_6 rfl rfl ?_
    refine g_goto (tgt := 45) F dX9_byteOf_7 (by decide) ?_
    refine g_sub (Ln := [(5, .int v5)]) [5] rfl ?_
    exact wbX9_byteOf_45 F B hE v5 v0 I J h e
theorem DX9_feed_0 : dAre cX9_feed [(0, .iconst 0, 1), (1, .istore 6, 2), (3, .iconst 0, 1), (4, .istore 7, 2), (6, .iload 7, 2), (8, .bipush 20, 2), (10, .if_icmp .ge 34, 3), (13, .iload 6, 2), (15, .iload_n 1, 1), (16, .iload_n 2, 1), (17, .iload_n 3, 1), (18, .iload 4, 2), (20, .iload 5, 2), (22, .iload 7, 2), (24, .invokestatic 97, 3), (27, .ifCond .eq 7, 3)] := dAre0 (by decide +kernel)
theorem dX9_feed_0 : decode cX9_feed 0 = .ok (.iconst 0, 1) := DX9_feed_0.1
theorem dX9_feed_1 : decode cX9_feed 1 = .ok (.istore 6, 2) := DX9_feed_0.2.1
theorem dX9_feed_3 : decode cX9_feed 3 = .ok (.iconst 0, 1) := DX9_feed_0.2.2.1
theorem dX9_feed_4 : decode cX9_feed 4 = .ok (.istore 7, 2) := DX9_feed_0.2.2.2.1
theorem dX9_feed_6 : decode cX9_feed 6 = .ok (.iload 7, 2) := DX9_feed_0.2.2.2.2.1
theorem dX9_feed_8 : decode cX9_feed 8 = .ok (.bipush 20, 2) := DX9_feed_0.2.2.2.2.2.1
theorem dX9_feed_10 : decode cX9_feed 10 = .ok (.if_icmp .ge 34, 3) := DX9_feed_0.2.2.2.2.2.2.1
theorem dX9_feed_13 : decode cX9_feed 13 = .ok (.iload 6, 2) := DX9_feed_0.2.2.2.2.2.2.2.1
theorem dX9_feed_15 : decode cX9_feed 15 = .ok (.iload_n 1, 1) := DX9_feed_0.2.2.2.2.2.2.2.2.1
theorem dX9_feed_16 : decode cX9_feed 16 = .ok (.iload_n 2, 1) := DX9_feed_0.2.2.2.2.2.2.2.2.2.1
theorem dX9_feed_17 : decode cX9_feed 17 = .ok (.iload_n 3, 1) := DX9_feed_0.2.2.2.2.2.2.2.2.2.2.1
theorem dX9_feed_18 : decode cX9_feed 18 = .ok (.iload 4, 2) := DX9_feed_0.2.2.2.2.2.2.2.2.2.2.2.1
theorem dX9_feed_20 : decode cX9_feed 20 = .ok (.iload 5, 2) := DX9_feed_0.2.2.2.2.2.2.2.2.2.2.2.2.1
theorem dX9_feed_22 : decode cX9_feed 22 = .ok (.iload 7, 2) := DX9_feed_0.2.2.2.2.2.2.2.2.2.2.2.2.2.1
theorem dX9_feed_24 : decode cX9_feed 24 = .ok (.invokestatic 97, 3) := DX9_feed_0.2.2.2.2.2.2.2.2.2.2.2.2.2.2.1
theorem dX9_feed_27 : decode cX9_feed 27 = .ok (.ifCond .eq 7, 3) := DX9_feed_0.2.2.2.2.2.2.2.2.2.2.2.2.2.2.2.1
theorem DX9_feed_30 : dAre cX9_feed [(30, .iconst 1, 1), (31, .goto 4, 3), (34, .iconst 0, 1), (35, .iadd, 1), (36, .istore 6, 2), (38, .iinc 7 1, 3), (41, .goto (-35), 3), (44, .aload_n 0, 1), (45, .getfield 101, 3), (48, .iload 6, 2), (50, .iadd, 1), (51, .sipush 400, 3), (54, .if_icmp .le 5, 3), (57, .iconst (-1), 1), (58, .ireturn, 1), (59, .iconst 0, 1)] := dAre0 (by decide +kernel)
theorem dX9_feed_30 : decode cX9_feed 30 = .ok (.iconst 1, 1) := DX9_feed_30.1
theorem dX9_feed_31 : decode cX9_feed 31 = .ok (.goto 4, 3) := DX9_feed_30.2.1
theorem dX9_feed_34 : decode cX9_feed 34 = .ok (.iconst 0, 1) := DX9_feed_30.2.2.1
theorem dX9_feed_35 : decode cX9_feed 35 = .ok (.iadd, 1) := DX9_feed_30.2.2.2.1
theorem dX9_feed_36 : decode cX9_feed 36 = .ok (.istore 6, 2) := DX9_feed_30.2.2.2.2.1
theorem dX9_feed_38 : decode cX9_feed 38 = .ok (.iinc 7 1, 3) := DX9_feed_30.2.2.2.2.2.1
theorem dX9_feed_41 : decode cX9_feed 41 = .ok (.goto (-35), 3) := DX9_feed_30.2.2.2.2.2.2.1
theorem dX9_feed_44 : decode cX9_feed 44 = .ok (.aload_n 0, 1) := DX9_feed_30.2.2.2.2.2.2.2.1
theorem dX9_feed_45 : decode cX9_feed 45 = .ok (.getfield 101, 3) := DX9_feed_30.2.2.2.2.2.2.2.2.1
theorem dX9_feed_48 : decode cX9_feed 48 = .ok (.iload 6, 2) := DX9_feed_30.2.2.2.2.2.2.2.2.2.1
theorem dX9_feed_50 : decode cX9_feed 50 = .ok (.iadd, 1) := DX9_feed_30.2.2.2.2.2.2.2.2.2.2.1
theorem dX9_feed_51 : decode cX9_feed 51 = .ok (.sipush 400, 3) := DX9_feed_30.2.2.2.2.2.2.2.2.2.2.2.1
theorem dX9_feed_54 : decode cX9_feed 54 = .ok (.if_icmp .le 5, 3) := DX9_feed_30.2.2.2.2.2.2.2.2.2.2.2.2.1
theorem dX9_feed_57 : decode cX9_feed 57 = .ok (.iconst (-1), 1) := DX9_feed_30.2.2.2.2.2.2.2.2.2.2.2.2.2.1
theorem dX9_feed_58 : decode cX9_feed 58 = .ok (.ireturn, 1) := DX9_feed_30.2.2.2.2.2.2.2.2.2.2.2.2.2.2.1
theorem dX9_feed_59 : decode cX9_feed 59 = .ok (.iconst 0, 1) := DX9_feed_30.2.2.2.2.2.2.2.2.2.2.2.2.2.2.2.1
theorem DX9_feed_60 : dAre cX9_feed [(60, .istore 7, 2), (62, .iload 7, 2), (64, .bipush 20, 2), (66, .if_icmp .ge 49, 3), (69, .iload_n 1, 1), (70, .iload_n 2, 1), (71, .iload_n 3, 1), (72, .iload 4, 2), (74, .iload 5, 2), (76, .iload 7, 2), (78, .invokestatic 97, 3), (81, .istore 8, 2), (83, .iload 8, 2), (85, .ifCond .eq 24, 3), (88, .aload_n 0, 1), (89, .getfield 9, 3)] := dAre0 (by decide +kernel)
theorem dX9_feed_60 : decode cX9_feed 60 = .ok (.istore 7, 2) := DX9_feed_60.1
theorem dX9_feed_62 : decode cX9_feed 62 = .ok (.iload 7, 2) := DX9_feed_60.2.1
theorem dX9_feed_64 : decode cX9_feed 64 = .ok (.bipush 20, 2) := DX9_feed_60.2.2.1
theorem dX9_feed_66 : decode cX9_feed 66 = .ok (.if_icmp .ge 49, 3) := DX9_feed_60.2.2.2.1
theorem dX9_feed_69 : decode cX9_feed 69 = .ok (.iload_n 1, 1) := DX9_feed_60.2.2.2.2.1
theorem dX9_feed_70 : decode cX9_feed 70 = .ok (.iload_n 2, 1) := DX9_feed_60.2.2.2.2.2.1
theorem dX9_feed_71 : decode cX9_feed 71 = .ok (.iload_n 3, 1) := DX9_feed_60.2.2.2.2.2.2.1
theorem dX9_feed_72 : decode cX9_feed 72 = .ok (.iload 4, 2) := DX9_feed_60.2.2.2.2.2.2.2.1
theorem dX9_feed_74 : decode cX9_feed 74 = .ok (.iload 5, 2) := DX9_feed_60.2.2.2.2.2.2.2.2.1
theorem dX9_feed_76 : decode cX9_feed 76 = .ok (.iload 7, 2) := DX9_feed_60.2.2.2.2.2.2.2.2.2.1
theorem dX9_feed_78 : decode cX9_feed 78 = .ok (.invokestatic 97, 3) := DX9_feed_60.2.2.2.2.2.2.2.2.2.2.1
theorem dX9_feed_81 : decode cX9_feed 81 = .ok (.istore 8, 2) := DX9_feed_60.2.2.2.2.2.2.2.2.2.2.2.1
theorem dX9_feed_83 : decode cX9_feed 83 = .ok (.iload 8, 2) := DX9_feed_60.2.2.2.2.2.2.2.2.2.2.2.2.1
theorem dX9_feed_85 : decode cX9_feed 85 = .ok (.ifCond .eq 24, 3) := DX9_feed_60.2.2.2.2.2.2.2.2.2.2.2.2.2.1
theorem dX9_feed_88 : decode cX9_feed 88 = .ok (.aload_n 0, 1) := DX9_feed_60.2.2.2.2.2.2.2.2.2.2.2.2.2.2.1
theorem dX9_feed_89 : decode cX9_feed 89 = .ok (.getfield 9, 3) := DX9_feed_60.2.2.2.2.2.2.2.2.2.2.2.2.2.2.2.1
theorem DX9_feed_92 : dAre cX9_feed [(92, .aload_n 0, 1), (93, .getfield 101, 3), (96, .iload 8, 2), (98, .iastore, 1), (99, .aload_n 0, 1), (100, .dup, 1), (101, .getfield 101, 3), (104, .iconst 1, 1), (105, .iadd, 1), (106, .putfield 101, 3), (109, .iinc 7 1, 3), (112, .goto (-50), 3), (115, .aload_n 0, 1), (116, .getfield 101, 3), (119, .ireturn, 1)] := dAre0 (by decide +kernel)
theorem dX9_feed_92 : decode cX9_feed 92 = .ok (.aload_n 0, 1) := DX9_feed_92.1
theorem dX9_feed_93 : decode cX9_feed 93 = .ok (.getfield 101, 3) := DX9_feed_92.2.1
theorem dX9_feed_96 : decode cX9_feed 96 = .ok (.iload 8, 2) := DX9_feed_92.2.2.1
theorem dX9_feed_98 : decode cX9_feed 98 = .ok (.iastore, 1) := DX9_feed_92.2.2.2.1
theorem dX9_feed_99 : decode cX9_feed 99 = .ok (.aload_n 0, 1) := DX9_feed_92.2.2.2.2.1
theorem dX9_feed_100 : decode cX9_feed 100 = .ok (.dup, 1) := DX9_feed_92.2.2.2.2.2.1
theorem dX9_feed_101 : decode cX9_feed 101 = .ok (.getfield 101, 3) := DX9_feed_92.2.2.2.2.2.2.1
theorem dX9_feed_104 : decode cX9_feed 104 = .ok (.iconst 1, 1) := DX9_feed_92.2.2.2.2.2.2.2.1
theorem dX9_feed_105 : decode cX9_feed 105 = .ok (.iadd, 1) := DX9_feed_92.2.2.2.2.2.2.2.2.1
theorem dX9_feed_106 : decode cX9_feed 106 = .ok (.putfield 101, 3) := DX9_feed_92.2.2.2.2.2.2.2.2.2.1
theorem dX9_feed_109 : decode cX9_feed 109 = .ok (.iinc 7 1, 3) := DX9_feed_92.2.2.2.2.2.2.2.2.2.2.1
theorem dX9_feed_112 : decode cX9_feed 112 = .ok (.goto (-50), 3) := DX9_feed_92.2.2.2.2.2.2.2.2.2.2.2.1
theorem dX9_feed_115 : decode cX9_feed 115 = .ok (.aload_n 0, 1) := DX9_feed_92.2.2.2.2.2.2.2.2.2.2.2.2.1
theorem dX9_feed_116 : decode cX9_feed 116 = .ok (.getfield 101, 3) := DX9_feed_92.2.2.2.2.2.2.2.2.2.2.2.2.2.1
theorem dX9_feed_119 : decode cX9_feed 119 = .ok (.ireturn, 1) := DX9_feed_92.2.2.2.2.2.2.2.2.2.2.2.2.2.2.1
theorem mX9_feed : gMv yX9_feed cX9_feed 9 (some .int) RX9 5 := ⟨q913, q914, q10, q915, rfl, by decide, by decide, by decide +kernel⟩
noncomputable def bX9_feed_35 (v7 : Int32) (t0 : Int32) (t1 : Int32) : Option ((Int32 × Int32) ⊕ (Int32)) :=
  some (.inl (t1 + t0, v7 + 1))
set_option maxRecDepth 100000 in
set_option maxHeartbeats 4000000 in
theorem wbX9_feed_35 {z : gZ} {E : gE} {bk : Nat} (F : Fx z sh E "LeapJoinModel" cX9_feed (gR 1) 9) (B : bZ z bk) (hE : gDist sh E) (v1 : Int32) (v2 : Int32) (v3 : Int32) (v4 : Int32) (v5 : Int32) (v7 : Int32) (t0 : Int32) (t1 : Int32) (I : gM) (J : gN) {y : (Int32 × Int32) ⊕ (Int32)} (h : bX9_feed_35 v7 t0 t1 = some y) (hl : ∀ s' : Int32 × Int32, y = .inl s' → G z 6 [(0, .ref (E.2.1 62)), (1, .int v1), (2, .int v2), (3, .int v3), (4, .int v4), (5, .int v5), (6, .int (s'.1)), (7, .int (s'.2))] [] I J) (K6_0 : ∀ x : Int32, y = .inr x → G z 44 [(0, .ref (E.2.1 62)), (1, .int v1), (2, .int v2), (3, .int v3), (4, .int v4), (5, .int v5), (6, .int x)] [] I J) : G z 35 [(0, .ref (E.2.1 62)), (1, .int v1), (2, .int v2), (3, .int v3), (4, .int v4), (5, .int v5), (7, .int v7)] [.int t0, .int t1] I J := by
  unfold bX9_feed_35 at h
  refine g_iadd (v := t1 + t0) F dX9_feed_35 rfl ?_
  refine g_istore (Ln := [(6, .int (t1 + t0)), (0, .ref (E.2.1 62)), (1, .int v1), (2, .int v2), (3, .int v3), (4, .int v4), (5, .int v5), (7, .int v7)]) F dX9_feed_36 (by decide) rfl ?_
  refine g_iinc (v := v7 + 1) (Ln := [(7, .int (v7 + 1)), (6, .int (t1 + t0)), (0, .ref (E.2.1 62)), (1, .int v1), (2, .int v2), (3, .int v3), (4, .int v4), (5, .int v5)]) F 7 dX9_feed_38 rfl (add_c (by decide)) (by decide) rfl ?_
  refine g_goto (tgt := 6) F dX9_feed_41 (by decide) ?_
  obtain rfl := Option.some.inj h
  refine g_sub (Ln := [(0, .ref (E.2.1 62)), (1, .int v1), (2, .int v2), (3, .int v3), (4, .int v4), (5, .int v5), (6, .int (t1 + t0)), (7, .int (v7 + 1))]) [2, 3, 4, 5, 6, 7, 1, 0] rfl ?_
  exact hl (t1 + t0, v7 + 1) rfl
noncomputable def lX9_feed_6 (v1 : Int32) (v2 : Int32) (v3 : Int32) (v4 : Int32) (v5 : Int32) : (Int32 × Int32) → Option (Int32) :=
  itO fun s =>
    if (20 : Int32) ≤ s.2 then
      some (.inr s.1)
    else
      (fX9_byteOf v1 v2 v3 v4 v5 s.2).bind fun r1 =>
      if r1 = 0 then
        bX9_feed_35 s.2 (0 : Int32) s.1
      else
        bX9_feed_35 s.2 (1 : Int32) s.1
set_option maxRecDepth 100000 in
set_option maxHeartbeats 4000000 in
theorem wlX9_feed_6 {z : gZ} {E : gE} {bk : Nat} (F : Fx z sh E "LeapJoinModel" cX9_feed (gR 1) 9) (B : bZ z bk) (hE : gDist sh E) (v1 : Int32) (v2 : Int32) (v3 : Int32) (v4 : Int32) (v5 : Int32) (I : gM) (J : gN) {r : Int32} : ∀ s : Int32 × Int32, lX9_feed_6 v1 v2 v3 v4 v5 s = some r → (G z 44 [(0, .ref (E.2.1 62)), (1, .int v1), (2, .int v2), (3, .int v3), (4, .int v4), (5, .int v5), (6, .int r)] [] I J) → G z 6 [(0, .ref (E.2.1 62)), (1, .int v1), (2, .int v2), (3, .int v3), (4, .int v4), (5, .int v5), (6, .int s.1), (7, .int s.2)] [] I J := by
  intro s h X0
  unfold lX9_feed_6 at h
  revert s
  refine itO_ind (P := fun s : Int32 × Int32 => G z 6 [(0, .ref (E.2.1 62)), (1, .int v1), (2, .int v2), (3, .int v3), (4, .int v4), (5, .int v5), (6, .int s.1), (7, .int s.2)] [] I J) (fun s y h hl hr => ?_)
  have K6_0 : ∀ x : Int32, y = .inr x → (G z 44 [(0, .ref (E.2.1 62)), (1, .int v1), (2, .int v2), (3, .int v3), (4, .int v4), (5, .int v5), (6, .int x)] [] I J) := fun x q => by have q2 := hr _ q; subst q2; exact X0
  refine g_iload F 7 dX9_feed_6 rfl ?_
  refine g_bipush (v := 20) F dX9_feed_8 (by decide) ?_
  refine u_icmp_ge (tgt := 44) F dX9_feed_10 (by decide) h (fun h => ?_) (fun h => ?_)
  · obtain rfl := Option.some.inj h
    refine g_sub (Ln := [(0, .ref (E.2.1 62)), (1, .int v1), (2, .int v2), (3, .int v3), (4, .int v4), (5, .int v5), (6, .int s.1)]) [0, 1, 2, 3, 4, 5, 6] rfl ?_
    exact K6_0 s.1 rfl
  · refine g_iload F 6 dX9_feed_13 rfl ?_
    refine g_iload_n F 1 dX9_feed_15 rfl rfl ?_
    refine g_iload_n F 2 dX9_feed_16 rfl rfl ?_
    refine g_iload_n F 3 dX9_feed_17 rfl rfl ?_
    refine g_iload F 4 dX9_feed_18 rfl ?_
    refine g_iload F 5 dX9_feed_20 rfl ?_
    refine g_iload F 7 dX9_feed_22 rfl ?_
    refine u_callS (As := [.int v1, .int v2, .int v3, .int v4, .int v5, .int s.2]) (rest := [.int s.1]) (sn := fun r1 => [.int r1, .int s.1]) F B (fun _ => wX9_byteOf (zl z) E hE bk v1 v2 v3 v4 v5 s.2 I J) mX9_byteOf q916 rfl rfl rfl (Nat.le_of_ble_eq_true rfl) dX9_feed_24 (fun _ => rfl) h (fun r1 h => ?_)
    refine u_if_eq (tgt := 34) F dX9_feed_27 (by decide) h (fun h => ?_) (fun h => ?_)
    · refine g_iconst (v := 0) F dX9_feed_34 (by decide) ?_
      refine g_sub (Ln := [(0, .ref (E.2.1 62)), (1, .int v1), (2, .int v2), (3, .int v3), (4, .int v4), (5, .int v5), (7, .int s.2)]) [0, 1, 2, 3, 4, 5, 7] rfl ?_
      exact wbX9_feed_35 F B hE v1 v2 v3 v4 v5 s.2 (0 : Int32) s.1 I J h hl K6_0
    · refine g_iconst (v := 1) F dX9_feed_30 (by decide) ?_
      refine g_goto (tgt := 35) F dX9_feed_31 (by decide) ?_
      refine g_sub (Ln := [(0, .ref (E.2.1 62)), (1, .int v1), (2, .int v2), (3, .int v3), (4, .int v4), (5, .int v5), (7, .int s.2)]) [0, 1, 2, 3, 4, 5, 7] rfl ?_
      exact wbX9_feed_35 F B hE v1 v2 v3 v4 v5 s.2 (1 : Int32) s.1 I J h hl K6_0
noncomputable def bX9_feed_109 (v7 : Int32) (I : gM) : Option ((Int32 × gM) ⊕ (gM)) :=
  some (.inl (v7 + 1, I))
set_option maxRecDepth 100000 in
set_option maxHeartbeats 4000000 in
theorem wbX9_feed_109 {z : gZ} {E : gE} {bk : Nat} (F : Fx z sh E "LeapJoinModel" cX9_feed (gR 1) 9) (B : bZ z bk) (hE : gDist sh E) (v1 : Int32) (v2 : Int32) (v3 : Int32) (v4 : Int32) (v5 : Int32) (v7 : Int32) (I : gM) (J : gN) {y : (Int32 × gM) ⊕ (gM)} (h : bX9_feed_109 v7 I = some y) (hl : ∀ s' : Int32 × gM, y = .inl s' → G z 62 [(0, .ref (E.2.1 62)), (1, .int v1), (2, .int v2), (3, .int v3), (4, .int v4), (5, .int v5), (7, .int (s'.1))] [] s'.2 J) (K62_0 : ∀ x : gM, y = .inr x → G z 115 [(0, .ref (E.2.1 62))] [] x J) : G z 109 [(0, .ref (E.2.1 62)), (1, .int v1), (2, .int v2), (3, .int v3), (4, .int v4), (5, .int v5), (7, .int v7)] [] I J := by
  unfold bX9_feed_109 at h
  refine g_iinc (v := v7 + 1) (Ln := [(7, .int (v7 + 1)), (0, .ref (E.2.1 62)), (1, .int v1), (2, .int v2), (3, .int v3), (4, .int v4), (5, .int v5)]) F 6 dX9_feed_109 rfl (add_c (by decide)) (by decide) rfl ?_
  refine g_goto (tgt := 62) F dX9_feed_112 (by decide) ?_
  obtain rfl := Option.some.inj h
  refine g_sub (Ln := [(0, .ref (E.2.1 62)), (1, .int v1), (2, .int v2), (3, .int v3), (4, .int v4), (5, .int v5), (7, .int (v7 + 1))]) [1, 2, 3, 4, 5, 6, 0] rfl ?_
  exact hl (v7 + 1, I) rfl
noncomputable def lX9_feed_62 (v1 : Int32) (v2 : Int32) (v3 : Int32) (v4 : Int32) (v5 : Int32) : (Int32 × gM) → Option (gM) :=
  itO fun s =>
    if (20 : Int32) ≤ s.1 then
      some (.inr s.2)
    else
      (fX9_byteOf v1 v2 v3 v4 v5 s.1).bind fun r3 =>
      if r3 = 0 then
        bX9_feed_109 s.1 s.2
      else
        (wI s.2 63 400 (s.2 62 2) r3).bind fun I4 =>
        (pU I4 62 2 ((I4 62 2) + 1)).bind fun I5 =>
        bX9_feed_109 s.1 I5
set_option maxRecDepth 100000 in
set_option maxHeartbeats 4000000 in
theorem wlX9_feed_62 {z : gZ} {E : gE} {bk : Nat} (F : Fx z sh E "LeapJoinModel" cX9_feed (gR 1) 9) (B : bZ z bk) (hE : gDist sh E) (v1 : Int32) (v2 : Int32) (v3 : Int32) (v4 : Int32) (v5 : Int32) (J : gN) {r : gM} : ∀ s : Int32 × gM, lX9_feed_62 v1 v2 v3 v4 v5 s = some r → (G z 115 [(0, .ref (E.2.1 62))] [] r J) → G z 62 [(0, .ref (E.2.1 62)), (1, .int v1), (2, .int v2), (3, .int v3), (4, .int v4), (5, .int v5), (7, .int s.1)] [] s.2 J := by
  intro s h X0
  unfold lX9_feed_62 at h
  revert s
  refine itO_ind (P := fun s : Int32 × gM => G z 62 [(0, .ref (E.2.1 62)), (1, .int v1), (2, .int v2), (3, .int v3), (4, .int v4), (5, .int v5), (7, .int s.1)] [] s.2 J) (fun s y h hl hr => ?_)
  have K62_0 : ∀ x : gM, y = .inr x → (G z 115 [(0, .ref (E.2.1 62))] [] x J) := fun x q => by have q2 := hr _ q; subst q2; exact X0
  refine g_iload F 6 dX9_feed_62 rfl ?_
  refine g_bipush (v := 20) F dX9_feed_64 (by decide) ?_
  refine u_icmp_ge (tgt := 115) F dX9_feed_66 (by decide) h (fun h => ?_) (fun h => ?_)
  · obtain rfl := Option.some.inj h
    refine g_sub (Ln := [(0, .ref (E.2.1 62))]) [0] rfl ?_
    exact K62_0 s.2 rfl
  · refine g_iload_n F 1 dX9_feed_69 rfl rfl ?_
    refine g_iload_n F 2 dX9_feed_70 rfl rfl ?_
    refine g_iload_n F 3 dX9_feed_71 rfl rfl ?_
    refine g_iload F 4 dX9_feed_72 rfl ?_
    refine g_iload F 5 dX9_feed_74 rfl ?_
    refine g_iload F 6 dX9_feed_76 rfl ?_
    refine u_callS (As := [.int v1, .int v2, .int v3, .int v4, .int v5, .int s.1]) (rest := []) (sn := fun r3 => [.int r3]) F B (fun _ => wX9_byteOf (zl z) E hE bk v1 v2 v3 v4 v5 s.1 s.2 J) mX9_byteOf q916 rfl rfl rfl (Nat.le_of_ble_eq_true rfl) dX9_feed_78 (fun _ => rfl) h (fun r3 h => ?_)
    refine g_istore (Ln := [(8, .int r3), (0, .ref (E.2.1 62)), (1, .int v1), (2, .int v2), (3, .int v3), (4, .int v4), (5, .int v5), (7, .int s.1)]) F dX9_feed_81 (by decide) rfl ?_
    refine g_iload F 0 dX9_feed_83 rfl ?_
    refine u_if_eq (tgt := 109) F dX9_feed_85 (by decide) h (fun h => ?_) (fun h => ?_)
    · refine g_sub (Ln := [(0, .ref (E.2.1 62)), (1, .int v1), (2, .int v2), (3, .int v3), (4, .int v4), (5, .int v5), (7, .int s.1)]) [1, 2, 3, 4, 5, 6, 7] rfl ?_
      exact wbX9_feed_109 F B hE v1 v2 v3 v4 v5 s.1 s.2 J h hl K62_0
    · refine g_aload_n F 1 dX9_feed_88 rfl rfl ?_
      refine g_getr (j := 1) (nn := 63) F s62 rfl rfl uX9 (by decide) q822 dX9_feed_89 ?_
      refine g_aload_n F 1 dX9_feed_92 rfl rfl ?_
      refine g_geti (j := 2) (v := s.2 62 2) F s62 rfl rfl uX9 (by decide) q823 rfl dX9_feed_93 ?_
      refine g_iload F 0 dX9_feed_96 rfl ?_
      refine u_wI F s63 (by decide) dX9_feed_98 h (fun I4 h => ?_)
      refine g_aload_n F 1 dX9_feed_99 rfl rfl ?_
      refine g_dup F dX9_feed_100 rfl ?_
      refine g_geti (j := 2) (v := I4 62 2) F s62 rfl rfl uX9 (by decide) q823 rfl dX9_feed_101 ?_
      refine g_iconst (v := 1) F dX9_feed_104 (by decide) ?_
      refine g_iadd (v := (I4 62 2) + 1) F dX9_feed_105 rfl ?_
      refine u_puti (j := 2) F s62 rfl rfl uX9 (by decide) q823 tyX9_ok nmX9 rfl rfl rfl dX9_feed_106 h (fun I5 h => ?_)
      refine g_sub (Ln := [(0, .ref (E.2.1 62)), (1, .int v1), (2, .int v2), (3, .int v3), (4, .int v4), (5, .int v5), (7, .int s.1)]) [1, 2, 3, 4, 5, 6, 7] rfl ?_
      exact wbX9_feed_109 F B hE v1 v2 v3 v4 v5 s.1 I5 J h hl K62_0
noncomputable def fX9_feed (v1 : Int32) (v2 : Int32) (v3 : Int32) (v4 : Int32) (v5 : Int32) (I : gM) : Option (Int32 × gM) :=
  (lX9_feed_6 v1 v2 v3 v4 v5 ((0 : Int32), (0 : Int32))).bind fun w2 =>
  if ((I 62 2) + w2) ≤ 400 then
    (lX9_feed_62 v1 v2 v3 v4 v5 ((0 : Int32), I)).bind fun w6 =>
    some (w6 62 2, w6)
  else
    some (((-1) : Int32), I)
set_option maxRecDepth 100000 in
set_option maxHeartbeats 4000000 in
theorem wX9_feed (l : Launch) (E : gE) (hE : gDist sh E) (bk : Nat) (v1 : Int32) (v2 : Int32) (v3 : Int32) (v4 : Int32) (v5 : Int32) (I : gM) (J : gN) {r : Int32 × gM} (h : fX9_feed v1 v2 v3 v4 v5 I = some r) : Cu l sh E bk yX9_feed cX9_feed 9 (some .int) (gR 1) [.ref (E.2.1 62), .int v1, .int v2, .int v3, .int v4, .int v5] I J (fun r1 I1 J1 => r1 = some (.int r.1) ∧ I1 = r.2 ∧ J1 = J) := by
  refine Cu.of "LeapJoinModel" rfl hE (by decide) (Nat.le_of_ble_eq_true rfl) (fun z F B e hl => ?_)
  subst hl
  unfold fX9_feed at h
  refine g_iconst (v := 0) F dX9_feed_0 (by decide) ?_
  refine g_istore (Ln := [(6, .int 0), (0, .ref (E.2.1 62)), (1, .int v1), (2, .int v2), (3, .int v3), (4, .int v4), (5, .int v5)]) F dX9_feed_1 (by decide) rfl ?_
  refine g_iconst (v := 0) F dX9_feed_3 (by decide) ?_
  refine g_istore (Ln := [(7, .int 0), (6, .int 0), (0, .ref (E.2.1 62)), (1, .int v1), (2, .int v2), (3, .int v3), (4, .int v4), (5, .int v5)]) F dX9_feed_4 (by decide) rfl ?_
  obtain ⟨w2, ew2, h⟩ := ob h
  refine g_sub (Ln := [(0, .ref (E.2.1 62)), (1, .int v1), (2, .int v2), (3, .int v3), (4, .int v4), (5, .int v5), (6, .int 0), (7, .int 0)]) [2, 3, 4, 5, 6, 7, 1, 0] rfl ?_
  refine wlX9_feed_6 F B hE v1 v2 v3 v4 v5 I J _ ew2 ?_
  refine g_aload_n F 0 dX9_feed_44 rfl rfl ?_
  refine g_geti (j := 2) (v := I 62 2) F s62 rfl rfl uX9 (by decide) q823 rfl dX9_feed_45 ?_
  refine g_iload F 6 dX9_feed_48 rfl ?_
  refine g_iadd (v := (I 62 2) + w2) F dX9_feed_50 rfl ?_
  refine g_sipush (v := 400) F dX9_feed_51 (by decide) ?_
  refine u_icmp_le (tgt := 59) F dX9_feed_54 (by decide) h (fun h => ?_) (fun h => ?_)
  · refine g_iconst (v := 0) F dX9_feed_59 (by decide) ?_
    refine g_istore (Ln := [(7, .int 0), (0, .ref (E.2.1 62)), (1, .int v1), (2, .int v2), (3, .int v3), (4, .int v4), (5, .int v5), (6, .int w2)]) F dX9_feed_60 (by decide) rfl ?_
    obtain ⟨w6, ew6, h⟩ := ob h
    refine g_sub (Ln := [(0, .ref (E.2.1 62)), (1, .int v1), (2, .int v2), (3, .int v3), (4, .int v4), (5, .int v5), (7, .int 0)]) [1, 2, 3, 4, 5, 6, 0] rfl ?_
    refine wlX9_feed_62 F B hE v1 v2 v3 v4 v5 J _ ew6 ?_
    refine g_aload_n F 0 dX9_feed_115 rfl rfl ?_
    refine g_geti (j := 2) (v := w6 62 2) F s62 rfl rfl uX9 (by decide) q823 rfl dX9_feed_116 ?_
    obtain rfl := Option.some.inj h
    exact g_iret F e dX9_feed_119 ⟨rfl, rfl, rfl⟩
  · refine g_iconst (v := (-1)) F dX9_feed_57 (by decide) ?_
    obtain rfl := Option.some.inj h
    exact g_iret F e dX9_feed_58 ⟨rfl, rfl, rfl⟩
theorem DX9_end_0 : dAre cX9_end [(0, .iload_n 1, 1), (1, .iconst 0, 1), (2, .aload_n 0, 1), (3, .getfield 101, 3), (6, .invokestatic 104, 3), (9, .ifCond .ne 5, 3), (12, .iconst 0, 1), (13, .ireturn, 1), (14, .aload_n 0, 1), (15, .iload_n 1, 1), (16, .putfield 101, 3), (19, .iconst 1, 1), (20, .ireturn, 1)] := dAre0 (by decide +kernel)
theorem dX9_end_0 : decode cX9_end 0 = .ok (.iload_n 1, 1) := DX9_end_0.1
theorem dX9_end_1 : decode cX9_end 1 = .ok (.iconst 0, 1) := DX9_end_0.2.1
theorem dX9_end_2 : decode cX9_end 2 = .ok (.aload_n 0, 1) := DX9_end_0.2.2.1
theorem dX9_end_3 : decode cX9_end 3 = .ok (.getfield 101, 3) := DX9_end_0.2.2.2.1
theorem dX9_end_6 : decode cX9_end 6 = .ok (.invokestatic 104, 3) := DX9_end_0.2.2.2.2.1
theorem dX9_end_9 : decode cX9_end 9 = .ok (.ifCond .ne 5, 3) := DX9_end_0.2.2.2.2.2.1
theorem dX9_end_12 : decode cX9_end 12 = .ok (.iconst 0, 1) := DX9_end_0.2.2.2.2.2.2.1
theorem dX9_end_13 : decode cX9_end 13 = .ok (.ireturn, 1) := DX9_end_0.2.2.2.2.2.2.2.1
theorem dX9_end_14 : decode cX9_end 14 = .ok (.aload_n 0, 1) := DX9_end_0.2.2.2.2.2.2.2.2.1
theorem dX9_end_15 : decode cX9_end 15 = .ok (.iload_n 1, 1) := DX9_end_0.2.2.2.2.2.2.2.2.2.1
theorem dX9_end_16 : decode cX9_end 16 = .ok (.putfield 101, 3) := DX9_end_0.2.2.2.2.2.2.2.2.2.2.1
theorem dX9_end_19 : decode cX9_end 19 = .ok (.iconst 1, 1) := DX9_end_0.2.2.2.2.2.2.2.2.2.2.2.1
theorem dX9_end_20 : decode cX9_end 20 = .ok (.ireturn, 1) := DX9_end_0.2.2.2.2.2.2.2.2.2.2.2.2.1
theorem mX9_end : gMv yX9_end cX9_end 2 (some .boolean) RX9 1 := ⟨q920, q921, q10, q922, rfl, by decide, by decide, by decide +kernel⟩
noncomputable def fX9_end (v1 : Int32) (I : gM) : Option (Int32 × gM) :=
  (fX9_in v1 (0 : Int32) (I 62 2)).bind fun r1 =>
  if r1 = 0 then
    some ((0 : Int32), I)
  else
    (pU I 62 2 v1).bind fun I2 =>
    some ((1 : Int32), I2)
set_option maxRecDepth 100000 in
set_option maxHeartbeats 4000000 in
theorem wX9_end (l : Launch) (E : gE) (hE : gDist sh E) (bk : Nat) (v1 : Int32) (I : gM) (J : gN) {r : Int32 × gM} (h : fX9_end v1 I = some r) : Cu l sh E bk yX9_end cX9_end 2 (some .boolean) (gR 1) [.ref (E.2.1 62), .int v1] I J (fun r1 I1 J1 => r1 = some (.int r.1) ∧ I1 = r.2 ∧ J1 = J) := by
  refine Cu.of "LeapJoinModel" rfl hE (by decide) (Nat.le_of_ble_eq_true rfl) (fun z F B e hl => ?_)
  subst hl
  unfold fX9_end at h
  refine g_iload_n F 1 dX9_end_0 rfl rfl ?_
  refine g_iconst (v := 0) F dX9_end_1 (by decide) ?_
  refine g_aload_n F 0 dX9_end_2 rfl rfl ?_
  refine g_geti (j := 2) (v := I 62 2) F s62 rfl rfl uX9 (by decide) q823 rfl dX9_end_3 ?_
  refine u_callS (As := [.int v1, .int 0, .int (I 62 2)]) (rest := []) (sn := fun r1 => [.int r1]) F B (fun _ => wX9_in (zl z) E hE bk v1 (0 : Int32) (I 62 2) I J) mX9_in q923 rfl rfl rfl (Nat.le_of_ble_eq_true rfl) dX9_end_6 (fun _ => rfl) h (fun r1 h => ?_)
  refine u_if_ne (tgt := 14) F dX9_end_9 (by decide) h (fun h => ?_) (fun h => ?_)
  · refine g_iconst (v := 0) F dX9_end_12 (by decide) ?_
    obtain rfl := Option.some.inj h
    exact g_zret F rfl e dX9_end_13 ⟨rfl, rfl, rfl⟩
  · refine g_aload_n F 0 dX9_end_14 rfl rfl ?_
    refine g_iload_n F 1 dX9_end_15 rfl rfl ?_
    refine u_puti (j := 2) F s62 rfl rfl uX9 (by decide) q823 tyX9_ok nmX9 rfl rfl rfl dX9_end_16 h (fun I2 h => ?_)
    refine g_iconst (v := 1) F dX9_end_19 (by decide) ?_
    obtain rfl := Option.some.inj h
    exact g_zret F rfl e dX9_end_20 ⟨rfl, rfl, rfl⟩
theorem DX9_here_0 : dAre cX9_here [(0, .aload_n 0, 1), (1, .getfield 108, 3), (4, .aload_n 0, 1), (5, .getfield 101, 3), (8, .if_icmp .ge 15, 3), (11, .aload_n 0, 1), (12, .getfield 9, 3), (15, .aload_n 0, 1), (16, .getfield 108, 3), (19, .iaload, 1), (20, .goto 4, 3), (23, .iconst (-1), 1), (24, .ireturn, 1)] := dAre0 (by decide +kernel)
theorem dX9_here_0 : decode cX9_here 0 = .ok (.aload_n 0, 1) := DX9_here_0.1
theorem dX9_here_1 : decode cX9_here 1 = .ok (.getfield 108, 3) := DX9_here_0.2.1
theorem dX9_here_4 : decode cX9_here 4 = .ok (.aload_n 0, 1) := DX9_here_0.2.2.1
theorem dX9_here_5 : decode cX9_here 5 = .ok (.getfield 101, 3) := DX9_here_0.2.2.2.1
theorem dX9_here_8 : decode cX9_here 8 = .ok (.if_icmp .ge 15, 3) := DX9_here_0.2.2.2.2.1
theorem dX9_here_11 : decode cX9_here 11 = .ok (.aload_n 0, 1) := DX9_here_0.2.2.2.2.2.1
theorem dX9_here_12 : decode cX9_here 12 = .ok (.getfield 9, 3) := DX9_here_0.2.2.2.2.2.2.1
theorem dX9_here_15 : decode cX9_here 15 = .ok (.aload_n 0, 1) := DX9_here_0.2.2.2.2.2.2.2.1
theorem dX9_here_16 : decode cX9_here 16 = .ok (.getfield 108, 3) := DX9_here_0.2.2.2.2.2.2.2.2.1
theorem dX9_here_19 : decode cX9_here 19 = .ok (.iaload, 1) := DX9_here_0.2.2.2.2.2.2.2.2.2.1
theorem dX9_here_20 : decode cX9_here 20 = .ok (.goto 4, 3) := DX9_here_0.2.2.2.2.2.2.2.2.2.2.1
theorem dX9_here_23 : decode cX9_here 23 = .ok (.iconst (-1), 1) := DX9_here_0.2.2.2.2.2.2.2.2.2.2.2.1
theorem dX9_here_24 : decode cX9_here 24 = .ok (.ireturn, 1) := DX9_here_0.2.2.2.2.2.2.2.2.2.2.2.2.1
theorem mX9_here : gMv yX9_here cX9_here 1 (some .int) RX9 0 := ⟨q946, q1386, q10, q947, rfl, by decide, by decide, by decide +kernel⟩
noncomputable def fX9_here (I : gM) : Option (Int32) :=
  if (I 62 2) ≤ (I 62 3) then
    some ((-1) : Int32)
  else
    (rI 400 (I 63) (I 62 3)).bind fun u1 =>
    some u1
set_option maxRecDepth 100000 in
set_option maxHeartbeats 4000000 in
theorem wX9_here (l : Launch) (E : gE) (hE : gDist sh E) (bk : Nat) (I : gM) (J : gN) {r : Int32} (h : fX9_here I = some r) : Cu l sh E bk yX9_here cX9_here 1 (some .int) (gR 0) [.ref (E.2.1 62)] I J (fun r1 I1 J1 => r1 = some (.int r) ∧ I1 = I ∧ J1 = J) := by
  refine Cu.of "LeapJoinModel" rfl hE (by decide) (Nat.le_of_ble_eq_true rfl) (fun z F B e hl => ?_)
  subst hl
  unfold fX9_here at h
  refine g_aload_n F 0 dX9_here_0 rfl rfl ?_
  refine g_geti (j := 3) (v := I 62 3) F s62 rfl rfl uX9 (by decide) q824 rfl dX9_here_1 ?_
  refine g_aload_n F 0 dX9_here_4 rfl rfl ?_
  refine g_geti (j := 2) (v := I 62 2) F s62 rfl rfl uX9 (by decide) q823 rfl dX9_here_5 ?_
  refine u_icmp_ge (tgt := 23) F dX9_here_8 (by decide) h (fun h => ?_) (fun h => ?_)
  · refine g_iconst (v := (-1)) F dX9_here_23 (by decide) ?_
    obtain rfl := Option.some.inj h
    exact g_iret F e dX9_here_24 ⟨rfl, rfl, rfl⟩
  · refine g_aload_n F 0 dX9_here_11 rfl rfl ?_
    refine g_getr (j := 1) (nn := 63) F s62 rfl rfl uX9 (by decide) q822 dX9_here_12 ?_
    refine g_aload_n F 0 dX9_here_15 rfl rfl ?_
    refine g_geti (j := 3) (v := I 62 3) F s62 rfl rfl uX9 (by decide) q824 rfl dX9_here_16 ?_
    refine u_rI F s63 (by decide) dX9_here_19 h (fun u1 h => ?_)
    refine g_goto (tgt := 24) F dX9_here_20 (by decide) ?_
    obtain rfl := Option.some.inj h
    exact g_iret F e dX9_here_24 ⟨rfl, rfl, rfl⟩
theorem DX9_ahead_0 : dAre cX9_ahead [(0, .aload_n 0, 1), (1, .invokevirtual 111, 3), (4, .bipush 32, 2), (6, .if_icmp .ne 16, 3), (9, .aload_n 0, 1), (10, .dup, 1), (11, .getfield 108, 3), (14, .iconst 1, 1), (15, .iadd, 1), (16, .putfield 108, 3), (19, .goto (-19), 3), (22, .aload_n 0, 1), (23, .invokevirtual 111, 3), (26, .ireturn, 1)] := dAre0 (by decide +kernel)
theorem dX9_ahead_0 : decode cX9_ahead 0 = .ok (.aload_n 0, 1) := DX9_ahead_0.1
theorem dX9_ahead_1 : decode cX9_ahead 1 = .ok (.invokevirtual 111, 3) := DX9_ahead_0.2.1
theorem dX9_ahead_4 : decode cX9_ahead 4 = .ok (.bipush 32, 2) := DX9_ahead_0.2.2.1
theorem dX9_ahead_6 : decode cX9_ahead 6 = .ok (.if_icmp .ne 16, 3) := DX9_ahead_0.2.2.2.1
theorem dX9_ahead_9 : decode cX9_ahead 9 = .ok (.aload_n 0, 1) := DX9_ahead_0.2.2.2.2.1
theorem dX9_ahead_10 : decode cX9_ahead 10 = .ok (.dup, 1) := DX9_ahead_0.2.2.2.2.2.1
theorem dX9_ahead_11 : decode cX9_ahead 11 = .ok (.getfield 108, 3) := DX9_ahead_0.2.2.2.2.2.2.1
theorem dX9_ahead_14 : decode cX9_ahead 14 = .ok (.iconst 1, 1) := DX9_ahead_0.2.2.2.2.2.2.2.1
theorem dX9_ahead_15 : decode cX9_ahead 15 = .ok (.iadd, 1) := DX9_ahead_0.2.2.2.2.2.2.2.2.1
theorem dX9_ahead_16 : decode cX9_ahead 16 = .ok (.putfield 108, 3) := DX9_ahead_0.2.2.2.2.2.2.2.2.2.1
theorem dX9_ahead_19 : decode cX9_ahead 19 = .ok (.goto (-19), 3) := DX9_ahead_0.2.2.2.2.2.2.2.2.2.2.1
theorem dX9_ahead_22 : decode cX9_ahead 22 = .ok (.aload_n 0, 1) := DX9_ahead_0.2.2.2.2.2.2.2.2.2.2.2.1
theorem dX9_ahead_23 : decode cX9_ahead 23 = .ok (.invokevirtual 111, 3) := DX9_ahead_0.2.2.2.2.2.2.2.2.2.2.2.2.1
theorem dX9_ahead_26 : decode cX9_ahead 26 = .ok (.ireturn, 1) := DX9_ahead_0.2.2.2.2.2.2.2.2.2.2.2.2.2.1
theorem mX9_ahead : gMv yX9_ahead cX9_ahead 1 (some .int) RX9 0 := ⟨q943, q1385, q10, q944, rfl, by decide, by decide, by decide +kernel⟩
noncomputable def lX9_ahead_0 : gM → Option (gM) :=
  itO fun s =>
    (fX9_here s).bind fun r1 =>
    if r1 = 32 then
      (pU s 62 3 ((s 62 3) + 1)).bind fun I2 =>
      some (.inl I2)
    else
      some (.inr s)
set_option maxRecDepth 100000 in
set_option maxHeartbeats 4000000 in
theorem wlX9_ahead_0 {z : gZ} {E : gE} {bk : Nat} (F : Fx z sh E "LeapJoinModel" cX9_ahead (gR 1) 1) (B : bZ z bk) (hE : gDist sh E) (J : gN) {r : gM} : ∀ s : gM, lX9_ahead_0 s = some r → (G z 22 [(0, .ref (E.2.1 62))] [] r J) → G z 0 [(0, .ref (E.2.1 62))] [] s J := by
  intro s h X0
  unfold lX9_ahead_0 at h
  revert s
  refine itO_ind (P := fun s : gM => G z 0 [(0, .ref (E.2.1 62))] [] s J) (fun s y h hl hr => ?_)
  have K0_0 : ∀ x : gM, y = .inr x → (G z 22 [(0, .ref (E.2.1 62))] [] x J) := fun x q => by have q2 := hr _ q; subst q2; exact X0
  refine g_aload_n F 0 dX9_ahead_0 rfl rfl ?_
  refine u_callV (k := 62) (As := []) (rest := []) (sn := fun r1 => [.int r1]) F B (fun _ => wX9_here (zl z) E hE bk  s J) mX9_here q945 rfl s62 rfl rfl rfl (Nat.le_of_ble_eq_true rfl) dX9_ahead_1 (fun _ => rfl) h (fun r1 h => ?_)
  refine g_bipush (v := 32) F dX9_ahead_4 (by decide) ?_
  refine u_icmp_ne (tgt := 22) F dX9_ahead_6 (by decide) h (fun h => ?_) (fun h => ?_)
  · refine g_aload_n F 0 dX9_ahead_9 rfl rfl ?_
    refine g_dup F dX9_ahead_10 rfl ?_
    refine g_geti (j := 3) (v := s 62 3) F s62 rfl rfl uX9 (by decide) q824 rfl dX9_ahead_11 ?_
    refine g_iconst (v := 1) F dX9_ahead_14 (by decide) ?_
    refine g_iadd (v := (s 62 3) + 1) F dX9_ahead_15 rfl ?_
    refine u_puti (j := 3) F s62 rfl rfl uX9 (by decide) q824 tyX9_ok nmX9 rfl rfl rfl dX9_ahead_16 h (fun I2 h => ?_)
    refine g_goto (tgt := 0) F dX9_ahead_19 (by decide) ?_
    obtain rfl := Option.some.inj h
    refine g_sub (Ln := [(0, .ref (E.2.1 62))]) [0] rfl ?_
    exact hl I2 rfl
  · obtain rfl := Option.some.inj h
    refine g_sub (Ln := [(0, .ref (E.2.1 62))]) [0] rfl ?_
    exact K0_0 s rfl
noncomputable def fX9_ahead (I : gM) : Option (Int32 × gM) :=
  (lX9_ahead_0 I).bind fun w3 =>
  (fX9_here w3).bind fun r4 =>
  some (r4, w3)
set_option maxRecDepth 100000 in
set_option maxHeartbeats 4000000 in
theorem wX9_ahead (l : Launch) (E : gE) (hE : gDist sh E) (bk : Nat) (I : gM) (J : gN) {r : Int32 × gM} (h : fX9_ahead I = some r) : Cu l sh E bk yX9_ahead cX9_ahead 1 (some .int) (gR 1) [.ref (E.2.1 62)] I J (fun r1 I1 J1 => r1 = some (.int r.1) ∧ I1 = r.2 ∧ J1 = J) := by
  refine Cu.of "LeapJoinModel" rfl hE (by decide) (Nat.le_of_ble_eq_true rfl) (fun z F B e hl => ?_)
  subst hl
  unfold fX9_ahead at h
  obtain ⟨w3, ew3, h⟩ := ob h
  refine g_sub (Ln := [(0, .ref (E.2.1 62))]) [0] rfl ?_
  refine wlX9_ahead_0 F B hE J _ ew3 ?_
  refine g_aload_n F 0 dX9_ahead_22 rfl rfl ?_
  refine u_callV (k := 62) (As := []) (rest := []) (sn := fun r4 => [.int r4]) F B (fun _ => wX9_here (zl z) E hE bk  w3 J) mX9_here q945 rfl s62 rfl rfl rfl (Nat.le_of_ble_eq_true rfl) dX9_ahead_23 (fun _ => rfl) h (fun r4 h => ?_)
  obtain rfl := Option.some.inj h
  exact g_iret F e dX9_ahead_26 ⟨rfl, rfl, rfl⟩
theorem DX9_bad_0 : dAre cX9_bad [(0, .aload_n 0, 1), (1, .aload_n 0, 1), (2, .getfield 115, 3), (5, .iconst (-1), 1), (6, .if_icmp .ne 10, 3), (9, .aload_n 0, 1), (10, .getfield 108, 3), (13, .goto 7, 3), (16, .aload_n 0, 1), (17, .getfield 115, 3), (20, .putfield 115, 3), (23, .return_, 1)] := dAre0 (by decide +kernel)
theorem dX9_bad_0 : decode cX9_bad 0 = .ok (.aload_n 0, 1) := DX9_bad_0.1
theorem dX9_bad_1 : decode cX9_bad 1 = .ok (.aload_n 0, 1) := DX9_bad_0.2.1
theorem dX9_bad_2 : decode cX9_bad 2 = .ok (.getfield 115, 3) := DX9_bad_0.2.2.1
theorem dX9_bad_5 : decode cX9_bad 5 = .ok (.iconst (-1), 1) := DX9_bad_0.2.2.2.1
theorem dX9_bad_6 : decode cX9_bad 6 = .ok (.if_icmp .ne 10, 3) := DX9_bad_0.2.2.2.2.1
theorem dX9_bad_9 : decode cX9_bad 9 = .ok (.aload_n 0, 1) := DX9_bad_0.2.2.2.2.2.1
theorem dX9_bad_10 : decode cX9_bad 10 = .ok (.getfield 108, 3) := DX9_bad_0.2.2.2.2.2.2.1
theorem dX9_bad_13 : decode cX9_bad 13 = .ok (.goto 7, 3) := DX9_bad_0.2.2.2.2.2.2.2.1
theorem dX9_bad_16 : decode cX9_bad 16 = .ok (.aload_n 0, 1) := DX9_bad_0.2.2.2.2.2.2.2.2.1
theorem dX9_bad_17 : decode cX9_bad 17 = .ok (.getfield 115, 3) := DX9_bad_0.2.2.2.2.2.2.2.2.2.1
theorem dX9_bad_20 : decode cX9_bad 20 = .ok (.putfield 115, 3) := DX9_bad_0.2.2.2.2.2.2.2.2.2.2.1
theorem dX9_bad_23 : decode cX9_bad 23 = .ok (.return_, 1) := DX9_bad_0.2.2.2.2.2.2.2.2.2.2.2.1
theorem mX9_bad : gMv yX9_bad cX9_bad 1 none RX9 0 := ⟨q952, q1388, q10, q953, rfl, by decide, by decide, by decide +kernel⟩
noncomputable def fX9_bad (I : gM) : Option (gM) :=
  if (I 62 4) = (-1) then
    (pU I 62 4 (I 62 3)).bind fun I1 =>
    some I1
  else
    (pU I 62 4 (I 62 4)).bind fun I2 =>
    some I2
set_option maxRecDepth 100000 in
set_option maxHeartbeats 4000000 in
theorem wX9_bad (l : Launch) (E : gE) (hE : gDist sh E) (bk : Nat) (I : gM) (J : gN) {r : gM} (h : fX9_bad I = some r) : Cu l sh E bk yX9_bad cX9_bad 1 none (gR 0) [.ref (E.2.1 62)] I J (fun r1 I1 J1 => r1 = none ∧ I1 = r ∧ J1 = J) := by
  refine Cu.of "LeapJoinModel" rfl hE (by decide) (Nat.le_of_ble_eq_true rfl) (fun z F B e hl => ?_)
  subst hl
  unfold fX9_bad at h
  refine g_aload_n F 0 dX9_bad_0 rfl rfl ?_
  refine g_aload_n F 0 dX9_bad_1 rfl rfl ?_
  refine g_geti (j := 4) (v := I 62 4) F s62 rfl rfl uX9 (by decide) q825 rfl dX9_bad_2 ?_
  refine g_iconst (v := (-1)) F dX9_bad_5 (by decide) ?_
  refine u_icmp_ne (tgt := 16) F dX9_bad_6 (by decide) h (fun h => ?_) (fun h => ?_)
  · refine g_aload_n F 0 dX9_bad_9 rfl rfl ?_
    refine g_geti (j := 3) (v := I 62 3) F s62 rfl rfl uX9 (by decide) q824 rfl dX9_bad_10 ?_
    refine g_goto (tgt := 20) F dX9_bad_13 (by decide) ?_
    refine u_puti (j := 4) F s62 rfl rfl uX9 (by decide) q825 tyX9_ok nmX9 rfl rfl rfl dX9_bad_20 h (fun I1 h => ?_)
    obtain rfl := Option.some.inj h
    exact g_vret F e dX9_bad_23 ⟨rfl, rfl, rfl⟩
  · refine g_aload_n F 0 dX9_bad_16 rfl rfl ?_
    refine g_geti (j := 4) (v := I 62 4) F s62 rfl rfl uX9 (by decide) q825 rfl dX9_bad_17 ?_
    refine u_puti (j := 4) F s62 rfl rfl uX9 (by decide) q825 tyX9_ok nmX9 rfl rfl rfl dX9_bad_20 h (fun I2 h => ?_)
    obtain rfl := Option.some.inj h
    exact g_vret F e dX9_bad_23 ⟨rfl, rfl, rfl⟩
theorem DX9_must_0 : dAre cX9_must [(0, .aload_n 0, 1), (1, .getfield 115, 3), (4, .iconst (-1), 1), (5, .if_icmp .ne 24, 3), (8, .aload_n 0, 1), (9, .invokevirtual 118, 3), (12, .iload_n 1, 1), (13, .if_icmp .ne 16, 3), (16, .aload_n 0, 1), (17, .dup, 1), (18, .getfield 108, 3), (21, .iconst 1, 1), (22, .iadd, 1), (23, .putfield 108, 3), (26, .goto 7, 3), (29, .aload_n 0, 1)] := dAre0 (by decide +kernel)
theorem dX9_must_0 : decode cX9_must 0 = .ok (.aload_n 0, 1) := DX9_must_0.1
theorem dX9_must_1 : decode cX9_must 1 = .ok (.getfield 115, 3) := DX9_must_0.2.1
theorem dX9_must_4 : decode cX9_must 4 = .ok (.iconst (-1), 1) := DX9_must_0.2.2.1
theorem dX9_must_5 : decode cX9_must 5 = .ok (.if_icmp .ne 24, 3) := DX9_must_0.2.2.2.1
theorem dX9_must_8 : decode cX9_must 8 = .ok (.aload_n 0, 1) := DX9_must_0.2.2.2.2.1
theorem dX9_must_9 : decode cX9_must 9 = .ok (.invokevirtual 118, 3) := DX9_must_0.2.2.2.2.2.1
theorem dX9_must_12 : decode cX9_must 12 = .ok (.iload_n 1, 1) := DX9_must_0.2.2.2.2.2.2.1
theorem dX9_must_13 : decode cX9_must 13 = .ok (.if_icmp .ne 16, 3) := DX9_must_0.2.2.2.2.2.2.2.1
theorem dX9_must_16 : decode cX9_must 16 = .ok (.aload_n 0, 1) := DX9_must_0.2.2.2.2.2.2.2.2.1
theorem dX9_must_17 : decode cX9_must 17 = .ok (.dup, 1) := DX9_must_0.2.2.2.2.2.2.2.2.2.1
theorem dX9_must_18 : decode cX9_must 18 = .ok (.getfield 108, 3) := DX9_must_0.2.2.2.2.2.2.2.2.2.2.1
theorem dX9_must_21 : decode cX9_must 21 = .ok (.iconst 1, 1) := DX9_must_0.2.2.2.2.2.2.2.2.2.2.2.1
theorem dX9_must_22 : decode cX9_must 22 = .ok (.iadd, 1) := DX9_must_0.2.2.2.2.2.2.2.2.2.2.2.2.1
theorem dX9_must_23 : decode cX9_must 23 = .ok (.putfield 108, 3) := DX9_must_0.2.2.2.2.2.2.2.2.2.2.2.2.2.1
theorem dX9_must_26 : decode cX9_must 26 = .ok (.goto 7, 3) := DX9_must_0.2.2.2.2.2.2.2.2.2.2.2.2.2.2.1
theorem dX9_must_29 : decode cX9_must 29 = .ok (.aload_n 0, 1) := DX9_must_0.2.2.2.2.2.2.2.2.2.2.2.2.2.2.2.1
theorem dX9_must_30 : decode cX9_must 30 = .ok (.invokevirtual 121, 3) := by decide +kernel
theorem dX9_must_33 : decode cX9_must 33 = .ok (.return_, 1) := by decide +kernel
theorem mX9_must : gMv yX9_must cX9_must 2 none RX9 1 := ⟨q958, q1389, q10, q959, rfl, by decide, by decide, by decide +kernel⟩
noncomputable def bX9_must_29 (I : gM) : Option (gM) :=
  (fX9_bad I).bind fun r3 =>
  some r3
set_option maxRecDepth 100000 in
set_option maxHeartbeats 4000000 in
theorem wbX9_must_29 {z : gZ} {E : gE} {bk : Nat} (F : Fx z sh E "LeapJoinModel" cX9_must (gR 2) 2) (B : bZ z bk) (hE : gDist sh E) (I : gM) (J : gN) {y : gM} (h : bX9_must_29 I = some y) (e : Fe z sh E none (fun r1 I1 J1 => r1 = none ∧ I1 = y ∧ J1 = J)) : G z 29 [(0, .ref (E.2.1 62))] [] I J := by
  unfold bX9_must_29 at h
  refine g_aload_n F 0 dX9_must_29 rfl rfl ?_
  refine u_callV (k := 62) (As := []) (rest := []) (sn := fun _ => []) F B (fun _ => wX9_bad (zl z) E hE bk  I J) mX9_bad q951 rfl s62 rfl rfl rfl (Nat.le_of_ble_eq_true rfl) dX9_must_30 (fun _ => rfl) h (fun r3 h => ?_)
  obtain rfl := Option.some.inj h
  exact g_vret F e dX9_must_33 ⟨rfl, rfl, rfl⟩
noncomputable def fX9_must (v1 : Int32) (I : gM) : Option (gM) :=
  if (I 62 4) = (-1) then
    (fX9_ahead I).bind fun r1 =>
    if r1.1 = v1 then
      (pU r1.2 62 3 ((r1.2 62 3) + 1)).bind fun I2 =>
      some I2
    else
      bX9_must_29 r1.2
  else
    bX9_must_29 I
set_option maxRecDepth 100000 in
set_option maxHeartbeats 4000000 in
theorem wX9_must (l : Launch) (E : gE) (hE : gDist sh E) (bk : Nat) (v1 : Int32) (I : gM) (J : gN) {r : gM} (h : fX9_must v1 I = some r) : Cu l sh E bk yX9_must cX9_must 2 none (gR 2) [.ref (E.2.1 62), .int v1] I J (fun r1 I1 J1 => r1 = none ∧ I1 = r ∧ J1 = J) := by
  refine Cu.of "LeapJoinModel" rfl hE (by decide) (Nat.le_of_ble_eq_true rfl) (fun z F B e hl => ?_)
  subst hl
  unfold fX9_must at h
  refine g_aload_n F 0 dX9_must_0 rfl rfl ?_
  refine g_geti (j := 4) (v := I 62 4) F s62 rfl rfl uX9 (by decide) q825 rfl dX9_must_1 ?_
  refine g_iconst (v := (-1)) F dX9_must_4 (by decide) ?_
  refine u_icmp_ne (tgt := 29) F dX9_must_5 (by decide) h (fun h => ?_) (fun h => ?_)
  · refine g_aload_n F 0 dX9_must_8 rfl rfl ?_
    refine u_callV (k := 62) (As := []) (rest := []) (sn := fun r1 => [.int r1.1]) F B (fun _ => wX9_ahead (zl z) E hE bk  I J) mX9_ahead q942 rfl s62 rfl rfl rfl (Nat.le_of_ble_eq_true rfl) dX9_must_9 (fun _ => rfl) h (fun r1 h => ?_)
    refine g_iload_n F 1 dX9_must_12 rfl rfl ?_
    refine u_icmp_ne (tgt := 29) F dX9_must_13 (by decide) h (fun h => ?_) (fun h => ?_)
    · refine g_aload_n F 0 dX9_must_16 rfl rfl ?_
      refine g_dup F dX9_must_17 rfl ?_
      refine g_geti (j := 3) (v := r1.2 62 3) F s62 rfl rfl uX9 (by decide) q824 rfl dX9_must_18 ?_
      refine g_iconst (v := 1) F dX9_must_21 (by decide) ?_
      refine g_iadd (v := (r1.2 62 3) + 1) F dX9_must_22 rfl ?_
      refine u_puti (j := 3) F s62 rfl rfl uX9 (by decide) q824 tyX9_ok nmX9 rfl rfl rfl dX9_must_23 h (fun I2 h => ?_)
      refine g_goto (tgt := 33) F dX9_must_26 (by decide) ?_
      obtain rfl := Option.some.inj h
      exact g_vret F e dX9_must_33 ⟨rfl, rfl, rfl⟩
    · refine g_sub (Ln := [(0, .ref (E.2.1 62))]) [0] rfl ?_
      exact wbX9_must_29 F B hE r1.2 J h e
  · refine g_sub (Ln := [(0, .ref (E.2.1 62))]) [0] rfl ?_
    exact wbX9_must_29 F B hE I J h e
