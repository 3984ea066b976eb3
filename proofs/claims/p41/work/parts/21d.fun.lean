theorem DX6_isDigit_0 : dAre cX6_isDigit [(0, .iload_n 0, 1), (1, .bipush 48, 2), (3, .if_icmp .lt 13, 3), (6, .iload_n 0, 1), (7, .bipush 57, 2), (9, .if_icmp .gt 7, 3), (12, .iconst 1, 1), (13, .goto 4, 3), (16, .iconst 0, 1), (17, .ireturn, 1)] := dAre0 (by decide +kernel)
theorem dX6_isDigit_0 : decode cX6_isDigit 0 = .ok (.iload_n 0, 1) := DX6_isDigit_0.1
theorem dX6_isDigit_1 : decode cX6_isDigit 1 = .ok (.bipush 48, 2) := DX6_isDigit_0.2.1
theorem dX6_isDigit_3 : decode cX6_isDigit 3 = .ok (.if_icmp .lt 13, 3) := DX6_isDigit_0.2.2.1
theorem dX6_isDigit_6 : decode cX6_isDigit 6 = .ok (.iload_n 0, 1) := DX6_isDigit_0.2.2.2.1
theorem dX6_isDigit_7 : decode cX6_isDigit 7 = .ok (.bipush 57, 2) := DX6_isDigit_0.2.2.2.2.1
theorem dX6_isDigit_9 : decode cX6_isDigit 9 = .ok (.if_icmp .gt 7, 3) := DX6_isDigit_0.2.2.2.2.2.1
theorem dX6_isDigit_12 : decode cX6_isDigit 12 = .ok (.iconst 1, 1) := DX6_isDigit_0.2.2.2.2.2.2.1
theorem dX6_isDigit_13 : decode cX6_isDigit 13 = .ok (.goto 4, 3) := DX6_isDigit_0.2.2.2.2.2.2.2.1
theorem dX6_isDigit_16 : decode cX6_isDigit 16 = .ok (.iconst 0, 1) := DX6_isDigit_0.2.2.2.2.2.2.2.2.1
theorem dX6_isDigit_17 : decode cX6_isDigit 17 = .ok (.ireturn, 1) := DX6_isDigit_0.2.2.2.2.2.2.2.2.2.1
theorem mX6_isDigit : gMs yX6_isDigit cX6_isDigit 1 (some .boolean) 1 := ⟨q256, q2, q257, by decide, by decide, by decide +kernel⟩
noncomputable def fX6_isDigit (v0 : Int32) : Option (Int32) :=
  if v0 < 48 then
    some (0 : Int32)
  else
    if (57 : Int32) < v0 then
      some (0 : Int32)
    else
      some (1 : Int32)
set_option maxRecDepth 100000 in
set_option maxHeartbeats 4000000 in
theorem wX6_isDigit (l : Launch) (E : gE) (hE : gDist sh E) (bk : Nat) (v0 : Int32) (I : gM) (J : gN) {r : Int32} (h : fX6_isDigit v0 = some r) : Cu l sh E bk yX6_isDigit cX6_isDigit 1 (some .boolean) (gR 0) [.int v0] I J (fun r1 I1 J1 => r1 = some (.int r) ∧ I1 = I ∧ J1 = J) := by
  refine Cu.of "LeapJoin$Tape" rfl hE (by decide) (Nat.le_of_ble_eq_true rfl) (fun z F B e hl => ?_)
  subst hl
  unfold fX6_isDigit at h
  refine g_iload_n F 0 dX6_isDigit_0 rfl rfl ?_
  refine g_bipush (v := 48) F dX6_isDigit_1 (by decide) ?_
  refine u_icmp_lt (tgt := 16) F dX6_isDigit_3 (by decide) h (fun h => ?_) (fun h => ?_)
  · refine g_iconst (v := 0) F dX6_isDigit_16 (by decide) ?_
    obtain rfl := Option.some.inj h
    exact g_zret F rfl e dX6_isDigit_17 ⟨rfl, rfl, rfl⟩
  · refine g_iload_n F 0 dX6_isDigit_6 rfl rfl ?_
    refine g_bipush (v := 57) F dX6_isDigit_7 (by decide) ?_
    refine u_icmp_gt (tgt := 16) F dX6_isDigit_9 (by decide) h (fun h => ?_) (fun h => ?_)
    · refine g_iconst (v := 0) F dX6_isDigit_16 (by decide) ?_
      obtain rfl := Option.some.inj h
      exact g_zret F rfl e dX6_isDigit_17 ⟨rfl, rfl, rfl⟩
    · refine g_iconst (v := 1) F dX6_isDigit_12 (by decide) ?_
      refine g_goto (tgt := 17) F dX6_isDigit_13 (by decide) ?_
      obtain rfl := Option.some.inj h
      exact g_zret F rfl e dX6_isDigit_17 ⟨rfl, rfl, rfl⟩
theorem DX6_number_0 : dAre cX6_number [(0, .aload_n 0, 1), (1, .invokevirtual 31, 3), (4, .istore_n 1, 1), (5, .iload_n 1, 1), (6, .invokestatic 56, 3), (9, .ifCond .ne 5, 3), (12, .iconst (-1), 1), (13, .ireturn, 1), (14, .iload_n 1, 1), (15, .bipush 48, 2), (17, .isub, 1), (18, .istore_n 2, 1), (19, .aload_n 0, 1), (20, .dup, 1), (21, .getfield 19, 3), (24, .iconst 1, 1)] := dAre0 (by decide +kernel)
theorem dX6_number_0 : decode cX6_number 0 = .ok (.aload_n 0, 1) := DX6_number_0.1
theorem dX6_number_1 : decode cX6_number 1 = .ok (.invokevirtual 31, 3) := DX6_number_0.2.1
theorem dX6_number_4 : decode cX6_number 4 = .ok (.istore_n 1, 1) := DX6_number_0.2.2.1
theorem dX6_number_5 : decode cX6_number 5 = .ok (.iload_n 1, 1) := DX6_number_0.2.2.2.1
theorem dX6_number_6 : decode cX6_number 6 = .ok (.invokestatic 56, 3) := DX6_number_0.2.2.2.2.1
theorem dX6_number_9 : decode cX6_number 9 = .ok (.ifCond .ne 5, 3) := DX6_number_0.2.2.2.2.2.1
theorem dX6_number_12 : decode cX6_number 12 = .ok (.iconst (-1), 1) := DX6_number_0.2.2.2.2.2.2.1
theorem dX6_number_13 : decode cX6_number 13 = .ok (.ireturn, 1) := DX6_number_0.2.2.2.2.2.2.2.1
theorem dX6_number_14 : decode cX6_number 14 = .ok (.iload_n 1, 1) := DX6_number_0.2.2.2.2.2.2.2.2.1
theorem dX6_number_15 : decode cX6_number 15 = .ok (.bipush 48, 2) := DX6_number_0.2.2.2.2.2.2.2.2.2.1
theorem dX6_number_17 : decode cX6_number 17 = .ok (.isub, 1) := DX6_number_0.2.2.2.2.2.2.2.2.2.2.1
theorem dX6_number_18 : decode cX6_number 18 = .ok (.istore_n 2, 1) := DX6_number_0.2.2.2.2.2.2.2.2.2.2.2.1
theorem dX6_number_19 : decode cX6_number 19 = .ok (.aload_n 0, 1) := DX6_number_0.2.2.2.2.2.2.2.2.2.2.2.2.1
theorem dX6_number_20 : decode cX6_number 20 = .ok (.dup, 1) := DX6_number_0.2.2.2.2.2.2.2.2.2.2.2.2.2.1
theorem dX6_number_21 : decode cX6_number 21 = .ok (.getfield 19, 3) := DX6_number_0.2.2.2.2.2.2.2.2.2.2.2.2.2.2.1
theorem dX6_number_24 : decode cX6_number 24 = .ok (.iconst 1, 1) := DX6_number_0.2.2.2.2.2.2.2.2.2.2.2.2.2.2.2.1
theorem DX6_number_25 : dAre cX6_number [(25, .iadd, 1), (26, .putfield 19, 3), (29, .aload_n 0, 1), (30, .getfield 19, 3), (33, .aload_n 0, 1), (34, .getfield 9, 3), (37, .if_icmp .ge 56, 3), (40, .aload_n 0, 1), (41, .getfield 19, 3), (44, .sipush 400, 3), (47, .if_icmp .ge 46, 3), (50, .aload_n 0, 1), (51, .getfield 15, 3), (54, .aload_n 0, 1), (55, .getfield 19, 3), (58, .baload, 1)] := dAre0 (by decide +kernel)
theorem dX6_number_25 : decode cX6_number 25 = .ok (.iadd, 1) := DX6_number_25.1
theorem dX6_number_26 : decode cX6_number 26 = .ok (.putfield 19, 3) := DX6_number_25.2.1
theorem dX6_number_29 : decode cX6_number 29 = .ok (.aload_n 0, 1) := DX6_number_25.2.2.1
theorem dX6_number_30 : decode cX6_number 30 = .ok (.getfield 19, 3) := DX6_number_25.2.2.2.1
theorem dX6_number_33 : decode cX6_number 33 = .ok (.aload_n 0, 1) := DX6_number_25.2.2.2.2.1
theorem dX6_number_34 : decode cX6_number 34 = .ok (.getfield 9, 3) := DX6_number_25.2.2.2.2.2.1
theorem dX6_number_37 : decode cX6_number 37 = .ok (.if_icmp .ge 56, 3) := DX6_number_25.2.2.2.2.2.2.1
theorem dX6_number_40 : decode cX6_number 40 = .ok (.aload_n 0, 1) := DX6_number_25.2.2.2.2.2.2.2.1
theorem dX6_number_41 : decode cX6_number 41 = .ok (.getfield 19, 3) := DX6_number_25.2.2.2.2.2.2.2.2.1
theorem dX6_number_44 : decode cX6_number 44 = .ok (.sipush 400, 3) := DX6_number_25.2.2.2.2.2.2.2.2.2.1
theorem dX6_number_47 : decode cX6_number 47 = .ok (.if_icmp .ge 46, 3) := DX6_number_25.2.2.2.2.2.2.2.2.2.2.1
theorem dX6_number_50 : decode cX6_number 50 = .ok (.aload_n 0, 1) := DX6_number_25.2.2.2.2.2.2.2.2.2.2.2.1
theorem dX6_number_51 : decode cX6_number 51 = .ok (.getfield 15, 3) := DX6_number_25.2.2.2.2.2.2.2.2.2.2.2.2.1
theorem dX6_number_54 : decode cX6_number 54 = .ok (.aload_n 0, 1) := DX6_number_25.2.2.2.2.2.2.2.2.2.2.2.2.2.1
theorem dX6_number_55 : decode cX6_number 55 = .ok (.getfield 19, 3) := DX6_number_25.2.2.2.2.2.2.2.2.2.2.2.2.2.2.1
theorem dX6_number_58 : decode cX6_number 58 = .ok (.baload, 1) := DX6_number_25.2.2.2.2.2.2.2.2.2.2.2.2.2.2.2.1
theorem DX6_number_59 : dAre cX6_number [(59, .invokestatic 56, 3), (62, .ifCond .eq 31, 3), (65, .iload_n 2, 1), (66, .bipush 10, 2), (68, .imul, 1), (69, .aload_n 0, 1), (70, .getfield 15, 3), (73, .aload_n 0, 1), (74, .getfield 19, 3), (77, .baload, 1), (78, .iadd, 1), (79, .bipush 48, 2), (81, .isub, 1), (82, .istore_n 2, 1), (83, .aload_n 0, 1), (84, .dup, 1)] := dAre0 (by decide +kernel)
theorem dX6_number_59 : decode cX6_number 59 = .ok (.invokestatic 56, 3) := DX6_number_59.1
theorem dX6_number_62 : decode cX6_number 62 = .ok (.ifCond .eq 31, 3) := DX6_number_59.2.1
theorem dX6_number_65 : decode cX6_number 65 = .ok (.iload_n 2, 1) := DX6_number_59.2.2.1
theorem dX6_number_66 : decode cX6_number 66 = .ok (.bipush 10, 2) := DX6_number_59.2.2.2.1
theorem dX6_number_68 : decode cX6_number 68 = .ok (.imul, 1) := DX6_number_59.2.2.2.2.1
theorem dX6_number_69 : decode cX6_number 69 = .ok (.aload_n 0, 1) := DX6_number_59.2.2.2.2.2.1
theorem dX6_number_70 : decode cX6_number 70 = .ok (.getfield 15, 3) := DX6_number_59.2.2.2.2.2.2.1
theorem dX6_number_73 : decode cX6_number 73 = .ok (.aload_n 0, 1) := DX6_number_59.2.2.2.2.2.2.2.1
theorem dX6_number_74 : decode cX6_number 74 = .ok (.getfield 19, 3) := DX6_number_59.2.2.2.2.2.2.2.2.1
theorem dX6_number_77 : decode cX6_number 77 = .ok (.baload, 1) := DX6_number_59.2.2.2.2.2.2.2.2.2.1
theorem dX6_number_78 : decode cX6_number 78 = .ok (.iadd, 1) := DX6_number_59.2.2.2.2.2.2.2.2.2.2.1
theorem dX6_number_79 : decode cX6_number 79 = .ok (.bipush 48, 2) := DX6_number_59.2.2.2.2.2.2.2.2.2.2.2.1
theorem dX6_number_81 : decode cX6_number 81 = .ok (.isub, 1) := DX6_number_59.2.2.2.2.2.2.2.2.2.2.2.2.1
theorem dX6_number_82 : decode cX6_number 82 = .ok (.istore_n 2, 1) := DX6_number_59.2.2.2.2.2.2.2.2.2.2.2.2.2.1
theorem dX6_number_83 : decode cX6_number 83 = .ok (.aload_n 0, 1) := DX6_number_59.2.2.2.2.2.2.2.2.2.2.2.2.2.2.1
theorem dX6_number_84 : decode cX6_number 84 = .ok (.dup, 1) := DX6_number_59.2.2.2.2.2.2.2.2.2.2.2.2.2.2.2.1
theorem DX6_number_85 : dAre cX6_number [(85, .getfield 19, 3), (88, .iconst 1, 1), (89, .iadd, 1), (90, .putfield 19, 3), (93, .iload_n 2, 1), (94, .ireturn, 1)] := dAre0 (by decide +kernel)
theorem dX6_number_85 : decode cX6_number 85 = .ok (.getfield 19, 3) := DX6_number_85.1
theorem dX6_number_88 : decode cX6_number 88 = .ok (.iconst 1, 1) := DX6_number_85.2.1
theorem dX6_number_89 : decode cX6_number 89 = .ok (.iadd, 1) := DX6_number_85.2.2.1
theorem dX6_number_90 : decode cX6_number 90 = .ok (.putfield 19, 3) := DX6_number_85.2.2.2.1
theorem dX6_number_93 : decode cX6_number 93 = .ok (.iload_n 2, 1) := DX6_number_85.2.2.2.2.1
theorem dX6_number_94 : decode cX6_number 94 = .ok (.ireturn, 1) := DX6_number_85.2.2.2.2.2.1
theorem mX6_number : gMv yX6_number cX6_number 3 (some .int) RX6 0 := ⟨q262, q1350, q2, q263, rfl, by decide, by decide, by decide +kernel⟩
noncomputable def fX6_number (I : gM) : Option (Int32 × gM) :=
  (fX6_peek I).bind fun r1 =>
  (fX6_isDigit r1.1).bind fun r2 =>
  if r2 = 0 then
    some (((-1) : Int32), r1.2)
  else
    (pU r1.2 1 2 ((r1.2 1 2) + 1)).bind fun I3 =>
    if (I3 1 0) ≤ (I3 1 2) then
      some (r1.1 - 48, I3)
    else
      if (400 : Int32) ≤ (I3 1 2) then
        some (r1.1 - 48, I3)
      else
        (rI 400 (I3 2) (I3 1 2)).bind fun u4 =>
        (fX6_isDigit u4).bind fun r5 =>
        if r5 = 0 then
          some (r1.1 - 48, I3)
        else
          (rI 400 (I3 2) (I3 1 2)).bind fun u6 =>
          (pU I3 1 2 ((I3 1 2) + 1)).bind fun I7 =>
          some ((((r1.1 - 48) * 10) + u6) - 48, I7)
set_option maxRecDepth 100000 in
set_option maxHeartbeats 4000000 in
theorem wX6_number (l : Launch) (E : gE) (hE : gDist sh E) (bk : Nat) (I : gM) (J : gN) {r : Int32 × gM} (h : fX6_number I = some r) : Cu l sh E bk yX6_number cX6_number 3 (some .int) (gR 1) [.ref (E.2.1 1)] I J (fun r1 I1 J1 => r1 = some (.int r.1) ∧ I1 = r.2 ∧ J1 = J) := by
  refine Cu.of "LeapJoin$Tape" rfl hE (by decide) (Nat.le_of_ble_eq_true rfl) (fun z F B e hl => ?_)
  subst hl
  unfold fX6_number at h
  refine g_aload_n F 0 dX6_number_0 rfl rfl ?_
  refine u_callV (k := 1) (As := []) (rest := []) (sn := fun r1 => [.int r1.1]) F B (fun _ => wX6_peek (zl z) E hE bk  I J) mX6_peek q240 rfl s1 rfl rfl rfl (Nat.le_of_ble_eq_true rfl) dX6_number_1 (fun _ => rfl) h (fun r1 h => ?_)
  refine g_istore_n (Ln := [(1, .int r1.1), (0, .ref (E.2.1 1))]) F dX6_number_4 rfl (by decide) rfl ?_
  refine g_iload_n F 0 dX6_number_5 rfl rfl ?_
  refine u_callS (As := [.int r1.1]) (rest := []) (sn := fun r2 => [.int r2]) F B (fun _ => wX6_isDigit (zl z) E hE bk r1.1 r1.2 J) mX6_isDigit q255 rfl rfl rfl (Nat.le_of_ble_eq_true rfl) dX6_number_6 (fun _ => rfl) h (fun r2 h => ?_)
  refine u_if_ne (tgt := 14) F dX6_number_9 (by decide) h (fun h => ?_) (fun h => ?_)
  · refine g_iconst (v := (-1)) F dX6_number_12 (by decide) ?_
    obtain rfl := Option.some.inj h
    exact g_iret F e dX6_number_13 ⟨rfl, rfl, rfl⟩
  · refine g_iload_n F 0 dX6_number_14 rfl rfl ?_
    refine g_bipush (v := 48) F dX6_number_15 (by decide) ?_
    refine g_isub (v := r1.1 - 48) F dX6_number_17 rfl ?_
    refine g_istore_n (Ln := [(2, .int (r1.1 - 48)), (1, .int r1.1), (0, .ref (E.2.1 1))]) F dX6_number_18 rfl (by decide) rfl ?_
    refine g_aload_n F 2 dX6_number_19 rfl rfl ?_
    refine g_dup F dX6_number_20 rfl ?_
    refine g_geti (j := 2) (v := r1.2 1 2) F s1 rfl rfl uX6 (by decide) q38 rfl dX6_number_21 ?_
    refine g_iconst (v := 1) F dX6_number_24 (by decide) ?_
    refine g_iadd (v := (r1.2 1 2) + 1) F dX6_number_25 rfl ?_
    refine u_puti (j := 2) F s1 rfl rfl uX6 (by decide) q38 tyX6_ok nmX6 rfl rfl rfl dX6_number_26 h (fun I3 h => ?_)
    refine g_aload_n F 2 dX6_number_29 rfl rfl ?_
    refine g_geti (j := 2) (v := I3 1 2) F s1 rfl rfl uX6 (by decide) q38 rfl dX6_number_30 ?_
    refine g_aload_n F 2 dX6_number_33 rfl rfl ?_
    refine g_geti (j := 0) (v := I3 1 0) F s1 rfl rfl uX6 (by decide) q35 rfl dX6_number_34 ?_
    refine u_icmp_ge (tgt := 93) F dX6_number_37 (by decide) h (fun h => ?_) (fun h => ?_)
    · refine g_iload_n F 0 dX6_number_93 rfl rfl ?_
      obtain rfl := Option.some.inj h
      exact g_iret F e dX6_number_94 ⟨rfl, rfl, rfl⟩
    · refine g_aload_n F 2 dX6_number_40 rfl rfl ?_
      refine g_geti (j := 2) (v := I3 1 2) F s1 rfl rfl uX6 (by decide) q38 rfl dX6_number_41 ?_
      refine g_sipush (v := 400) F dX6_number_44 (by decide) ?_
      refine u_icmp_ge (tgt := 93) F dX6_number_47 (by decide) h (fun h => ?_) (fun h => ?_)
      · refine g_iload_n F 0 dX6_number_93 rfl rfl ?_
        obtain rfl := Option.some.inj h
        exact g_iret F e dX6_number_94 ⟨rfl, rfl, rfl⟩
      · refine g_aload_n F 2 dX6_number_50 rfl rfl ?_
        refine g_getr (j := 1) (nn := 2) F s1 rfl rfl uX6 (by decide) q37 dX6_number_51 ?_
        refine g_aload_n F 2 dX6_number_54 rfl rfl ?_
        refine g_geti (j := 2) (v := I3 1 2) F s1 rfl rfl uX6 (by decide) q38 rfl dX6_number_55 ?_
        refine u_rB F s2 (by decide) dX6_number_58 h (fun u4 h => ?_)
        refine u_callS (As := [.int u4]) (rest := []) (sn := fun r5 => [.int r5]) F B (fun _ => wX6_isDigit (zl z) E hE bk u4 I3 J) mX6_isDigit q255 rfl rfl rfl (Nat.le_of_ble_eq_true rfl) dX6_number_59 (fun _ => rfl) h (fun r5 h => ?_)
        refine u_if_eq (tgt := 93) F dX6_number_62 (by decide) h (fun h => ?_) (fun h => ?_)
        · refine g_iload_n F 0 dX6_number_93 rfl rfl ?_
          obtain rfl := Option.some.inj h
          exact g_iret F e dX6_number_94 ⟨rfl, rfl, rfl⟩
        · refine g_iload_n F 0 dX6_number_65 rfl rfl ?_
          refine g_bipush (v := 10) F dX6_number_66 (by decide) ?_
          refine g_imul (v := (r1.1 - 48) * 10) F dX6_number_68 rfl ?_
          refine g_aload_n F 2 dX6_number_69 rfl rfl ?_
          refine g_getr (j := 1) (nn := 2) F s1 rfl rfl uX6 (by decide) q37 dX6_number_70 ?_
          refine g_aload_n F 2 dX6_number_73 rfl rfl ?_
          refine g_geti (j := 2) (v := I3 1 2) F s1 rfl rfl uX6 (by decide) q38 rfl dX6_number_74 ?_
          refine u_rB F s2 (by decide) dX6_number_77 h (fun u6 h => ?_)
          refine g_iadd (v := ((r1.1 - 48) * 10) + u6) F dX6_number_78 rfl ?_
          refine g_bipush (v := 48) F dX6_number_79 (by decide) ?_
          refine g_isub (v := (((r1.1 - 48) * 10) + u6) - 48) F dX6_number_81 rfl ?_
          refine g_istore_n (Ln := [(2, .int ((((r1.1 - 48) * 10) + u6) - 48)), (1, .int r1.1), (0, .ref (E.2.1 1))]) F dX6_number_82 rfl (by decide) rfl ?_
          refine g_aload_n F 2 dX6_number_83 rfl rfl ?_
          refine g_dup F dX6_number_84 rfl ?_
          refine g_geti (j := 2) (v := I3 1 2) F s1 rfl rfl uX6 (by decide) q38 rfl dX6_number_85 ?_
          refine g_iconst (v := 1) F dX6_number_88 (by decide) ?_
          refine g_iadd (v := (I3 1 2) + 1) F dX6_number_89 rfl ?_
          refine u_puti (j := 2) F s1 rfl rfl uX6 (by decide) q38 tyX6_ok nmX6 rfl rfl rfl dX6_number_90 h (fun I7 h => ?_)
          refine g_iload_n F 0 dX6_number_93 rfl rfl ?_
          obtain rfl := Option.some.inj h
          exact g_iret F e dX6_number_94 ⟨rfl, rfl, rfl⟩
theorem DX6_isRow_0 : dAre cX6_isRow [(0, .iconst 0, 1), (1, .istore_n 3, 1), (2, .iconst 0, 1), (3, .istore 4, 2), (5, .iload 4, 2), (7, .aload_n 1, 1), (8, .getfield 52, 3), (11, .iload_n 2, 1), (12, .iaload, 1), (13, .if_icmp .ge 63, 3), (16, .iload 4, 2), (18, .ifCond .le 24, 3), (21, .aload_n 0, 1), (22, .invokevirtual 31, 3), (25, .bipush 44, 2), (27, .if_icmp .eq 5, 3)] := dAre0 (by decide +kernel)
theorem dX6_isRow_0 : decode cX6_isRow 0 = .ok (.iconst 0, 1) := DX6_isRow_0.1
theorem dX6_isRow_1 : decode cX6_isRow 1 = .ok (.istore_n 3, 1) := DX6_isRow_0.2.1
theorem dX6_isRow_2 : decode cX6_isRow 2 = .ok (.iconst 0, 1) := DX6_isRow_0.2.2.1
theorem dX6_isRow_3 : decode cX6_isRow 3 = .ok (.istore 4, 2) := DX6_isRow_0.2.2.2.1
theorem dX6_isRow_5 : decode cX6_isRow 5 = .ok (.iload 4, 2) := DX6_isRow_0.2.2.2.2.1
theorem dX6_isRow_7 : decode cX6_isRow 7 = .ok (.aload_n 1, 1) := DX6_isRow_0.2.2.2.2.2.1
theorem dX6_isRow_8 : decode cX6_isRow 8 = .ok (.getfield 52, 3) := DX6_isRow_0.2.2.2.2.2.2.1
theorem dX6_isRow_11 : decode cX6_isRow 11 = .ok (.iload_n 2, 1) := DX6_isRow_0.2.2.2.2.2.2.2.1
theorem dX6_isRow_12 : decode cX6_isRow 12 = .ok (.iaload, 1) := DX6_isRow_0.2.2.2.2.2.2.2.2.1
theorem dX6_isRow_13 : decode cX6_isRow 13 = .ok (.if_icmp .ge 63, 3) := DX6_isRow_0.2.2.2.2.2.2.2.2.2.1
theorem dX6_isRow_16 : decode cX6_isRow 16 = .ok (.iload 4, 2) := DX6_isRow_0.2.2.2.2.2.2.2.2.2.2.1
theorem dX6_isRow_18 : decode cX6_isRow 18 = .ok (.ifCond .le 24, 3) := DX6_isRow_0.2.2.2.2.2.2.2.2.2.2.2.1
theorem dX6_isRow_21 : decode cX6_isRow 21 = .ok (.aload_n 0, 1) := DX6_isRow_0.2.2.2.2.2.2.2.2.2.2.2.2.1
theorem dX6_isRow_22 : decode cX6_isRow 22 = .ok (.invokevirtual 31, 3) := DX6_isRow_0.2.2.2.2.2.2.2.2.2.2.2.2.2.1
theorem dX6_isRow_25 : decode cX6_isRow 25 = .ok (.bipush 44, 2) := DX6_isRow_0.2.2.2.2.2.2.2.2.2.2.2.2.2.2.1
theorem dX6_isRow_27 : decode cX6_isRow 27 = .ok (.if_icmp .eq 5, 3) := DX6_isRow_0.2.2.2.2.2.2.2.2.2.2.2.2.2.2.2.1
theorem DX6_isRow_30 : dAre cX6_isRow [(30, .iconst 0, 1), (31, .ireturn, 1), (32, .aload_n 0, 1), (33, .dup, 1), (34, .getfield 19, 3), (37, .iconst 1, 1), (38, .iadd, 1), (39, .putfield 19, 3), (42, .aload_n 0, 1), (43, .invokevirtual 63, 3), (46, .istore 5, 2), (48, .iload 5, 2), (50, .iconst (-1), 1), (51, .if_icmp .ne 5, 3), (54, .iconst 0, 1), (55, .ireturn, 1)] := dAre0 (by decide +kernel)
theorem dX6_isRow_30 : decode cX6_isRow 30 = .ok (.iconst 0, 1) := DX6_isRow_30.1
theorem dX6_isRow_31 : decode cX6_isRow 31 = .ok (.ireturn, 1) := DX6_isRow_30.2.1
theorem dX6_isRow_32 : decode cX6_isRow 32 = .ok (.aload_n 0, 1) := DX6_isRow_30.2.2.1
theorem dX6_isRow_33 : decode cX6_isRow 33 = .ok (.dup, 1) := DX6_isRow_30.2.2.2.1
theorem dX6_isRow_34 : decode cX6_isRow 34 = .ok (.getfield 19, 3) := DX6_isRow_30.2.2.2.2.1
theorem dX6_isRow_37 : decode cX6_isRow 37 = .ok (.iconst 1, 1) := DX6_isRow_30.2.2.2.2.2.1
theorem dX6_isRow_38 : decode cX6_isRow 38 = .ok (.iadd, 1) := DX6_isRow_30.2.2.2.2.2.2.1
theorem dX6_isRow_39 : decode cX6_isRow 39 = .ok (.putfield 19, 3) := DX6_isRow_30.2.2.2.2.2.2.2.1
theorem dX6_isRow_42 : decode cX6_isRow 42 = .ok (.aload_n 0, 1) := DX6_isRow_30.2.2.2.2.2.2.2.2.1
theorem dX6_isRow_43 : decode cX6_isRow 43 = .ok (.invokevirtual 63, 3) := DX6_isRow_30.2.2.2.2.2.2.2.2.2.1
theorem dX6_isRow_46 : decode cX6_isRow 46 = .ok (.istore 5, 2) := DX6_isRow_30.2.2.2.2.2.2.2.2.2.2.1
theorem dX6_isRow_48 : decode cX6_isRow 48 = .ok (.iload 5, 2) := DX6_isRow_30.2.2.2.2.2.2.2.2.2.2.2.1
theorem dX6_isRow_50 : decode cX6_isRow 50 = .ok (.iconst (-1), 1) := DX6_isRow_30.2.2.2.2.2.2.2.2.2.2.2.2.1
theorem dX6_isRow_51 : decode cX6_isRow 51 = .ok (.if_icmp .ne 5, 3) := DX6_isRow_30.2.2.2.2.2.2.2.2.2.2.2.2.2.1
theorem dX6_isRow_54 : decode cX6_isRow 54 = .ok (.iconst 0, 1) := DX6_isRow_30.2.2.2.2.2.2.2.2.2.2.2.2.2.2.1
theorem dX6_isRow_55 : decode cX6_isRow 55 = .ok (.ireturn, 1) := DX6_isRow_30.2.2.2.2.2.2.2.2.2.2.2.2.2.2.2.1
theorem DX6_isRow_56 : dAre cX6_isRow [(56, .iload_n 3, 1), (57, .iload 5, 2), (59, .bipush 14, 2), (61, .bipush 7, 2), (63, .iload 4, 2), (65, .imul, 1), (66, .isub, 1), (67, .ishl, 1), (68, .ior, 1), (69, .istore_n 3, 1), (70, .iinc 4 1, 3), (73, .goto (-68), 3), (76, .aload_n 1, 1), (77, .iload_n 2, 1), (78, .iload_n 3, 1), (79, .invokevirtual 66, 3)] := dAre0 (by decide +kernel)
theorem dX6_isRow_56 : decode cX6_isRow 56 = .ok (.iload_n 3, 1) := DX6_isRow_56.1
theorem dX6_isRow_57 : decode cX6_isRow 57 = .ok (.iload 5, 2) := DX6_isRow_56.2.1
theorem dX6_isRow_59 : decode cX6_isRow 59 = .ok (.bipush 14, 2) := DX6_isRow_56.2.2.1
theorem dX6_isRow_61 : decode cX6_isRow 61 = .ok (.bipush 7, 2) := DX6_isRow_56.2.2.2.1
theorem dX6_isRow_63 : decode cX6_isRow 63 = .ok (.iload 4, 2) := DX6_isRow_56.2.2.2.2.1
theorem dX6_isRow_65 : decode cX6_isRow 65 = .ok (.imul, 1) := DX6_isRow_56.2.2.2.2.2.1
theorem dX6_isRow_66 : decode cX6_isRow 66 = .ok (.isub, 1) := DX6_isRow_56.2.2.2.2.2.2.1
theorem dX6_isRow_67 : decode cX6_isRow 67 = .ok (.ishl, 1) := DX6_isRow_56.2.2.2.2.2.2.2.1
theorem dX6_isRow_68 : decode cX6_isRow 68 = .ok (.ior, 1) := DX6_isRow_56.2.2.2.2.2.2.2.2.1
theorem dX6_isRow_69 : decode cX6_isRow 69 = .ok (.istore_n 3, 1) := DX6_isRow_56.2.2.2.2.2.2.2.2.2.1
theorem dX6_isRow_70 : decode cX6_isRow 70 = .ok (.iinc 4 1, 3) := DX6_isRow_56.2.2.2.2.2.2.2.2.2.2.1
theorem dX6_isRow_73 : decode cX6_isRow 73 = .ok (.goto (-68), 3) := DX6_isRow_56.2.2.2.2.2.2.2.2.2.2.2.1
theorem dX6_isRow_76 : decode cX6_isRow 76 = .ok (.aload_n 1, 1) := DX6_isRow_56.2.2.2.2.2.2.2.2.2.2.2.2.1
theorem dX6_isRow_77 : decode cX6_isRow 77 = .ok (.iload_n 2, 1) := DX6_isRow_56.2.2.2.2.2.2.2.2.2.2.2.2.2.1
theorem dX6_isRow_78 : decode cX6_isRow 78 = .ok (.iload_n 3, 1) := DX6_isRow_56.2.2.2.2.2.2.2.2.2.2.2.2.2.2.1
theorem dX6_isRow_79 : decode cX6_isRow 79 = .ok (.invokevirtual 66, 3) := DX6_isRow_56.2.2.2.2.2.2.2.2.2.2.2.2.2.2.2.1
theorem dX6_isRow_82 : decode cX6_isRow 82 = .ok (.iconst 1, 1) := by decide +kernel
theorem dX6_isRow_83 : decode cX6_isRow 83 = .ok (.ireturn, 1) := by decide +kernel
theorem mX6_isRow : gMv yX6_isRow cX6_isRow 6 (some .boolean) RX6 2 := ⟨q259, q1349, q2, q260, rfl, by decide, by decide, by decide +kernel⟩
noncomputable def bX6_isRow_42 (v3 : Int32) (v4 : Int32) (I : gM) : Option ((Int32 × Int32 × gM) ⊕ ((gM) ⊕ ((gM) ⊕ (Int32 × gM)))) :=
  (fX6_number I).bind fun r2 =>
  if r2.1 = (-1) then
    some (.inr (.inr (.inl r2.2)))
  else
    some (.inl (v3 ||| (r2.1 <<< (((14 : Int32) - ((7 : Int32) * v4)) &&& 31)), v4 + 1, r2.2))
set_option maxRecDepth 100000 in
set_option maxHeartbeats 4000000 in
theorem wbX6_isRow_42 {z : gZ} {E : gE} {bk : Nat} (F : Fx z sh E "LeapJoin$Tape" cX6_isRow (gR 3) 6) (B : bZ z bk) (hE : gDist sh E) (k1 : Nat) (v2 : Int32) (v3 : Int32) (v4 : Int32) (hk1 : shX5 k1) (I : gM) (J : gN) {y : (Int32 × Int32 × gM) ⊕ ((gM) ⊕ ((gM) ⊕ (Int32 × gM)))} (h : bX6_isRow_42 v3 v4 I = some y) (hl : ∀ s' : Int32 × Int32 × gM, y = .inl s' → G z 5 [(0, .ref (E.2.1 1)), (1, .ref (E.2.1 k1)), (2, .int v2), (3, .int (s'.1)), (4, .int (s'.2.1))] [] s'.2.2 J) (K5_0 : ∀ x : gM, y = .inr (.inl x) → G z 30 [] [] x J) (K5_1 : ∀ x : gM, y = .inr (.inr (.inl x)) → G z 54 [] [] x J) (K5_2 : ∀ x : Int32 × gM, y = .inr (.inr (.inr x)) → G z 76 [(1, .ref (E.2.1 k1)), (2, .int v2), (3, .int x.1)] [] x.2 J) : G z 42 [(0, .ref (E.2.1 1)), (1, .ref (E.2.1 k1)), (2, .int v2), (3, .int v3), (4, .int v4)] [] I J := by
  unfold bX6_isRow_42 at h
  refine g_aload_n F 0 dX6_isRow_42 rfl rfl ?_
  refine u_callV (k := 1) (As := []) (rest := []) (sn := fun r2 => [.int r2.1]) F B (fun _ => wX6_number (zl z) E hE bk  I J) mX6_number q261 rfl s1 rfl rfl rfl (Nat.le_of_ble_eq_true rfl) dX6_isRow_43 (fun _ => rfl) h (fun r2 h => ?_)
  refine g_istore (Ln := [(5, .int r2.1), (0, .ref (E.2.1 1)), (1, .ref (E.2.1 k1)), (2, .int v2), (3, .int v3), (4, .int v4)]) F dX6_isRow_46 (by decide) rfl ?_
  refine g_iload F 0 dX6_isRow_48 rfl ?_
  refine g_iconst (v := (-1)) F dX6_isRow_50 (by decide) ?_
  refine u_icmp_ne (tgt := 56) F dX6_isRow_51 (by decide) h (fun h => ?_) (fun h => ?_)
  · obtain rfl := Option.some.inj h
    refine g_sub (Ln := []) [] rfl ?_
    exact K5_1 r2.2 rfl
  · refine g_iload_n F 4 dX6_isRow_56 rfl rfl ?_
    refine g_iload F 0 dX6_isRow_57 rfl ?_
    refine g_bipush (v := 14) F dX6_isRow_59 (by decide) ?_
    refine g_bipush (v := 7) F dX6_isRow_61 (by decide) ?_
    refine g_iload F 5 dX6_isRow_63 rfl ?_
    refine g_imul (v := (7 : Int32) * v4) F dX6_isRow_65 rfl ?_
    refine g_isub (v := (14 : Int32) - ((7 : Int32) * v4)) F dX6_isRow_66 rfl ?_
    refine g_ishl (v := r2.1 <<< (((14 : Int32) - ((7 : Int32) * v4)) &&& 31)) F dX6_isRow_67 rfl ?_
    refine g_ior (v := v3 ||| (r2.1 <<< (((14 : Int32) - ((7 : Int32) * v4)) &&& 31))) F dX6_isRow_68 rfl ?_
    refine g_istore_n (Ln := [(3, .int (v3 ||| (r2.1 <<< (((14 : Int32) - ((7 : Int32) * v4)) &&& 31)))), (5, .int r2.1), (0, .ref (E.2.1 1)), (1, .ref (E.2.1 k1)), (2, .int v2), (4, .int v4)]) F dX6_isRow_69 rfl (by decide) rfl ?_
    refine g_iinc (v := v4 + 1) (Ln := [(4, .int (v4 + 1)), (3, .int (v3 ||| (r2.1 <<< (((14 : Int32) - ((7 : Int32) * v4)) &&& 31)))), (5, .int r2.1), (0, .ref (E.2.1 1)), (1, .ref (E.2.1 k1)), (2, .int v2)]) F 5 dX6_isRow_70 rfl (add_c (by decide)) (by decide) rfl ?_
    refine g_goto (tgt := 5) F dX6_isRow_73 (by decide) ?_
    obtain rfl := Option.some.inj h
    refine g_sub (Ln := [(0, .ref (E.2.1 1)), (1, .ref (E.2.1 k1)), (2, .int v2), (3, .int (v3 ||| (r2.1 <<< (((14 : Int32) - ((7 : Int32) * v4)) &&& 31)))), (4, .int (v4 + 1))]) [3, 4, 5, 1, 0] rfl ?_
    exact hl (v3 ||| (r2.1 <<< (((14 : Int32) - ((7 : Int32) * v4)) &&& 31)), v4 + 1, r2.2) rfl
noncomputable def lX6_isRow_5 (k1 : Nat) (v2 : Int32) : (Int32 × Int32 × gM) → Option ((gM) ⊕ ((gM) ⊕ (Int32 × gM))) :=
  itO fun s =>
    (rI 4 (s.2.2 (k1 + 1)) v2).bind fun u1 =>
    if u1 ≤ s.2.1 then
      some (.inr (.inr (.inr (s.1, s.2.2))))
    else
      if s.2.1 ≤ 0 then
        bX6_isRow_42 s.1 s.2.1 s.2.2
      else
        (fX6_peek s.2.2).bind fun r3 =>
        if r3.1 = 44 then
          (pU r3.2 1 2 ((r3.2 1 2) + 1)).bind fun I4 =>
          bX6_isRow_42 s.1 s.2.1 I4
        else
          some (.inr (.inl r3.2))
set_option maxRecDepth 100000 in
set_option maxHeartbeats 4000000 in
theorem wlX6_isRow_5 {z : gZ} {E : gE} {bk : Nat} (F : Fx z sh E "LeapJoin$Tape" cX6_isRow (gR 3) 6) (B : bZ z bk) (hE : gDist sh E) (k1 : Nat) (v2 : Int32) (hk1 : shX5 k1) (J : gN) {r : (gM) ⊕ ((gM) ⊕ (Int32 × gM))} : ∀ s : Int32 × Int32 × gM, lX6_isRow_5 k1 v2 s = some r → (∀ x : gM, r = .inl x → G z 30 [] [] x J) → (∀ x : gM, r = .inr (.inl x) → G z 54 [] [] x J) → (∀ x : Int32 × gM, r = .inr (.inr x) → G z 76 [(1, .ref (E.2.1 k1)), (2, .int v2), (3, .int x.1)] [] x.2 J) → G z 5 [(0, .ref (E.2.1 1)), (1, .ref (E.2.1 k1)), (2, .int v2), (3, .int s.1), (4, .int s.2.1)] [] s.2.2 J := by
  intro s h X0 X1 X2
  unfold lX6_isRow_5 at h
  revert s
  refine itO_ind (P := fun s : Int32 × Int32 × gM => G z 5 [(0, .ref (E.2.1 1)), (1, .ref (E.2.1 k1)), (2, .int v2), (3, .int s.1), (4, .int s.2.1)] [] s.2.2 J) (fun s y h hl hr => ?_)
  have K5_0 := fun (x : gM) (q : y = .inr (.inl x)) => X0 x (hr _ q).symm
  have K5_1 := fun (x : gM) (q : y = .inr (.inr (.inl x))) => X1 x (hr _ q).symm
  have K5_2 := fun (x : Int32 × gM) (q : y = .inr (.inr (.inr x))) => X2 x (hr _ q).symm
  refine g_iload F 4 dX6_isRow_5 rfl ?_
  refine g_aload_n F 1 dX6_isRow_7 rfl rfl ?_
  refine g_getr (j := 3) (nn := (k1 + 1)) F hk1.1 rfl rfl uX5 (by decide) q56 dX6_isRow_8 ?_
  refine g_iload_n F 2 dX6_isRow_11 rfl rfl ?_
  refine u_rI F hk1.2.1 (by decide) dX6_isRow_12 h (fun u1 h => ?_)
  refine u_icmp_ge (tgt := 76) F dX6_isRow_13 (by decide) h (fun h => ?_) (fun h => ?_)
  · obtain rfl := Option.some.inj h
    refine g_sub (Ln := [(1, .ref (E.2.1 k1)), (2, .int v2), (3, .int s.1)]) [1, 2, 3] rfl ?_
    exact K5_2 (s.1, s.2.2) rfl
  · refine g_iload F 4 dX6_isRow_16 rfl ?_
    refine u_if_le (tgt := 42) F dX6_isRow_18 (by decide) h (fun h => ?_) (fun h => ?_)
    · refine g_sub (Ln := [(0, .ref (E.2.1 1)), (1, .ref (E.2.1 k1)), (2, .int v2), (3, .int s.1), (4, .int s.2.1)]) [0, 1, 2, 3, 4] rfl ?_
      exact wbX6_isRow_42 F B hE k1 v2 s.1 s.2.1 hk1 s.2.2 J h hl K5_0 K5_1 K5_2
    · refine g_aload_n F 0 dX6_isRow_21 rfl rfl ?_
      refine u_callV (k := 1) (As := []) (rest := []) (sn := fun r3 => [.int r3.1]) F B (fun _ => wX6_peek (zl z) E hE bk  s.2.2 J) mX6_peek q240 rfl s1 rfl rfl rfl (Nat.le_of_ble_eq_true rfl) dX6_isRow_22 (fun _ => rfl) h (fun r3 h => ?_)
      refine g_bipush (v := 44) F dX6_isRow_25 (by decide) ?_
      refine u_icmp_eq (tgt := 32) F dX6_isRow_27 (by decide) h (fun h => ?_) (fun h => ?_)
      · refine g_aload_n F 0 dX6_isRow_32 rfl rfl ?_
        refine g_dup F dX6_isRow_33 rfl ?_
        refine g_geti (j := 2) (v := r3.2 1 2) F s1 rfl rfl uX6 (by decide) q38 rfl dX6_isRow_34 ?_
        refine g_iconst (v := 1) F dX6_isRow_37 (by decide) ?_
        refine g_iadd (v := (r3.2 1 2) + 1) F dX6_isRow_38 rfl ?_
        refine u_puti (j := 2) F s1 rfl rfl uX6 (by decide) q38 tyX6_ok nmX6 rfl rfl rfl dX6_isRow_39 h (fun I4 h => ?_)
        refine g_sub (Ln := [(0, .ref (E.2.1 1)), (1, .ref (E.2.1 k1)), (2, .int v2), (3, .int s.1), (4, .int s.2.1)]) [0, 1, 2, 3, 4] rfl ?_
        exact wbX6_isRow_42 F B hE k1 v2 s.1 s.2.1 hk1 I4 J h hl K5_0 K5_1 K5_2
      · obtain rfl := Option.some.inj h
        refine g_sub (Ln := []) [] rfl ?_
        exact K5_0 r3.2 rfl
noncomputable def fX6_isRow (k1 : Nat) (v2 : Int32) (I : gM) : Option (Int32 × gM) :=
  (lX6_isRow_5 k1 v2 ((0 : Int32), (0 : Int32), I)).bind fun w5 =>
  Sum.elim (fun w5_0 =>
    some ((0 : Int32), w5_0))
  (Sum.elim (fun w5_1 =>
    some ((0 : Int32), w5_1))
  (fun w5_2 =>
    (fX5_insert k1 v2 w5_2.1 w5_2.2).bind fun r6 =>
    some ((1 : Int32), r6))) w5
set_option maxRecDepth 100000 in
set_option maxHeartbeats 4000000 in
theorem wX6_isRow (l : Launch) (E : gE) (hE : gDist sh E) (bk : Nat) (k1 : Nat) (v2 : Int32) (hk1 : shX5 k1) (I : gM) (J : gN) {r : Int32 × gM} (h : fX6_isRow k1 v2 I = some r) : Cu l sh E bk yX6_isRow cX6_isRow 6 (some .boolean) (gR 3) [.ref (E.2.1 1), .ref (E.2.1 k1), .int v2] I J (fun r1 I1 J1 => r1 = some (.int r.1) ∧ I1 = r.2 ∧ J1 = J) := by
  refine Cu.of "LeapJoin$Tape" rfl hE (by decide) (Nat.le_of_ble_eq_true rfl) (fun z F B e hl => ?_)
  subst hl
  unfold fX6_isRow at h
  refine g_iconst (v := 0) F dX6_isRow_0 (by decide) ?_
  refine g_istore_n (Ln := [(3, .int 0), (0, .ref (E.2.1 1)), (1, .ref (E.2.1 k1)), (2, .int v2)]) F dX6_isRow_1 rfl (by decide) rfl ?_
  refine g_iconst (v := 0) F dX6_isRow_2 (by decide) ?_
  refine g_istore (Ln := [(4, .int 0), (3, .int 0), (0, .ref (E.2.1 1)), (1, .ref (E.2.1 k1)), (2, .int v2)]) F dX6_isRow_3 (by decide) rfl ?_
  obtain ⟨w5, ew5, h⟩ := ob h
  refine g_sub (Ln := [(0, .ref (E.2.1 1)), (1, .ref (E.2.1 k1)), (2, .int v2), (3, .int 0), (4, .int 0)]) [2, 3, 4, 1, 0] rfl ?_
  refine wlX6_isRow_5 F B hE k1 v2 hk1 J _ ew5 (fun w5_0 q => ?_) (fun w5_1 q => ?_) (fun w5_2 q => ?_)
  · subst q
    replace h := oE1 h
    refine g_iconst (v := 0) F dX6_isRow_30 (by decide) ?_
    obtain rfl := Option.some.inj h
    exact g_zret F rfl e dX6_isRow_31 ⟨rfl, rfl, rfl⟩
  · subst q
    replace h := oE1 (oE2 h)
    refine g_iconst (v := 0) F dX6_isRow_54 (by decide) ?_
    obtain rfl := Option.some.inj h
    exact g_zret F rfl e dX6_isRow_55 ⟨rfl, rfl, rfl⟩
  · subst q
    replace h := oE2 (oE2 h)
    refine g_aload_n F 0 dX6_isRow_76 rfl rfl ?_
    refine g_iload_n F 1 dX6_isRow_77 rfl rfl ?_
    refine g_iload_n F 2 dX6_isRow_78 rfl rfl ?_
    refine u_callV (k := k1) (As := [.int v2, .int w5_2.1]) (rest := []) (sn := fun _ => []) F B (fun _ => wX5_insert (zl z) E hE bk k1 v2 w5_2.1 hk1 w5_2.2 J) mX5_insert q264 rfl hk1.1 rfl rfl rfl (Nat.le_of_ble_eq_true rfl) dX6_isRow_79 (fun _ => rfl) h (fun r6 h => ?_)
    refine g_iconst (v := 1) F dX6_isRow_82 (by decide) ?_
    obtain rfl := Option.some.inj h
    exact g_zret F rfl e dX6_isRow_83 ⟨rfl, rfl, rfl⟩
theorem DX6_isClause_0 : dAre cX6_isClause [(0, .aload_n 1, 1), (1, .invokevirtual 42, 3), (4, .aload_n 1, 1), (5, .getfield 45, 3), (8, .iconst 1, 1), (9, .isub, 1), (10, .istore_n 2, 1), (11, .iconst 0, 1), (12, .istore_n 3, 1), (13, .iload_n 3, 1), (14, .iconst 3, 1), (15, .if_icmp .ge 51, 3), (18, .aload_n 0, 1), (19, .invokevirtual 31, 3), (22, .bipush 97, 2), (24, .isub, 1)] := dAre0 (by decide +kernel)
theorem dX6_isClause_0 : decode cX6_isClause 0 = .ok (.aload_n 1, 1) := DX6_isClause_0.1
theorem dX6_isClause_1 : decode cX6_isClause 1 = .ok (.invokevirtual 42, 3) := DX6_isClause_0.2.1
theorem dX6_isClause_4 : decode cX6_isClause 4 = .ok (.aload_n 1, 1) := DX6_isClause_0.2.2.1
theorem dX6_isClause_5 : decode cX6_isClause 5 = .ok (.getfield 45, 3) := DX6_isClause_0.2.2.2.1
theorem dX6_isClause_8 : decode cX6_isClause 8 = .ok (.iconst 1, 1) := DX6_isClause_0.2.2.2.2.1
theorem dX6_isClause_9 : decode cX6_isClause 9 = .ok (.isub, 1) := DX6_isClause_0.2.2.2.2.2.1
theorem dX6_isClause_10 : decode cX6_isClause 10 = .ok (.istore_n 2, 1) := DX6_isClause_0.2.2.2.2.2.2.1
theorem dX6_isClause_11 : decode cX6_isClause 11 = .ok (.iconst 0, 1) := DX6_isClause_0.2.2.2.2.2.2.2.1
theorem dX6_isClause_12 : decode cX6_isClause 12 = .ok (.istore_n 3, 1) := DX6_isClause_0.2.2.2.2.2.2.2.2.1
theorem dX6_isClause_13 : decode cX6_isClause 13 = .ok (.iload_n 3, 1) := DX6_isClause_0.2.2.2.2.2.2.2.2.2.1
theorem dX6_isClause_14 : decode cX6_isClause 14 = .ok (.iconst 3, 1) := DX6_isClause_0.2.2.2.2.2.2.2.2.2.2.1
theorem dX6_isClause_15 : decode cX6_isClause 15 = .ok (.if_icmp .ge 51, 3) := DX6_isClause_0.2.2.2.2.2.2.2.2.2.2.2.1
theorem dX6_isClause_18 : decode cX6_isClause 18 = .ok (.aload_n 0, 1) := DX6_isClause_0.2.2.2.2.2.2.2.2.2.2.2.2.1
theorem dX6_isClause_19 : decode cX6_isClause 19 = .ok (.invokevirtual 31, 3) := DX6_isClause_0.2.2.2.2.2.2.2.2.2.2.2.2.2.1
theorem dX6_isClause_22 : decode cX6_isClause 22 = .ok (.bipush 97, 2) := DX6_isClause_0.2.2.2.2.2.2.2.2.2.2.2.2.2.2.1
theorem dX6_isClause_24 : decode cX6_isClause 24 = .ok (.isub, 1) := DX6_isClause_0.2.2.2.2.2.2.2.2.2.2.2.2.2.2.2.1
theorem DX6_isClause_25 : dAre cX6_isClause [(25, .istore 4, 2), (27, .iload 4, 2), (29, .ifCond .lt 37, 3), (32, .iload 4, 2), (34, .iconst 4, 1), (35, .if_icmp .ge 31, 3), (38, .aload_n 1, 1), (39, .iload 4, 2), (41, .invokevirtual 48, 3), (44, .ifCond .ne 6, 3), (47, .goto 19, 3), (50, .aload_n 0, 1), (51, .dup, 1), (52, .getfield 19, 3), (55, .iconst 1, 1), (56, .iadd, 1)] := dAre0 (by decide +kernel)
theorem dX6_isClause_25 : decode cX6_isClause 25 = .ok (.istore 4, 2) := DX6_isClause_25.1
theorem dX6_isClause_27 : decode cX6_isClause 27 = .ok (.iload 4, 2) := DX6_isClause_25.2.1
theorem dX6_isClause_29 : decode cX6_isClause 29 = .ok (.ifCond .lt 37, 3) := DX6_isClause_25.2.2.1
theorem dX6_isClause_32 : decode cX6_isClause 32 = .ok (.iload 4, 2) := DX6_isClause_25.2.2.2.1
theorem dX6_isClause_34 : decode cX6_isClause 34 = .ok (.iconst 4, 1) := DX6_isClause_25.2.2.2.2.1
theorem dX6_isClause_35 : decode cX6_isClause 35 = .ok (.if_icmp .ge 31, 3) := DX6_isClause_25.2.2.2.2.2.1
theorem dX6_isClause_38 : decode cX6_isClause 38 = .ok (.aload_n 1, 1) := DX6_isClause_25.2.2.2.2.2.2.1
theorem dX6_isClause_39 : decode cX6_isClause 39 = .ok (.iload 4, 2) := DX6_isClause_25.2.2.2.2.2.2.2.1
theorem dX6_isClause_41 : decode cX6_isClause 41 = .ok (.invokevirtual 48, 3) := DX6_isClause_25.2.2.2.2.2.2.2.2.1
theorem dX6_isClause_44 : decode cX6_isClause 44 = .ok (.ifCond .ne 6, 3) := DX6_isClause_25.2.2.2.2.2.2.2.2.2.1
theorem dX6_isClause_47 : decode cX6_isClause 47 = .ok (.goto 19, 3) := DX6_isClause_25.2.2.2.2.2.2.2.2.2.2.1
theorem dX6_isClause_50 : decode cX6_isClause 50 = .ok (.aload_n 0, 1) := DX6_isClause_25.2.2.2.2.2.2.2.2.2.2.2.1
theorem dX6_isClause_51 : decode cX6_isClause 51 = .ok (.dup, 1) := DX6_isClause_25.2.2.2.2.2.2.2.2.2.2.2.2.1
theorem dX6_isClause_52 : decode cX6_isClause 52 = .ok (.getfield 19, 3) := DX6_isClause_25.2.2.2.2.2.2.2.2.2.2.2.2.2.1
theorem dX6_isClause_55 : decode cX6_isClause 55 = .ok (.iconst 1, 1) := DX6_isClause_25.2.2.2.2.2.2.2.2.2.2.2.2.2.2.1
theorem dX6_isClause_56 : decode cX6_isClause 56 = .ok (.iadd, 1) := DX6_isClause_25.2.2.2.2.2.2.2.2.2.2.2.2.2.2.2.1
theorem DX6_isClause_57 : dAre cX6_isClause [(57, .putfield 19, 3), (60, .iinc 3 1, 3), (63, .goto (-50), 3), (66, .iload_n 2, 1), (67, .ifCond .lt 21, 3), (70, .aload_n 1, 1), (71, .getfield 52, 3), (74, .iload_n 2, 1), (75, .iaload, 1), (76, .ifCond .eq 12, 3), (79, .aload_n 0, 1), (80, .invokevirtual 31, 3), (83, .bipush 58, 2), (85, .if_icmp .eq 5, 3), (88, .iconst 0, 1), (89, .ireturn, 1)] := dAre0 (by decide +kernel)
theorem dX6_isClause_57 : decode cX6_isClause 57 = .ok (.putfield 19, 3) := DX6_isClause_57.1
theorem dX6_isClause_60 : decode cX6_isClause 60 = .ok (.iinc 3 1, 3) := DX6_isClause_57.2.1
theorem dX6_isClause_63 : decode cX6_isClause 63 = .ok (.goto (-50), 3) := DX6_isClause_57.2.2.1
theorem dX6_isClause_66 : decode cX6_isClause 66 = .ok (.iload_n 2, 1) := DX6_isClause_57.2.2.2.1
theorem dX6_isClause_67 : decode cX6_isClause 67 = .ok (.ifCond .lt 21, 3) := DX6_isClause_57.2.2.2.2.1
theorem dX6_isClause_70 : decode cX6_isClause 70 = .ok (.aload_n 1, 1) := DX6_isClause_57.2.2.2.2.2.1
theorem dX6_isClause_71 : decode cX6_isClause 71 = .ok (.getfield 52, 3) := DX6_isClause_57.2.2.2.2.2.2.1
theorem dX6_isClause_74 : decode cX6_isClause 74 = .ok (.iload_n 2, 1) := DX6_isClause_57.2.2.2.2.2.2.2.1
theorem dX6_isClause_75 : decode cX6_isClause 75 = .ok (.iaload, 1) := DX6_isClause_57.2.2.2.2.2.2.2.2.1
theorem dX6_isClause_76 : decode cX6_isClause 76 = .ok (.ifCond .eq 12, 3) := DX6_isClause_57.2.2.2.2.2.2.2.2.2.1
theorem dX6_isClause_79 : decode cX6_isClause 79 = .ok (.aload_n 0, 1) := DX6_isClause_57.2.2.2.2.2.2.2.2.2.2.1
theorem dX6_isClause_80 : decode cX6_isClause 80 = .ok (.invokevirtual 31, 3) := DX6_isClause_57.2.2.2.2.2.2.2.2.2.2.2.1
theorem dX6_isClause_83 : decode cX6_isClause 83 = .ok (.bipush 58, 2) := DX6_isClause_57.2.2.2.2.2.2.2.2.2.2.2.2.1
theorem dX6_isClause_85 : decode cX6_isClause 85 = .ok (.if_icmp .eq 5, 3) := DX6_isClause_57.2.2.2.2.2.2.2.2.2.2.2.2.2.1
theorem dX6_isClause_88 : decode cX6_isClause 88 = .ok (.iconst 0, 1) := DX6_isClause_57.2.2.2.2.2.2.2.2.2.2.2.2.2.2.1
theorem dX6_isClause_89 : decode cX6_isClause 89 = .ok (.ireturn, 1) := DX6_isClause_57.2.2.2.2.2.2.2.2.2.2.2.2.2.2.2.1
theorem DX6_isClause_90 : dAre cX6_isClause [(90, .aload_n 0, 1), (91, .dup, 1), (92, .getfield 19, 3), (95, .iconst 1, 1), (96, .iadd, 1), (97, .putfield 19, 3), (100, .aload_n 0, 1), (101, .invokevirtual 31, 3), (104, .invokestatic 56, 3), (107, .ifCond .ne 5, 3), (110, .iconst 1, 1), (111, .ireturn, 1), (112, .iconst 1, 1), (113, .istore_n 3, 1), (114, .iload_n 3, 1), (115, .bipush 12, 2)] := dAre0 (by decide +kernel)
theorem dX6_isClause_90 : decode cX6_isClause 90 = .ok (.aload_n 0, 1) := DX6_isClause_90.1
theorem dX6_isClause_91 : decode cX6_isClause 91 = .ok (.dup, 1) := DX6_isClause_90.2.1
theorem dX6_isClause_92 : decode cX6_isClause 92 = .ok (.getfield 19, 3) := DX6_isClause_90.2.2.1
theorem dX6_isClause_95 : decode cX6_isClause 95 = .ok (.iconst 1, 1) := DX6_isClause_90.2.2.2.1
theorem dX6_isClause_96 : decode cX6_isClause 96 = .ok (.iadd, 1) := DX6_isClause_90.2.2.2.2.1
theorem dX6_isClause_97 : decode cX6_isClause 97 = .ok (.putfield 19, 3) := DX6_isClause_90.2.2.2.2.2.1
theorem dX6_isClause_100 : decode cX6_isClause 100 = .ok (.aload_n 0, 1) := DX6_isClause_90.2.2.2.2.2.2.1
theorem dX6_isClause_101 : decode cX6_isClause 101 = .ok (.invokevirtual 31, 3) := DX6_isClause_90.2.2.2.2.2.2.2.1
theorem dX6_isClause_104 : decode cX6_isClause 104 = .ok (.invokestatic 56, 3) := DX6_isClause_90.2.2.2.2.2.2.2.2.1
theorem dX6_isClause_107 : decode cX6_isClause 107 = .ok (.ifCond .ne 5, 3) := DX6_isClause_90.2.2.2.2.2.2.2.2.2.1
theorem dX6_isClause_110 : decode cX6_isClause 110 = .ok (.iconst 1, 1) := DX6_isClause_90.2.2.2.2.2.2.2.2.2.2.1
theorem dX6_isClause_111 : decode cX6_isClause 111 = .ok (.ireturn, 1) := DX6_isClause_90.2.2.2.2.2.2.2.2.2.2.2.1
theorem dX6_isClause_112 : decode cX6_isClause 112 = .ok (.iconst 1, 1) := DX6_isClause_90.2.2.2.2.2.2.2.2.2.2.2.2.1
theorem dX6_isClause_113 : decode cX6_isClause 113 = .ok (.istore_n 3, 1) := DX6_isClause_90.2.2.2.2.2.2.2.2.2.2.2.2.2.1
theorem dX6_isClause_114 : decode cX6_isClause 114 = .ok (.iload_n 3, 1) := DX6_isClause_90.2.2.2.2.2.2.2.2.2.2.2.2.2.2.1
theorem dX6_isClause_115 : decode cX6_isClause 115 = .ok (.bipush 12, 2) := DX6_isClause_90.2.2.2.2.2.2.2.2.2.2.2.2.2.2.2.1
theorem DX6_isClause_117 : dAre cX6_isClause [(117, .if_icmp .ge 41, 3), (120, .aload_n 0, 1), (121, .aload_n 1, 1), (122, .iload_n 2, 1), (123, .invokevirtual 59, 3), (126, .ifCond .ne 5, 3), (129, .iconst 0, 1), (130, .ireturn, 1), (131, .aload_n 0, 1), (132, .invokevirtual 31, 3), (135, .bipush 47, 2), (137, .if_icmp .eq 5, 3), (140, .iconst 1, 1), (141, .ireturn, 1), (142, .aload_n 0, 1), (143, .dup, 1)] := dAre0 (by decide +kernel)
theorem dX6_isClause_117 : decode cX6_isClause 117 = .ok (.if_icmp .ge 41, 3) := DX6_isClause_117.1
theorem dX6_isClause_120 : decode cX6_isClause 120 = .ok (.aload_n 0, 1) := DX6_isClause_117.2.1
theorem dX6_isClause_121 : decode cX6_isClause 121 = .ok (.aload_n 1, 1) := DX6_isClause_117.2.2.1
theorem dX6_isClause_122 : decode cX6_isClause 122 = .ok (.iload_n 2, 1) := DX6_isClause_117.2.2.2.1
theorem dX6_isClause_123 : decode cX6_isClause 123 = .ok (.invokevirtual 59, 3) := DX6_isClause_117.2.2.2.2.1
theorem dX6_isClause_126 : decode cX6_isClause 126 = .ok (.ifCond .ne 5, 3) := DX6_isClause_117.2.2.2.2.2.1
theorem dX6_isClause_129 : decode cX6_isClause 129 = .ok (.iconst 0, 1) := DX6_isClause_117.2.2.2.2.2.2.1
theorem dX6_isClause_130 : decode cX6_isClause 130 = .ok (.ireturn, 1) := DX6_isClause_117.2.2.2.2.2.2.2.1
theorem dX6_isClause_131 : decode cX6_isClause 131 = .ok (.aload_n 0, 1) := DX6_isClause_117.2.2.2.2.2.2.2.2.1
theorem dX6_isClause_132 : decode cX6_isClause 132 = .ok (.invokevirtual 31, 3) := DX6_isClause_117.2.2.2.2.2.2.2.2.2.1
theorem dX6_isClause_135 : decode cX6_isClause 135 = .ok (.bipush 47, 2) := DX6_isClause_117.2.2.2.2.2.2.2.2.2.2.1
theorem dX6_isClause_137 : decode cX6_isClause 137 = .ok (.if_icmp .eq 5, 3) := DX6_isClause_117.2.2.2.2.2.2.2.2.2.2.2.1
theorem dX6_isClause_140 : decode cX6_isClause 140 = .ok (.iconst 1, 1) := DX6_isClause_117.2.2.2.2.2.2.2.2.2.2.2.2.1
theorem dX6_isClause_141 : decode cX6_isClause 141 = .ok (.ireturn, 1) := DX6_isClause_117.2.2.2.2.2.2.2.2.2.2.2.2.2.1
theorem dX6_isClause_142 : decode cX6_isClause 142 = .ok (.aload_n 0, 1) := DX6_isClause_117.2.2.2.2.2.2.2.2.2.2.2.2.2.2.1
theorem dX6_isClause_143 : decode cX6_isClause 143 = .ok (.dup, 1) := DX6_isClause_117.2.2.2.2.2.2.2.2.2.2.2.2.2.2.2.1
theorem DX6_isClause_144 : dAre cX6_isClause [(144, .getfield 19, 3), (147, .iconst 1, 1), (148, .iadd, 1), (149, .putfield 19, 3), (152, .iinc 3 1, 3), (155, .goto (-41), 3), (158, .aload_n 0, 1), (159, .aload_n 1, 1), (160, .iload_n 2, 1), (161, .invokevirtual 59, 3), (164, .ireturn, 1)] := dAre0 (by decide +kernel)
theorem dX6_isClause_144 : decode cX6_isClause 144 = .ok (.getfield 19, 3) := DX6_isClause_144.1
theorem dX6_isClause_147 : decode cX6_isClause 147 = .ok (.iconst 1, 1) := DX6_isClause_144.2.1
theorem dX6_isClause_148 : decode cX6_isClause 148 = .ok (.iadd, 1) := DX6_isClause_144.2.2.1
theorem dX6_isClause_149 : decode cX6_isClause 149 = .ok (.putfield 19, 3) := DX6_isClause_144.2.2.2.1
theorem dX6_isClause_152 : decode cX6_isClause 152 = .ok (.iinc 3 1, 3) := DX6_isClause_144.2.2.2.2.1
theorem dX6_isClause_155 : decode cX6_isClause 155 = .ok (.goto (-41), 3) := DX6_isClause_144.2.2.2.2.2.1
theorem dX6_isClause_158 : decode cX6_isClause 158 = .ok (.aload_n 0, 1) := DX6_isClause_144.2.2.2.2.2.2.1
theorem dX6_isClause_159 : decode cX6_isClause 159 = .ok (.aload_n 1, 1) := DX6_isClause_144.2.2.2.2.2.2.2.1
theorem dX6_isClause_160 : decode cX6_isClause 160 = .ok (.iload_n 2, 1) := DX6_isClause_144.2.2.2.2.2.2.2.2.1
theorem dX6_isClause_161 : decode cX6_isClause 161 = .ok (.invokevirtual 59, 3) := DX6_isClause_144.2.2.2.2.2.2.2.2.2.1
theorem dX6_isClause_164 : decode cX6_isClause 164 = .ok (.ireturn, 1) := DX6_isClause_144.2.2.2.2.2.2.2.2.2.2.1
theorem mX6_isClause : gMv yX6_isClause cX6_isClause 5 (some .boolean) RX6 1 := ⟨q234, q1347, q2, q235, rfl, by decide, by decide, by decide +kernel⟩
noncomputable def lX6_isClause_13 (k1 : Nat) : (Int32 × gM) → Option ((gM) ⊕ (gM)) :=
  itO fun s =>
    if (3 : Int32) ≤ s.1 then
      some (.inr (.inr s.2))
    else
      (fX6_peek s.2).bind fun r2 =>
      if (r2.1 - 97) < 0 then
        some (.inr (.inr r2.2))
      else
        if (4 : Int32) ≤ (r2.1 - 97) then
          some (.inr (.inr r2.2))
        else
          (fX5_addLetter k1 (r2.1 - 97) r2.2).bind fun r3 =>
          if r3.1 = 0 then
            some (.inr (.inl r3.2))
          else
            (pU r3.2 1 2 ((r3.2 1 2) + 1)).bind fun I4 =>
            some (.inl (s.1 + 1, I4))
set_option maxRecDepth 100000 in
set_option maxHeartbeats 4000000 in
theorem wlX6_isClause_13 {z : gZ} {E : gE} {bk : Nat} (F : Fx z sh E "LeapJoin$Tape" cX6_isClause (gR 4) 5) (B : bZ z bk) (hE : gDist sh E) (k1 : Nat) (v2 : Int32) (hk1 : shX5 k1) (J : gN) {r : (gM) ⊕ (gM)} : ∀ s : Int32 × gM, lX6_isClause_13 k1 s = some r → (∀ x : gM, r = .inl x → G z 47 [(0, .ref (E.2.1 1)), (1, .ref (E.2.1 k1)), (2, .int v2)] [] x J) → (∀ x : gM, r = .inr x → G z 66 [(0, .ref (E.2.1 1)), (1, .ref (E.2.1 k1)), (2, .int v2)] [] x J) → G z 13 [(0, .ref (E.2.1 1)), (1, .ref (E.2.1 k1)), (2, .int v2), (3, .int s.1)] [] s.2 J := by
  intro s h X0 X1
  unfold lX6_isClause_13 at h
  revert s
  refine itO_ind (P := fun s : Int32 × gM => G z 13 [(0, .ref (E.2.1 1)), (1, .ref (E.2.1 k1)), (2, .int v2), (3, .int s.1)] [] s.2 J) (fun s y h hl hr => ?_)
  have K13_0 := fun (x : gM) (q : y = .inr (.inl x)) => X0 x (hr _ q).symm
  have K13_1 := fun (x : gM) (q : y = .inr (.inr x)) => X1 x (hr _ q).symm
  refine g_iload_n F 3 dX6_isClause_13 rfl rfl ?_
  refine g_iconst (v := 3) F dX6_isClause_14 (by decide) ?_
  refine u_icmp_ge (tgt := 66) F dX6_isClause_15 (by decide) h (fun h => ?_) (fun h => ?_)
  · obtain rfl := Option.some.inj h
    refine g_sub (Ln := [(0, .ref (E.2.1 1)), (1, .ref (E.2.1 k1)), (2, .int v2)]) [0, 1, 2] rfl ?_
    exact K13_1 s.2 rfl
  · refine g_aload_n F 0 dX6_isClause_18 rfl rfl ?_
    refine u_callV (k := 1) (As := []) (rest := []) (sn := fun r2 => [.int r2.1]) F B (fun _ => wX6_peek (zl z) E hE bk  s.2 J) mX6_peek q240 rfl s1 rfl rfl rfl (Nat.le_of_ble_eq_true rfl) dX6_isClause_19 (fun _ => rfl) h (fun r2 h => ?_)
    refine g_bipush (v := 97) F dX6_isClause_22 (by decide) ?_
    refine g_isub (v := r2.1 - 97) F dX6_isClause_24 rfl ?_
    refine g_istore (Ln := [(4, .int (r2.1 - 97)), (0, .ref (E.2.1 1)), (1, .ref (E.2.1 k1)), (2, .int v2), (3, .int s.1)]) F dX6_isClause_25 (by decide) rfl ?_
    refine g_iload F 0 dX6_isClause_27 rfl ?_
    refine u_if_lt (tgt := 66) F dX6_isClause_29 (by decide) h (fun h => ?_) (fun h => ?_)
    · obtain rfl := Option.some.inj h
      refine g_sub (Ln := [(0, .ref (E.2.1 1)), (1, .ref (E.2.1 k1)), (2, .int v2)]) [1, 2, 3] rfl ?_
      exact K13_1 r2.2 rfl
    · refine g_iload F 0 dX6_isClause_32 rfl ?_
      refine g_iconst (v := 4) F dX6_isClause_34 (by decide) ?_
      refine u_icmp_ge (tgt := 66) F dX6_isClause_35 (by decide) h (fun h => ?_) (fun h => ?_)
      · obtain rfl := Option.some.inj h
        refine g_sub (Ln := [(0, .ref (E.2.1 1)), (1, .ref (E.2.1 k1)), (2, .int v2)]) [1, 2, 3] rfl ?_
        exact K13_1 r2.2 rfl
      · refine g_aload_n F 2 dX6_isClause_38 rfl rfl ?_
        refine g_iload F 0 dX6_isClause_39 rfl ?_
        refine u_callV (k := k1) (As := [.int (r2.1 - 97)]) (rest := []) (sn := fun r3 => [.int r3.1]) F B (fun _ => wX5_addLetter (zl z) E hE bk k1 (r2.1 - 97) hk1 r2.2 J) mX5_addLetter q243 rfl hk1.1 rfl rfl rfl (Nat.le_of_ble_eq_true rfl) dX6_isClause_41 (fun _ => rfl) h (fun r3 h => ?_)
        refine u_if_ne (tgt := 50) F dX6_isClause_44 (by decide) h (fun h => ?_) (fun h => ?_)
        · obtain rfl := Option.some.inj h
          refine g_sub (Ln := [(0, .ref (E.2.1 1)), (1, .ref (E.2.1 k1)), (2, .int v2)]) [1, 2, 3] rfl ?_
          exact K13_0 r3.2 rfl
        · refine g_aload_n F 1 dX6_isClause_50 rfl rfl ?_
          refine g_dup F dX6_isClause_51 rfl ?_
          refine g_geti (j := 2) (v := r3.2 1 2) F s1 rfl rfl uX6 (by decide) q38 rfl dX6_isClause_52 ?_
          refine g_iconst (v := 1) F dX6_isClause_55 (by decide) ?_
          refine g_iadd (v := (r3.2 1 2) + 1) F dX6_isClause_56 rfl ?_
          refine u_puti (j := 2) F s1 rfl rfl uX6 (by decide) q38 tyX6_ok nmX6 rfl rfl rfl dX6_isClause_57 h (fun I4 h => ?_)
          refine g_iinc (v := s.1 + 1) (Ln := [(3, .int (s.1 + 1)), (4, .int (r2.1 - 97)), (0, .ref (E.2.1 1)), (1, .ref (E.2.1 k1)), (2, .int v2)]) F 4 dX6_isClause_60 rfl (add_c (by decide)) (by decide) rfl ?_
          refine g_goto (tgt := 13) F dX6_isClause_63 (by decide) ?_
          obtain rfl := Option.some.inj h
          refine g_sub (Ln := [(0, .ref (E.2.1 1)), (1, .ref (E.2.1 k1)), (2, .int v2), (3, .int (s.1 + 1))]) [2, 3, 4, 0] rfl ?_
          exact hl (s.1 + 1, I4) rfl
noncomputable def lX6_isClause_114 (k1 : Nat) (v2 : Int32) : (Int32 × gM) → Option ((gM) ⊕ ((gM) ⊕ (gM))) :=
  itO fun s =>
    if (12 : Int32) ≤ s.1 then
      some (.inr (.inr (.inr s.2)))
    else
      (fX6_isRow k1 v2 s.2).bind fun r11 =>
      if r11.1 = 0 then
        some (.inr (.inl r11.2))
      else
        (fX6_peek r11.2).bind fun r12 =>
        if r12.1 = 47 then
          (pU r12.2 1 2 ((r12.2 1 2) + 1)).bind fun I13 =>
          some (.inl (s.1 + 1, I13))
        else
          some (.inr (.inr (.inl r12.2)))
set_option maxRecDepth 100000 in
set_option maxHeartbeats 4000000 in
theorem wlX6_isClause_114 {z : gZ} {E : gE} {bk : Nat} (F : Fx z sh E "LeapJoin$Tape" cX6_isClause (gR 4) 5) (B : bZ z bk) (hE : gDist sh E) (k1 : Nat) (v2 : Int32) (hk1 : shX5 k1) (J : gN) {r : (gM) ⊕ ((gM) ⊕ (gM))} : ∀ s : Int32 × gM, lX6_isClause_114 k1 v2 s = some r → (∀ x : gM, r = .inl x → G z 129 [] [] x J) → (∀ x : gM, r = .inr (.inl x) → G z 140 [] [] x J) → (∀ x : gM, r = .inr (.inr x) → G z 158 [(0, .ref (E.2.1 1)), (1, .ref (E.2.1 k1)), (2, .int v2)] [] x J) → G z 114 [(0, .ref (E.2.1 1)), (1, .ref (E.2.1 k1)), (2, .int v2), (3, .int s.1)] [] s.2 J := by
  intro s h X0 X1 X2
  unfold lX6_isClause_114 at h
  revert s
  refine itO_ind (P := fun s : Int32 × gM => G z 114 [(0, .ref (E.2.1 1)), (1, .ref (E.2.1 k1)), (2, .int v2), (3, .int s.1)] [] s.2 J) (fun s y h hl hr => ?_)
  have K114_0 := fun (x : gM) (q : y = .inr (.inl x)) => X0 x (hr _ q).symm
  have K114_1 := fun (x : gM) (q : y = .inr (.inr (.inl x))) => X1 x (hr _ q).symm
  have K114_2 := fun (x : gM) (q : y = .inr (.inr (.inr x))) => X2 x (hr _ q).symm
  refine g_iload_n F 3 dX6_isClause_114 rfl rfl ?_
  refine g_bipush (v := 12) F dX6_isClause_115 (by decide) ?_
  refine u_icmp_ge (tgt := 158) F dX6_isClause_117 (by decide) h (fun h => ?_) (fun h => ?_)
  · obtain rfl := Option.some.inj h
    refine g_sub (Ln := [(0, .ref (E.2.1 1)), (1, .ref (E.2.1 k1)), (2, .int v2)]) [0, 1, 2] rfl ?_
    exact K114_2 s.2 rfl
  · refine g_aload_n F 0 dX6_isClause_120 rfl rfl ?_
    refine g_aload_n F 1 dX6_isClause_121 rfl rfl ?_
    refine g_iload_n F 2 dX6_isClause_122 rfl rfl ?_
    refine u_callV (k := 1) (As := [.ref (E.2.1 k1), .int v2]) (rest := []) (sn := fun r11 => [.int r11.1]) F B (fun _ => wX6_isRow (zl z) E hE bk k1 v2 hk1 s.2 J) mX6_isRow q258 rfl s1 rfl rfl rfl (Nat.le_of_ble_eq_true rfl) dX6_isClause_123 (fun _ => rfl) h (fun r11 h => ?_)
    refine u_if_ne (tgt := 131) F dX6_isClause_126 (by decide) h (fun h => ?_) (fun h => ?_)
    · obtain rfl := Option.some.inj h
      refine g_sub (Ln := []) [] rfl ?_
      exact K114_0 r11.2 rfl
    · refine g_aload_n F 0 dX6_isClause_131 rfl rfl ?_
      refine u_callV (k := 1) (As := []) (rest := []) (sn := fun r12 => [.int r12.1]) F B (fun _ => wX6_peek (zl z) E hE bk  r11.2 J) mX6_peek q240 rfl s1 rfl rfl rfl (Nat.le_of_ble_eq_true rfl) dX6_isClause_132 (fun _ => rfl) h (fun r12 h => ?_)
      refine g_bipush (v := 47) F dX6_isClause_135 (by decide) ?_
      refine u_icmp_eq (tgt := 142) F dX6_isClause_137 (by decide) h (fun h => ?_) (fun h => ?_)
      · refine g_aload_n F 0 dX6_isClause_142 rfl rfl ?_
        refine g_dup F dX6_isClause_143 rfl ?_
        refine g_geti (j := 2) (v := r12.2 1 2) F s1 rfl rfl uX6 (by decide) q38 rfl dX6_isClause_144 ?_
        refine g_iconst (v := 1) F dX6_isClause_147 (by decide) ?_
        refine g_iadd (v := (r12.2 1 2) + 1) F dX6_isClause_148 rfl ?_
        refine u_puti (j := 2) F s1 rfl rfl uX6 (by decide) q38 tyX6_ok nmX6 rfl rfl rfl dX6_isClause_149 h (fun I13 h => ?_)
        refine g_iinc (v := s.1 + 1) (Ln := [(3, .int (s.1 + 1)), (0, .ref (E.2.1 1)), (1, .ref (E.2.1 k1)), (2, .int v2)]) F 3 dX6_isClause_152 rfl (add_c (by decide)) (by decide) rfl ?_
        refine g_goto (tgt := 114) F dX6_isClause_155 (by decide) ?_
        obtain rfl := Option.some.inj h
        refine g_sub (Ln := [(0, .ref (E.2.1 1)), (1, .ref (E.2.1 k1)), (2, .int v2), (3, .int (s.1 + 1))]) [1, 2, 3, 0] rfl ?_
        exact hl (s.1 + 1, I13) rfl
      · obtain rfl := Option.some.inj h
        refine g_sub (Ln := []) [] rfl ?_
        exact K114_1 r12.2 rfl
noncomputable def bX6_isClause_66 (k1 : Nat) (v2 : Int32) (I : gM) : Option (Int32 × gM) :=
  if v2 < 0 then
    some ((0 : Int32), I)
  else
    (rI 4 (I (k1 + 1)) v2).bind fun u6 =>
    if u6 = 0 then
      some ((0 : Int32), I)
    else
      (fX6_peek I).bind fun r7 =>
      if r7.1 = 58 then
        (pU r7.2 1 2 ((r7.2 1 2) + 1)).bind fun I8 =>
        (fX6_peek I8).bind fun r9 =>
        (fX6_isDigit r9.1).bind fun r10 =>
        if r10 = 0 then
          some ((1 : Int32), r9.2)
        else
          (lX6_isClause_114 k1 v2 ((1 : Int32), r9.2)).bind fun w14 =>
          Sum.elim (fun w14_0 =>
            some ((0 : Int32), w14_0))
          (Sum.elim (fun w14_1 =>
            some ((1 : Int32), w14_1))
          (fun w14_2 =>
            (fX6_isRow k1 v2 w14_2).bind fun r15 =>
            (bO r15.1).bind fun u16 =>
            some (u16, r15.2))) w14
      else
        some ((0 : Int32), r7.2)
set_option maxRecDepth 100000 in
set_option maxHeartbeats 4000000 in
theorem wbX6_isClause_66 {z : gZ} {E : gE} {bk : Nat} (F : Fx z sh E "LeapJoin$Tape" cX6_isClause (gR 4) 5) (B : bZ z bk) (hE : gDist sh E) (k1 : Nat) (v2 : Int32) (hk1 : shX5 k1) (I : gM) (J : gN) {y : Int32 × gM} (h : bX6_isClause_66 k1 v2 I = some y) (e : Fe z sh E (some .boolean) (fun r1 I1 J1 => r1 = some (.int y.1) ∧ I1 = y.2 ∧ J1 = J)) : G z 66 [(0, .ref (E.2.1 1)), (1, .ref (E.2.1 k1)), (2, .int v2)] [] I J := by
  unfold bX6_isClause_66 at h
  refine g_iload_n F 2 dX6_isClause_66 rfl rfl ?_
  refine u_if_lt (tgt := 88) F dX6_isClause_67 (by decide) h (fun h => ?_) (fun h => ?_)
  · refine g_iconst (v := 0) F dX6_isClause_88 (by decide) ?_
    obtain rfl := Option.some.inj h
    exact g_zret F rfl e dX6_isClause_89 ⟨rfl, rfl, rfl⟩
  · refine g_aload_n F 1 dX6_isClause_70 rfl rfl ?_
    refine g_getr (j := 3) (nn := (k1 + 1)) F hk1.1 rfl rfl uX5 (by decide) q56 dX6_isClause_71 ?_
    refine g_iload_n F 2 dX6_isClause_74 rfl rfl ?_
    refine u_rI F hk1.2.1 (by decide) dX6_isClause_75 h (fun u6 h => ?_)
    refine u_if_eq (tgt := 88) F dX6_isClause_76 (by decide) h (fun h => ?_) (fun h => ?_)
    · refine g_iconst (v := 0) F dX6_isClause_88 (by decide) ?_
      obtain rfl := Option.some.inj h
      exact g_zret F rfl e dX6_isClause_89 ⟨rfl, rfl, rfl⟩
    · refine g_aload_n F 0 dX6_isClause_79 rfl rfl ?_
      refine u_callV (k := 1) (As := []) (rest := []) (sn := fun r7 => [.int r7.1]) F B (fun _ => wX6_peek (zl z) E hE bk  I J) mX6_peek q240 rfl s1 rfl rfl rfl (Nat.le_of_ble_eq_true rfl) dX6_isClause_80 (fun _ => rfl) h (fun r7 h => ?_)
      refine g_bipush (v := 58) F dX6_isClause_83 (by decide) ?_
      refine u_icmp_eq (tgt := 90) F dX6_isClause_85 (by decide) h (fun h => ?_) (fun h => ?_)
      · refine g_aload_n F 0 dX6_isClause_90 rfl rfl ?_
        refine g_dup F dX6_isClause_91 rfl ?_
        refine g_geti (j := 2) (v := r7.2 1 2) F s1 rfl rfl uX6 (by decide) q38 rfl dX6_isClause_92 ?_
        refine g_iconst (v := 1) F dX6_isClause_95 (by decide) ?_
        refine g_iadd (v := (r7.2 1 2) + 1) F dX6_isClause_96 rfl ?_
        refine u_puti (j := 2) F s1 rfl rfl uX6 (by decide) q38 tyX6_ok nmX6 rfl rfl rfl dX6_isClause_97 h (fun I8 h => ?_)
        refine g_aload_n F 0 dX6_isClause_100 rfl rfl ?_
        refine u_callV (k := 1) (As := []) (rest := []) (sn := fun r9 => [.int r9.1]) F B (fun _ => wX6_peek (zl z) E hE bk  I8 J) mX6_peek q240 rfl s1 rfl rfl rfl (Nat.le_of_ble_eq_true rfl) dX6_isClause_101 (fun _ => rfl) h (fun r9 h => ?_)
        refine u_callS (As := [.int r9.1]) (rest := []) (sn := fun r10 => [.int r10]) F B (fun _ => wX6_isDigit (zl z) E hE bk r9.1 r9.2 J) mX6_isDigit q255 rfl rfl rfl (Nat.le_of_ble_eq_true rfl) dX6_isClause_104 (fun _ => rfl) h (fun r10 h => ?_)
        refine u_if_ne (tgt := 112) F dX6_isClause_107 (by decide) h (fun h => ?_) (fun h => ?_)
        · refine g_iconst (v := 1) F dX6_isClause_110 (by decide) ?_
          obtain rfl := Option.some.inj h
          exact g_zret F rfl e dX6_isClause_111 ⟨rfl, rfl, rfl⟩
        · refine g_iconst (v := 1) F dX6_isClause_112 (by decide) ?_
          refine g_istore_n (Ln := [(3, .int 1), (0, .ref (E.2.1 1)), (1, .ref (E.2.1 k1)), (2, .int v2)]) F dX6_isClause_113 rfl (by decide) rfl ?_
          obtain ⟨w14, ew14, h⟩ := ob h
          refine g_sub (Ln := [(0, .ref (E.2.1 1)), (1, .ref (E.2.1 k1)), (2, .int v2), (3, .int 1)]) [1, 2, 3, 0] rfl ?_
          refine wlX6_isClause_114 F B hE k1 v2 hk1 J _ ew14 (fun w14_0 q => ?_) (fun w14_1 q => ?_) (fun w14_2 q => ?_)
          · subst q
            replace h := oE1 h
            refine g_iconst (v := 0) F dX6_isClause_129 (by decide) ?_
            obtain rfl := Option.some.inj h
            exact g_zret F rfl e dX6_isClause_130 ⟨rfl, rfl, rfl⟩
          · subst q
            replace h := oE1 (oE2 h)
            refine g_iconst (v := 1) F dX6_isClause_140 (by decide) ?_
            obtain rfl := Option.some.inj h
            exact g_zret F rfl e dX6_isClause_141 ⟨rfl, rfl, rfl⟩
          · subst q
            replace h := oE2 (oE2 h)
            refine g_aload_n F 0 dX6_isClause_158 rfl rfl ?_
            refine g_aload_n F 1 dX6_isClause_159 rfl rfl ?_
            refine g_iload_n F 2 dX6_isClause_160 rfl rfl ?_
            refine u_callV (k := 1) (As := [.ref (E.2.1 k1), .int v2]) (rest := []) (sn := fun r15 => [.int r15.1]) F B (fun _ => wX6_isRow (zl z) E hE bk k1 v2 hk1 w14_2 J) mX6_isRow q258 rfl s1 rfl rfl rfl (Nat.le_of_ble_eq_true rfl) dX6_isClause_161 (fun _ => rfl) h (fun r15 h => ?_)
            obtain ⟨u16, eu16, h⟩ := ob h
            obtain ⟨nu16, rfl⟩ := bO_some eu16
            obtain rfl := Option.some.inj h
            exact g_zret F nu16 e dX6_isClause_164 ⟨rfl, rfl, rfl⟩
      · refine g_iconst (v := 0) F dX6_isClause_88 (by decide) ?_
        obtain rfl := Option.some.inj h
        exact g_zret F rfl e dX6_isClause_89 ⟨rfl, rfl, rfl⟩
noncomputable def fX6_isClause (k1 : Nat) (I : gM) : Option (Int32 × gM) :=
  (fX5_open k1 I).bind fun r1 =>
  (lX6_isClause_13 k1 ((0 : Int32), r1)).bind fun w5 =>
  Sum.elim (fun w5_0 =>
    bX6_isClause_66 k1 ((r1 k1 0) - 1) w5_0)
  (fun w5_1 =>
    bX6_isClause_66 k1 ((r1 k1 0) - 1) w5_1) w5
set_option maxRecDepth 100000 in
set_option maxHeartbeats 4000000 in
theorem wX6_isClause (l : Launch) (E : gE) (hE : gDist sh E) (bk : Nat) (k1 : Nat) (hk1 : shX5 k1) (I : gM) (J : gN) {r : Int32 × gM} (h : fX6_isClause k1 I = some r) : Cu l sh E bk yX6_isClause cX6_isClause 5 (some .boolean) (gR 4) [.ref (E.2.1 1), .ref (E.2.1 k1)] I J (fun r1 I1 J1 => r1 = some (.int r.1) ∧ I1 = r.2 ∧ J1 = J) := by
  refine Cu.of "LeapJoin$Tape" rfl hE (by decide) (Nat.le_of_ble_eq_true rfl) (fun z F B e hl => ?_)
  subst hl
  unfold fX6_isClause at h
  refine g_aload_n F 1 dX6_isClause_0 rfl rfl ?_
  refine u_callV (k := k1) (As := []) (rest := []) (sn := fun _ => []) F B (fun _ => wX5_open (zl z) E hE bk k1 hk1 I J) mX5_open q236 rfl hk1.1 rfl rfl rfl (Nat.le_of_ble_eq_true rfl) dX6_isClause_1 (fun _ => rfl) h (fun r1 h => ?_)
  refine g_aload_n F 1 dX6_isClause_4 rfl rfl ?_
  refine g_geti (j := 0) (v := r1 k1 0) F hk1.1 rfl rfl uX5 (by decide) q50 rfl dX6_isClause_5 ?_
  refine g_iconst (v := 1) F dX6_isClause_8 (by decide) ?_
  refine g_isub (v := (r1 k1 0) - 1) F dX6_isClause_9 rfl ?_
  refine g_istore_n (Ln := [(2, .int ((r1 k1 0) - 1)), (0, .ref (E.2.1 1)), (1, .ref (E.2.1 k1))]) F dX6_isClause_10 rfl (by decide) rfl ?_
  refine g_iconst (v := 0) F dX6_isClause_11 (by decide) ?_
  refine g_istore_n (Ln := [(3, .int 0), (2, .int ((r1 k1 0) - 1)), (0, .ref (E.2.1 1)), (1, .ref (E.2.1 k1))]) F dX6_isClause_12 rfl (by decide) rfl ?_
  obtain ⟨w5, ew5, h⟩ := ob h
  refine g_sub (Ln := [(0, .ref (E.2.1 1)), (1, .ref (E.2.1 k1)), (2, .int ((r1 k1 0) - 1)), (3, .int 0)]) [2, 3, 1, 0] rfl ?_
  refine wlX6_isClause_13 F B hE k1 ((r1 k1 0) - 1) hk1 J _ ew5 (fun w5_0 q => ?_) (fun w5_1 q => ?_)
  · subst q
    replace h := oE1 h
    refine g_goto (tgt := 66) F dX6_isClause_47 (by decide) ?_
    refine g_sub (Ln := [(0, .ref (E.2.1 1)), (1, .ref (E.2.1 k1)), (2, .int ((r1 k1 0) - 1))]) [0, 1, 2] rfl ?_
    exact wbX6_isClause_66 F B hE k1 ((r1 k1 0) - 1) hk1 w5_0 J h e
  · subst q
    replace h := oE2 h
    refine g_sub (Ln := [(0, .ref (E.2.1 1)), (1, .ref (E.2.1 k1)), (2, .int ((r1 k1 0) - 1))]) [0, 1, 2] rfl ?_
    exact wbX6_isClause_66 F B hE k1 ((r1 k1 0) - 1) hk1 w5_1 J h e
theorem DX6_readTables_0 : dAre cX6_readTables [(0, .aload_n 0, 1), (1, .iconst 0, 1), (2, .putfield 19, 3), (5, .aload_n 1, 1), (6, .invokevirtual 22, 3), (9, .aload_n 0, 1), (10, .aload_n 1, 1), (11, .invokevirtual 27, 3), (14, .istore_n 2, 1), (15, .iconst 1, 1), (16, .istore_n 3, 1), (17, .iload_n 2, 1), (18, .ifCond .eq 39, 3), (21, .iload_n 3, 1), (22, .iconst 4, 1), (23, .if_icmp .ge 34, 3)] := dAre0 (by decide +kernel)
theorem dX6_readTables_0 : decode cX6_readTables 0 = .ok (.aload_n 0, 1) := DX6_readTables_0.1
theorem dX6_readTables_1 : decode cX6_readTables 1 = .ok (.iconst 0, 1) := DX6_readTables_0.2.1
theorem dX6_readTables_2 : decode cX6_readTables 2 = .ok (.putfield 19, 3) := DX6_readTables_0.2.2.1
theorem dX6_readTables_5 : decode cX6_readTables 5 = .ok (.aload_n 1, 1) := DX6_readTables_0.2.2.2.1
theorem dX6_readTables_6 : decode cX6_readTables 6 = .ok (.invokevirtual 22, 3) := DX6_readTables_0.2.2.2.2.1
theorem dX6_readTables_9 : decode cX6_readTables 9 = .ok (.aload_n 0, 1) := DX6_readTables_0.2.2.2.2.2.1
theorem dX6_readTables_10 : decode cX6_readTables 10 = .ok (.aload_n 1, 1) := DX6_readTables_0.2.2.2.2.2.2.1
theorem dX6_readTables_11 : decode cX6_readTables 11 = .ok (.invokevirtual 27, 3) := DX6_readTables_0.2.2.2.2.2.2.2.1
theorem dX6_readTables_14 : decode cX6_readTables 14 = .ok (.istore_n 2, 1) := DX6_readTables_0.2.2.2.2.2.2.2.2.1
theorem dX6_readTables_15 : decode cX6_readTables 15 = .ok (.iconst 1, 1) := DX6_readTables_0.2.2.2.2.2.2.2.2.2.1
theorem dX6_readTables_16 : decode cX6_readTables 16 = .ok (.istore_n 3, 1) := DX6_readTables_0.2.2.2.2.2.2.2.2.2.2.1
theorem dX6_readTables_17 : decode cX6_readTables 17 = .ok (.iload_n 2, 1) := DX6_readTables_0.2.2.2.2.2.2.2.2.2.2.2.1
theorem dX6_readTables_18 : decode cX6_readTables 18 = .ok (.ifCond .eq 39, 3) := DX6_readTables_0.2.2.2.2.2.2.2.2.2.2.2.2.1
theorem dX6_readTables_21 : decode cX6_readTables 21 = .ok (.iload_n 3, 1) := DX6_readTables_0.2.2.2.2.2.2.2.2.2.2.2.2.2.1
theorem dX6_readTables_22 : decode cX6_readTables 22 = .ok (.iconst 4, 1) := DX6_readTables_0.2.2.2.2.2.2.2.2.2.2.2.2.2.2.1
theorem dX6_readTables_23 : decode cX6_readTables 23 = .ok (.if_icmp .ge 34, 3) := DX6_readTables_0.2.2.2.2.2.2.2.2.2.2.2.2.2.2.2.1
theorem DX6_readTables_26 : dAre cX6_readTables [(26, .aload_n 0, 1), (27, .invokevirtual 31, 3), (30, .bipush 59, 2), (32, .if_icmp .ne 25, 3), (35, .aload_n 0, 1), (36, .dup, 1), (37, .getfield 19, 3), (40, .iconst 1, 1), (41, .iadd, 1), (42, .putfield 19, 3), (45, .aload_n 0, 1), (46, .aload_n 1, 1), (47, .invokevirtual 27, 3), (50, .istore_n 2, 1), (51, .iinc 3 1, 3), (54, .goto (-37), 3)] := dAre0 (by decide +kernel)
theorem dX6_readTables_26 : decode cX6_readTables 26 = .ok (.aload_n 0, 1) := DX6_readTables_26.1
theorem dX6_readTables_27 : decode cX6_readTables 27 = .ok (.invokevirtual 31, 3) := DX6_readTables_26.2.1
theorem dX6_readTables_30 : decode cX6_readTables 30 = .ok (.bipush 59, 2) := DX6_readTables_26.2.2.1
theorem dX6_readTables_32 : decode cX6_readTables 32 = .ok (.if_icmp .ne 25, 3) := DX6_readTables_26.2.2.2.1
theorem dX6_readTables_35 : decode cX6_readTables 35 = .ok (.aload_n 0, 1) := DX6_readTables_26.2.2.2.2.1
theorem dX6_readTables_36 : decode cX6_readTables 36 = .ok (.dup, 1) := DX6_readTables_26.2.2.2.2.2.1
theorem dX6_readTables_37 : decode cX6_readTables 37 = .ok (.getfield 19, 3) := DX6_readTables_26.2.2.2.2.2.2.1
theorem dX6_readTables_40 : decode cX6_readTables 40 = .ok (.iconst 1, 1) := DX6_readTables_26.2.2.2.2.2.2.2.1
theorem dX6_readTables_41 : decode cX6_readTables 41 = .ok (.iadd, 1) := DX6_readTables_26.2.2.2.2.2.2.2.2.1
theorem dX6_readTables_42 : decode cX6_readTables 42 = .ok (.putfield 19, 3) := DX6_readTables_26.2.2.2.2.2.2.2.2.2.1
theorem dX6_readTables_45 : decode cX6_readTables 45 = .ok (.aload_n 0, 1) := DX6_readTables_26.2.2.2.2.2.2.2.2.2.2.1
theorem dX6_readTables_46 : decode cX6_readTables 46 = .ok (.aload_n 1, 1) := DX6_readTables_26.2.2.2.2.2.2.2.2.2.2.2.1
theorem dX6_readTables_47 : decode cX6_readTables 47 = .ok (.invokevirtual 27, 3) := DX6_readTables_26.2.2.2.2.2.2.2.2.2.2.2.2.1
theorem dX6_readTables_50 : decode cX6_readTables 50 = .ok (.istore_n 2, 1) := DX6_readTables_26.2.2.2.2.2.2.2.2.2.2.2.2.2.1
theorem dX6_readTables_51 : decode cX6_readTables 51 = .ok (.iinc 3 1, 3) := DX6_readTables_26.2.2.2.2.2.2.2.2.2.2.2.2.2.2.1
theorem dX6_readTables_54 : decode cX6_readTables 54 = .ok (.goto (-37), 3) := DX6_readTables_26.2.2.2.2.2.2.2.2.2.2.2.2.2.2.2.1
theorem DX6_readTables_57 : dAre cX6_readTables [(57, .iload_n 2, 1), (58, .ifCond .eq 15, 3), (61, .aload_n 0, 1), (62, .invokevirtual 31, 3), (65, .iconst (-1), 1), (66, .if_icmp .ne 7, 3), (69, .iconst (-1), 1), (70, .goto 7, 3), (73, .aload_n 0, 1), (74, .getfield 19, 3), (77, .ireturn, 1)] := dAre0 (by decide +kernel)
theorem dX6_readTables_57 : decode cX6_readTables 57 = .ok (.iload_n 2, 1) := DX6_readTables_57.1
theorem dX6_readTables_58 : decode cX6_readTables 58 = .ok (.ifCond .eq 15, 3) := DX6_readTables_57.2.1
theorem dX6_readTables_61 : decode cX6_readTables 61 = .ok (.aload_n 0, 1) := DX6_readTables_57.2.2.1
theorem dX6_readTables_62 : decode cX6_readTables 62 = .ok (.invokevirtual 31, 3) := DX6_readTables_57.2.2.2.1
theorem dX6_readTables_65 : decode cX6_readTables 65 = .ok (.iconst (-1), 1) := DX6_readTables_57.2.2.2.2.1
theorem dX6_readTables_66 : decode cX6_readTables 66 = .ok (.if_icmp .ne 7, 3) := DX6_readTables_57.2.2.2.2.2.1
theorem dX6_readTables_69 : decode cX6_readTables 69 = .ok (.iconst (-1), 1) := DX6_readTables_57.2.2.2.2.2.2.1
theorem dX6_readTables_70 : decode cX6_readTables 70 = .ok (.goto 7, 3) := DX6_readTables_57.2.2.2.2.2.2.2.1
theorem dX6_readTables_73 : decode cX6_readTables 73 = .ok (.aload_n 0, 1) := DX6_readTables_57.2.2.2.2.2.2.2.2.1
theorem dX6_readTables_74 : decode cX6_readTables 74 = .ok (.getfield 19, 3) := DX6_readTables_57.2.2.2.2.2.2.2.2.2.1
theorem dX6_readTables_77 : decode cX6_readTables 77 = .ok (.ireturn, 1) := DX6_readTables_57.2.2.2.2.2.2.2.2.2.2.1
theorem mX6_readTables : gMv yX6_readTables cX6_readTables 4 (some .int) RX6 1 := ⟨q223, q224, q2, q225, rfl, by decide, by decide, by decide +kernel⟩
noncomputable def lX6_readTables_17 (k1 : Nat) : (Int32 × Int32 × gM) → Option (Int32 × gM) :=
  itO fun s =>
    if s.1 = 0 then
      some (.inr (s.1, s.2.2))
    else
      if (4 : Int32) ≤ s.2.1 then
        some (.inr (s.1, s.2.2))
      else
        (fX6_peek s.2.2).bind fun r4 =>
        if r4.1 = 59 then
          (pU r4.2 1 2 ((r4.2 1 2) + 1)).bind fun I5 =>
          (fX6_isClause k1 I5).bind fun r6 =>
          some (.inl (r6.1, s.2.1 + 1, r6.2))
        else
          some (.inr (s.1, r4.2))
set_option maxRecDepth 100000 in
set_option maxHeartbeats 4000000 in
theorem wlX6_readTables_17 {z : gZ} {E : gE} {bk : Nat} (F : Fx z sh E "LeapJoin$Tape" cX6_readTables (gR 5) 4) (B : bZ z bk) (hE : gDist sh E) (k1 : Nat) (hk1 : shX5 k1) (J : gN) {r : Int32 × gM} : ∀ s : Int32 × Int32 × gM, lX6_readTables_17 k1 s = some r → (G z 57 [(0, .ref (E.2.1 1)), (2, .int r.1)] [] r.2 J) → G z 17 [(0, .ref (E.2.1 1)), (1, .ref (E.2.1 k1)), (2, .int s.1), (3, .int s.2.1)] [] s.2.2 J := by
  intro s h X0
  unfold lX6_readTables_17 at h
  revert s
  refine itO_ind (P := fun s : Int32 × Int32 × gM => G z 17 [(0, .ref (E.2.1 1)), (1, .ref (E.2.1 k1)), (2, .int s.1), (3, .int s.2.1)] [] s.2.2 J) (fun s y h hl hr => ?_)
  have K17_0 : ∀ x : Int32 × gM, y = .inr x → (G z 57 [(0, .ref (E.2.1 1)), (2, .int x.1)] [] x.2 J) := fun x q => by have q2 := hr _ q; subst q2; exact X0
  refine g_iload_n F 2 dX6_readTables_17 rfl rfl ?_
  refine u_if_eq (tgt := 57) F dX6_readTables_18 (by decide) h (fun h => ?_) (fun h => ?_)
  · obtain rfl := Option.some.inj h
    refine g_sub (Ln := [(0, .ref (E.2.1 1)), (2, .int s.1)]) [0, 2] rfl ?_
    exact K17_0 (s.1, s.2.2) rfl
  · refine g_iload_n F 3 dX6_readTables_21 rfl rfl ?_
    refine g_iconst (v := 4) F dX6_readTables_22 (by decide) ?_
    refine u_icmp_ge (tgt := 57) F dX6_readTables_23 (by decide) h (fun h => ?_) (fun h => ?_)
    · obtain rfl := Option.some.inj h
      refine g_sub (Ln := [(0, .ref (E.2.1 1)), (2, .int s.1)]) [0, 2] rfl ?_
      exact K17_0 (s.1, s.2.2) rfl
    · refine g_aload_n F 0 dX6_readTables_26 rfl rfl ?_
      refine u_callV (k := 1) (As := []) (rest := []) (sn := fun r4 => [.int r4.1]) F B (fun _ => wX6_peek (zl z) E hE bk  s.2.2 J) mX6_peek q240 rfl s1 rfl rfl rfl (Nat.le_of_ble_eq_true rfl) dX6_readTables_27 (fun _ => rfl) h (fun r4 h => ?_)
      refine g_bipush (v := 59) F dX6_readTables_30 (by decide) ?_
      refine u_icmp_ne (tgt := 57) F dX6_readTables_32 (by decide) h (fun h => ?_) (fun h => ?_)
      · refine g_aload_n F 0 dX6_readTables_35 rfl rfl ?_
        refine g_dup F dX6_readTables_36 rfl ?_
        refine g_geti (j := 2) (v := r4.2 1 2) F s1 rfl rfl uX6 (by decide) q38 rfl dX6_readTables_37 ?_
        refine g_iconst (v := 1) F dX6_readTables_40 (by decide) ?_
        refine g_iadd (v := (r4.2 1 2) + 1) F dX6_readTables_41 rfl ?_
        refine u_puti (j := 2) F s1 rfl rfl uX6 (by decide) q38 tyX6_ok nmX6 rfl rfl rfl dX6_readTables_42 h (fun I5 h => ?_)
        refine g_aload_n F 0 dX6_readTables_45 rfl rfl ?_
        refine g_aload_n F 1 dX6_readTables_46 rfl rfl ?_
        refine u_callV (k := 1) (As := [.ref (E.2.1 k1)]) (rest := []) (sn := fun r6 => [.int r6.1]) F B (fun _ => wX6_isClause (zl z) E hE bk k1 hk1 I5 J) mX6_isClause q233 rfl s1 rfl rfl rfl (Nat.le_of_ble_eq_true rfl) dX6_readTables_47 (fun _ => rfl) h (fun r6 h => ?_)
        refine g_istore_n (Ln := [(2, .int r6.1), (0, .ref (E.2.1 1)), (1, .ref (E.2.1 k1)), (3, .int s.2.1)]) F dX6_readTables_50 rfl (by decide) rfl ?_
        refine g_iinc (v := s.2.1 + 1) (Ln := [(3, .int (s.2.1 + 1)), (2, .int r6.1), (0, .ref (E.2.1 1)), (1, .ref (E.2.1 k1))]) F 3 dX6_readTables_51 rfl (add_c (by decide)) (by decide) rfl ?_
        refine g_goto (tgt := 17) F dX6_readTables_54 (by decide) ?_
        obtain rfl := Option.some.inj h
        refine g_sub (Ln := [(0, .ref (E.2.1 1)), (1, .ref (E.2.1 k1)), (2, .int r6.1), (3, .int (s.2.1 + 1))]) [2, 3, 1, 0] rfl ?_
        exact hl (r6.1, s.2.1 + 1, r6.2) rfl
      · obtain rfl := Option.some.inj h
        refine g_sub (Ln := [(0, .ref (E.2.1 1)), (2, .int s.1)]) [0, 2] rfl ?_
        exact K17_0 (s.1, r4.2) rfl
noncomputable def bX6_readTables_57 (v2 : Int32) (I : gM) : Option (Int32 × gM) :=
  if v2 = 0 then
    some (I 1 2, I)
  else
    (fX6_peek I).bind fun r8 =>
    if r8.1 = (-1) then
      some (((-1) : Int32), r8.2)
    else
      some (r8.2 1 2, r8.2)
set_option maxRecDepth 100000 in
set_option maxHeartbeats 4000000 in
theorem wbX6_readTables_57 {z : gZ} {E : gE} {bk : Nat} (F : Fx z sh E "LeapJoin$Tape" cX6_readTables (gR 5) 4) (B : bZ z bk) (hE : gDist sh E) (v2 : Int32) (I : gM) (J : gN) {y : Int32 × gM} (h : bX6_readTables_57 v2 I = some y) (e : Fe z sh E (some .int) (fun r1 I1 J1 => r1 = some (.int y.1) ∧ I1 = y.2 ∧ J1 = J)) : G z 57 [(0, .ref (E.2.1 1)), (2, .int v2)] [] I J := by
  unfold bX6_readTables_57 at h
  refine g_iload_n F 1 dX6_readTables_57 rfl rfl ?_
  refine u_if_eq (tgt := 73) F dX6_readTables_58 (by decide) h (fun h => ?_) (fun h => ?_)
  · refine g_aload_n F 0 dX6_readTables_73 rfl rfl ?_
    refine g_geti (j := 2) (v := I 1 2) F s1 rfl rfl uX6 (by decide) q38 rfl dX6_readTables_74 ?_
    obtain rfl := Option.some.inj h
    exact g_iret F e dX6_readTables_77 ⟨rfl, rfl, rfl⟩
  · refine g_aload_n F 0 dX6_readTables_61 rfl rfl ?_
    refine u_callV (k := 1) (As := []) (rest := []) (sn := fun r8 => [.int r8.1]) F B (fun _ => wX6_peek (zl z) E hE bk  I J) mX6_peek q240 rfl s1 rfl rfl rfl (Nat.le_of_ble_eq_true rfl) dX6_readTables_62 (fun _ => rfl) h (fun r8 h => ?_)
    refine g_iconst (v := (-1)) F dX6_readTables_65 (by decide) ?_
    refine u_icmp_ne (tgt := 73) F dX6_readTables_66 (by decide) h (fun h => ?_) (fun h => ?_)
    · refine g_iconst (v := (-1)) F dX6_readTables_69 (by decide) ?_
      refine g_goto (tgt := 77) F dX6_readTables_70 (by decide) ?_
      obtain rfl := Option.some.inj h
      exact g_iret F e dX6_readTables_77 ⟨rfl, rfl, rfl⟩
    · refine g_aload_n F 0 dX6_readTables_73 rfl rfl ?_
      refine g_geti (j := 2) (v := r8.2 1 2) F s1 rfl rfl uX6 (by decide) q38 rfl dX6_readTables_74 ?_
      obtain rfl := Option.some.inj h
      exact g_iret F e dX6_readTables_77 ⟨rfl, rfl, rfl⟩
noncomputable def fX6_readTables (k1 : Nat) (I : gM) : Option (Int32 × gM) :=
  (pU I 1 2 (0 : Int32)).bind fun I1 =>
  (fX5_clear k1 I1).bind fun r2 =>
  (fX6_isClause k1 r2).bind fun r3 =>
  (lX6_readTables_17 k1 (r3.1, (1 : Int32), r3.2)).bind fun w7 =>
  bX6_readTables_57 w7.1 w7.2
set_option maxRecDepth 100000 in
set_option maxHeartbeats 4000000 in
theorem wX6_readTables (l : Launch) (E : gE) (hE : gDist sh E) (bk : Nat) (k1 : Nat) (hk1 : shX5 k1) (I : gM) (J : gN) {r : Int32 × gM} (h : fX6_readTables k1 I = some r) : Cu l sh E bk yX6_readTables cX6_readTables 4 (some .int) (gR 5) [.ref (E.2.1 1), .ref (E.2.1 k1)] I J (fun r1 I1 J1 => r1 = some (.int r.1) ∧ I1 = r.2 ∧ J1 = J) := by
  refine Cu.of "LeapJoin$Tape" rfl hE (by decide) (Nat.le_of_ble_eq_true rfl) (fun z F B e hl => ?_)
  subst hl
  unfold fX6_readTables at h
  refine g_aload_n F 0 dX6_readTables_0 rfl rfl ?_
  refine g_iconst (v := 0) F dX6_readTables_1 (by decide) ?_
  refine u_puti (j := 2) F s1 rfl rfl uX6 (by decide) q38 tyX6_ok nmX6 rfl rfl rfl dX6_readTables_2 h (fun I1 h => ?_)
  refine g_aload_n F 1 dX6_readTables_5 rfl rfl ?_
  refine u_callV (k := k1) (As := []) (rest := []) (sn := fun _ => []) F B (fun _ => wX5_clear (zl z) E hE bk k1 hk1 I1 J) mX5_clear q226 rfl hk1.1 rfl rfl rfl (Nat.le_of_ble_eq_true rfl) dX6_readTables_6 (fun _ => rfl) h (fun r2 h => ?_)
  refine g_aload_n F 0 dX6_readTables_9 rfl rfl ?_
  refine g_aload_n F 1 dX6_readTables_10 rfl rfl ?_
  refine u_callV (k := 1) (As := [.ref (E.2.1 k1)]) (rest := []) (sn := fun r3 => [.int r3.1]) F B (fun _ => wX6_isClause (zl z) E hE bk k1 hk1 r2 J) mX6_isClause q233 rfl s1 rfl rfl rfl (Nat.le_of_ble_eq_true rfl) dX6_readTables_11 (fun _ => rfl) h (fun r3 h => ?_)
  refine g_istore_n (Ln := [(2, .int r3.1), (0, .ref (E.2.1 1)), (1, .ref (E.2.1 k1))]) F dX6_readTables_14 rfl (by decide) rfl ?_
  refine g_iconst (v := 1) F dX6_readTables_15 (by decide) ?_
  refine g_istore_n (Ln := [(3, .int 1), (2, .int r3.1), (0, .ref (E.2.1 1)), (1, .ref (E.2.1 k1))]) F dX6_readTables_16 rfl (by decide) rfl ?_
  obtain ⟨w7, ew7, h⟩ := ob h
  refine g_sub (Ln := [(0, .ref (E.2.1 1)), (1, .ref (E.2.1 k1)), (2, .int r3.1), (3, .int 1)]) [2, 3, 1, 0] rfl ?_
  refine wlX6_readTables_17 F B hE k1 hk1 J _ ew7 ?_
  refine g_sub (Ln := [(0, .ref (E.2.1 1)), (2, .int w7.1)]) [0, 1] rfl ?_
  exact wbX6_readTables_57 F B hE w7.1 w7.2 J h e
theorem DX6_isOrder_0 : dAre cX6_isOrder [(0, .aload_n 0, 1), (1, .invokevirtual 63, 3), (4, .istore_n 2, 1), (5, .iload_n 2, 1), (6, .iconst (-1), 1), (7, .if_icmp .ne 5, 3), (10, .iconst 0, 1), (11, .ireturn, 1), (12, .iload_n 2, 1), (13, .bipush 24, 2), (15, .if_icmp .lt 15, 3), (18, .aload_n 0, 1), (19, .dup, 1), (20, .getfield 19, 3), (23, .iconst 1, 1), (24, .isub, 1)] := dAre0 (by decide +kernel)
theorem dX6_isOrder_0 : decode cX6_isOrder 0 = .ok (.aload_n 0, 1) := DX6_isOrder_0.1
theorem dX6_isOrder_1 : decode cX6_isOrder 1 = .ok (.invokevirtual 63, 3) := DX6_isOrder_0.2.1
theorem dX6_isOrder_4 : decode cX6_isOrder 4 = .ok (.istore_n 2, 1) := DX6_isOrder_0.2.2.1
theorem dX6_isOrder_5 : decode cX6_isOrder 5 = .ok (.iload_n 2, 1) := DX6_isOrder_0.2.2.2.1
theorem dX6_isOrder_6 : decode cX6_isOrder 6 = .ok (.iconst (-1), 1) := DX6_isOrder_0.2.2.2.2.1
theorem dX6_isOrder_7 : decode cX6_isOrder 7 = .ok (.if_icmp .ne 5, 3) := DX6_isOrder_0.2.2.2.2.2.1
theorem dX6_isOrder_10 : decode cX6_isOrder 10 = .ok (.iconst 0, 1) := DX6_isOrder_0.2.2.2.2.2.2.1
theorem dX6_isOrder_11 : decode cX6_isOrder 11 = .ok (.ireturn, 1) := DX6_isOrder_0.2.2.2.2.2.2.2.1
theorem dX6_isOrder_12 : decode cX6_isOrder 12 = .ok (.iload_n 2, 1) := DX6_isOrder_0.2.2.2.2.2.2.2.2.1
theorem dX6_isOrder_13 : decode cX6_isOrder 13 = .ok (.bipush 24, 2) := DX6_isOrder_0.2.2.2.2.2.2.2.2.2.1
theorem dX6_isOrder_15 : decode cX6_isOrder 15 = .ok (.if_icmp .lt 15, 3) := DX6_isOrder_0.2.2.2.2.2.2.2.2.2.2.1
theorem dX6_isOrder_18 : decode cX6_isOrder 18 = .ok (.aload_n 0, 1) := DX6_isOrder_0.2.2.2.2.2.2.2.2.2.2.2.1
theorem dX6_isOrder_19 : decode cX6_isOrder 19 = .ok (.dup, 1) := DX6_isOrder_0.2.2.2.2.2.2.2.2.2.2.2.2.1
theorem dX6_isOrder_20 : decode cX6_isOrder 20 = .ok (.getfield 19, 3) := DX6_isOrder_0.2.2.2.2.2.2.2.2.2.2.2.2.2.1
theorem dX6_isOrder_23 : decode cX6_isOrder 23 = .ok (.iconst 1, 1) := DX6_isOrder_0.2.2.2.2.2.2.2.2.2.2.2.2.2.2.1
theorem dX6_isOrder_24 : decode cX6_isOrder 24 = .ok (.isub, 1) := DX6_isOrder_0.2.2.2.2.2.2.2.2.2.2.2.2.2.2.2.1
theorem DX6_isOrder_25 : dAre cX6_isOrder [(25, .putfield 19, 3), (28, .iconst 0, 1), (29, .ireturn, 1), (30, .aload_n 1, 1), (31, .iconst 3, 1), (32, .iload_n 2, 1), (33, .invokevirtual 73, 3), (36, .iconst 1, 1), (37, .ireturn, 1)] := dAre0 (by decide +kernel)
theorem dX6_isOrder_25 : decode cX6_isOrder 25 = .ok (.putfield 19, 3) := DX6_isOrder_25.1
theorem dX6_isOrder_28 : decode cX6_isOrder 28 = .ok (.iconst 0, 1) := DX6_isOrder_25.2.1
theorem dX6_isOrder_29 : decode cX6_isOrder 29 = .ok (.ireturn, 1) := DX6_isOrder_25.2.2.1
theorem dX6_isOrder_30 : decode cX6_isOrder 30 = .ok (.aload_n 1, 1) := DX6_isOrder_25.2.2.2.1
theorem dX6_isOrder_31 : decode cX6_isOrder 31 = .ok (.iconst 3, 1) := DX6_isOrder_25.2.2.2.2.1
theorem dX6_isOrder_32 : decode cX6_isOrder 32 = .ok (.iload_n 2, 1) := DX6_isOrder_25.2.2.2.2.2.1
theorem dX6_isOrder_33 : decode cX6_isOrder 33 = .ok (.invokevirtual 73, 3) := DX6_isOrder_25.2.2.2.2.2.2.1
theorem dX6_isOrder_36 : decode cX6_isOrder 36 = .ok (.iconst 1, 1) := DX6_isOrder_25.2.2.2.2.2.2.2.1
theorem dX6_isOrder_37 : decode cX6_isOrder 37 = .ok (.ireturn, 1) := DX6_isOrder_25.2.2.2.2.2.2.2.2.1
theorem mX6_isOrder : gMv yX6_isOrder cX6_isOrder 3 (some .boolean) RX6 1 := ⟨q288, q1352, q2, q289, rfl, by decide, by decide, by decide +kernel⟩
noncomputable def fX6_isOrder (k1 : Nat) (I : gM) : Option (Int32 × gM) :=
  (fX6_number I).bind fun r1 =>
  if r1.1 = (-1) then
    some ((0 : Int32), r1.2)
  else
    if r1.1 < 24 then
      (fX4_add k1 (3 : Int32) r1.1 r1.2).bind fun r2 =>
      some ((1 : Int32), r2)
    else
      (pU r1.2 1 2 ((r1.2 1 2) - 1)).bind fun I3 =>
      some ((0 : Int32), I3)
set_option maxRecDepth 100000 in
set_option maxHeartbeats 4000000 in
theorem wX6_isOrder (l : Launch) (E : gE) (hE : gDist sh E) (bk : Nat) (k1 : Nat) (hk1 : shX4 k1) (I : gM) (J : gN) {r : Int32 × gM} (h : fX6_isOrder k1 I = some r) : Cu l sh E bk yX6_isOrder cX6_isOrder 3 (some .boolean) (gR 3) [.ref (E.2.1 1), .ref (E.2.1 k1)] I J (fun r1 I1 J1 => r1 = some (.int r.1) ∧ I1 = r.2 ∧ J1 = J) := by
  refine Cu.of "LeapJoin$Tape" rfl hE (by decide) (Nat.le_of_ble_eq_true rfl) (fun z F B e hl => ?_)
  subst hl
  unfold fX6_isOrder at h
  refine g_aload_n F 0 dX6_isOrder_0 rfl rfl ?_
  refine u_callV (k := 1) (As := []) (rest := []) (sn := fun r1 => [.int r1.1]) F B (fun _ => wX6_number (zl z) E hE bk  I J) mX6_number q261 rfl s1 rfl rfl rfl (Nat.le_of_ble_eq_true rfl) dX6_isOrder_1 (fun _ => rfl) h (fun r1 h => ?_)
  refine g_istore_n (Ln := [(2, .int r1.1), (0, .ref (E.2.1 1)), (1, .ref (E.2.1 k1))]) F dX6_isOrder_4 rfl (by decide) rfl ?_
  refine g_iload_n F 0 dX6_isOrder_5 rfl rfl ?_
  refine g_iconst (v := (-1)) F dX6_isOrder_6 (by decide) ?_
  refine u_icmp_ne (tgt := 12) F dX6_isOrder_7 (by decide) h (fun h => ?_) (fun h => ?_)
  · refine g_iconst (v := 0) F dX6_isOrder_10 (by decide) ?_
    obtain rfl := Option.some.inj h
    exact g_zret F rfl e dX6_isOrder_11 ⟨rfl, rfl, rfl⟩
  · refine g_iload_n F 0 dX6_isOrder_12 rfl rfl ?_
    refine g_bipush (v := 24) F dX6_isOrder_13 (by decide) ?_
    refine u_icmp_lt (tgt := 30) F dX6_isOrder_15 (by decide) h (fun h => ?_) (fun h => ?_)
    · refine g_aload_n F 2 dX6_isOrder_30 rfl rfl ?_
      refine g_iconst (v := 3) F dX6_isOrder_31 (by decide) ?_
      refine g_iload_n F 0 dX6_isOrder_32 rfl rfl ?_
      refine u_callV (k := k1) (As := [.int 3, .int r1.1]) (rest := []) (sn := fun _ => []) F B (fun _ => wX4_add (zl z) E hE bk k1 (3 : Int32) r1.1 hk1 r1.2 J) mX4_add q290 rfl hk1.1 rfl rfl rfl (Nat.le_of_ble_eq_true rfl) dX6_isOrder_33 (fun _ => rfl) h (fun r2 h => ?_)
      refine g_iconst (v := 1) F dX6_isOrder_36 (by decide) ?_
      obtain rfl := Option.some.inj h
      exact g_zret F rfl e dX6_isOrder_37 ⟨rfl, rfl, rfl⟩
    · refine g_aload_n F 1 dX6_isOrder_18 rfl rfl ?_
      refine g_dup F dX6_isOrder_19 rfl ?_
      refine g_geti (j := 2) (v := r1.2 1 2) F s1 rfl rfl uX6 (by decide) q38 rfl dX6_isOrder_20 ?_
      refine g_iconst (v := 1) F dX6_isOrder_23 (by decide) ?_
      refine g_isub (v := (r1.2 1 2) - 1) F dX6_isOrder_24 rfl ?_
      refine u_puti (j := 2) F s1 rfl rfl uX6 (by decide) q38 tyX6_ok nmX6 rfl rfl rfl dX6_isOrder_25 h (fun I3 h => ?_)
      refine g_iconst (v := 0) F dX6_isOrder_28 (by decide) ?_
      obtain rfl := Option.some.inj h
      exact g_zret F rfl e dX6_isOrder_29 ⟨rfl, rfl, rfl⟩
theorem DX6_isRowOfStep_0 : dAre cX6_isRowOfStep [(0, .aload_n 0, 1), (1, .invokevirtual 31, 3), (4, .bipush 58, 2), (6, .if_icmp .eq 5, 3), (9, .iconst 0, 1), (10, .ireturn, 1), (11, .iconst 0, 1), (12, .istore_n 2, 1), (13, .iload_n 2, 1), (14, .iconst 3, 1), (15, .if_icmp .ge 48, 3), (18, .aload_n 0, 1), (19, .dup, 1), (20, .getfield 19, 3), (23, .iconst 1, 1), (24, .iadd, 1)] := dAre0 (by decide +kernel)
theorem dX6_isRowOfStep_0 : decode cX6_isRowOfStep 0 = .ok (.aload_n 0, 1) := DX6_isRowOfStep_0.1
theorem dX6_isRowOfStep_1 : decode cX6_isRowOfStep 1 = .ok (.invokevirtual 31, 3) := DX6_isRowOfStep_0.2.1
theorem dX6_isRowOfStep_4 : decode cX6_isRowOfStep 4 = .ok (.bipush 58, 2) := DX6_isRowOfStep_0.2.2.1
theorem dX6_isRowOfStep_6 : decode cX6_isRowOfStep 6 = .ok (.if_icmp .eq 5, 3) := DX6_isRowOfStep_0.2.2.2.1
theorem dX6_isRowOfStep_9 : decode cX6_isRowOfStep 9 = .ok (.iconst 0, 1) := DX6_isRowOfStep_0.2.2.2.2.1
theorem dX6_isRowOfStep_10 : decode cX6_isRowOfStep 10 = .ok (.ireturn, 1) := DX6_isRowOfStep_0.2.2.2.2.2.1
theorem dX6_isRowOfStep_11 : decode cX6_isRowOfStep 11 = .ok (.iconst 0, 1) := DX6_isRowOfStep_0.2.2.2.2.2.2.1
theorem dX6_isRowOfStep_12 : decode cX6_isRowOfStep 12 = .ok (.istore_n 2, 1) := DX6_isRowOfStep_0.2.2.2.2.2.2.2.1
theorem dX6_isRowOfStep_13 : decode cX6_isRowOfStep 13 = .ok (.iload_n 2, 1) := DX6_isRowOfStep_0.2.2.2.2.2.2.2.2.1
theorem dX6_isRowOfStep_14 : decode cX6_isRowOfStep 14 = .ok (.iconst 3, 1) := DX6_isRowOfStep_0.2.2.2.2.2.2.2.2.2.1
theorem dX6_isRowOfStep_15 : decode cX6_isRowOfStep 15 = .ok (.if_icmp .ge 48, 3) := DX6_isRowOfStep_0.2.2.2.2.2.2.2.2.2.2.1
theorem dX6_isRowOfStep_18 : decode cX6_isRowOfStep 18 = .ok (.aload_n 0, 1) := DX6_isRowOfStep_0.2.2.2.2.2.2.2.2.2.2.2.1
theorem dX6_isRowOfStep_19 : decode cX6_isRowOfStep 19 = .ok (.dup, 1) := DX6_isRowOfStep_0.2.2.2.2.2.2.2.2.2.2.2.2.1
theorem dX6_isRowOfStep_20 : decode cX6_isRowOfStep 20 = .ok (.getfield 19, 3) := DX6_isRowOfStep_0.2.2.2.2.2.2.2.2.2.2.2.2.2.1
theorem dX6_isRowOfStep_23 : decode cX6_isRowOfStep 23 = .ok (.iconst 1, 1) := DX6_isRowOfStep_0.2.2.2.2.2.2.2.2.2.2.2.2.2.2.1
theorem dX6_isRowOfStep_24 : decode cX6_isRowOfStep 24 = .ok (.iadd, 1) := DX6_isRowOfStep_0.2.2.2.2.2.2.2.2.2.2.2.2.2.2.2.1
theorem DX6_isRowOfStep_25 : dAre cX6_isRowOfStep [(25, .putfield 19, 3), (28, .aload_n 0, 1), (29, .invokevirtual 63, 3), (32, .istore_n 3, 1), (33, .iload_n 3, 1), (34, .iconst (-1), 1), (35, .if_icmp .ne 5, 3), (38, .iconst 0, 1), (39, .ireturn, 1), (40, .aload_n 1, 1), (41, .iload_n 2, 1), (42, .iload_n 3, 1), (43, .invokevirtual 79, 3), (46, .aload_n 0, 1), (47, .invokevirtual 31, 3), (50, .bipush 44, 2)] := dAre0 (by decide +kernel)
theorem dX6_isRowOfStep_25 : decode cX6_isRowOfStep 25 = .ok (.putfield 19, 3) := DX6_isRowOfStep_25.1
theorem dX6_isRowOfStep_28 : decode cX6_isRowOfStep 28 = .ok (.aload_n 0, 1) := DX6_isRowOfStep_25.2.1
theorem dX6_isRowOfStep_29 : decode cX6_isRowOfStep 29 = .ok (.invokevirtual 63, 3) := DX6_isRowOfStep_25.2.2.1
theorem dX6_isRowOfStep_32 : decode cX6_isRowOfStep 32 = .ok (.istore_n 3, 1) := DX6_isRowOfStep_25.2.2.2.1
theorem dX6_isRowOfStep_33 : decode cX6_isRowOfStep 33 = .ok (.iload_n 3, 1) := DX6_isRowOfStep_25.2.2.2.2.1
theorem dX6_isRowOfStep_34 : decode cX6_isRowOfStep 34 = .ok (.iconst (-1), 1) := DX6_isRowOfStep_25.2.2.2.2.2.1
theorem dX6_isRowOfStep_35 : decode cX6_isRowOfStep 35 = .ok (.if_icmp .ne 5, 3) := DX6_isRowOfStep_25.2.2.2.2.2.2.1
theorem dX6_isRowOfStep_38 : decode cX6_isRowOfStep 38 = .ok (.iconst 0, 1) := DX6_isRowOfStep_25.2.2.2.2.2.2.2.1
theorem dX6_isRowOfStep_39 : decode cX6_isRowOfStep 39 = .ok (.ireturn, 1) := DX6_isRowOfStep_25.2.2.2.2.2.2.2.2.1
theorem dX6_isRowOfStep_40 : decode cX6_isRowOfStep 40 = .ok (.aload_n 1, 1) := DX6_isRowOfStep_25.2.2.2.2.2.2.2.2.2.1
theorem dX6_isRowOfStep_41 : decode cX6_isRowOfStep 41 = .ok (.iload_n 2, 1) := DX6_isRowOfStep_25.2.2.2.2.2.2.2.2.2.2.1
theorem dX6_isRowOfStep_42 : decode cX6_isRowOfStep 42 = .ok (.iload_n 3, 1) := DX6_isRowOfStep_25.2.2.2.2.2.2.2.2.2.2.2.1
theorem dX6_isRowOfStep_43 : decode cX6_isRowOfStep 43 = .ok (.invokevirtual 79, 3) := DX6_isRowOfStep_25.2.2.2.2.2.2.2.2.2.2.2.2.1
theorem dX6_isRowOfStep_46 : decode cX6_isRowOfStep 46 = .ok (.aload_n 0, 1) := DX6_isRowOfStep_25.2.2.2.2.2.2.2.2.2.2.2.2.2.1
theorem dX6_isRowOfStep_47 : decode cX6_isRowOfStep 47 = .ok (.invokevirtual 31, 3) := DX6_isRowOfStep_25.2.2.2.2.2.2.2.2.2.2.2.2.2.2.1
theorem dX6_isRowOfStep_50 : decode cX6_isRowOfStep 50 = .ok (.bipush 44, 2) := DX6_isRowOfStep_25.2.2.2.2.2.2.2.2.2.2.2.2.2.2.2.1
theorem DX6_isRowOfStep_52 : dAre cX6_isRowOfStep [(52, .if_icmp .eq 5, 3), (55, .iconst 1, 1), (56, .ireturn, 1), (57, .iinc 2 1, 3), (60, .goto (-47), 3), (63, .iconst 1, 1), (64, .ireturn, 1)] := dAre0 (by decide +kernel)
theorem dX6_isRowOfStep_52 : decode cX6_isRowOfStep 52 = .ok (.if_icmp .eq 5, 3) := DX6_isRowOfStep_52.1
theorem dX6_isRowOfStep_55 : decode cX6_isRowOfStep 55 = .ok (.iconst 1, 1) := DX6_isRowOfStep_52.2.1
theorem dX6_isRowOfStep_56 : decode cX6_isRowOfStep 56 = .ok (.ireturn, 1) := DX6_isRowOfStep_52.2.2.1
theorem dX6_isRowOfStep_57 : decode cX6_isRowOfStep 57 = .ok (.iinc 2 1, 3) := DX6_isRowOfStep_52.2.2.2.1
theorem dX6_isRowOfStep_60 : decode cX6_isRowOfStep 60 = .ok (.goto (-47), 3) := DX6_isRowOfStep_52.2.2.2.2.1
theorem dX6_isRowOfStep_63 : decode cX6_isRowOfStep 63 = .ok (.iconst 1, 1) := DX6_isRowOfStep_52.2.2.2.2.2.1
theorem dX6_isRowOfStep_64 : decode cX6_isRowOfStep 64 = .ok (.ireturn, 1) := DX6_isRowOfStep_52.2.2.2.2.2.2.1
theorem mX6_isRowOfStep : gMv yX6_isRowOfStep cX6_isRowOfStep 4 (some .boolean) RX6 1 := ⟨q301, q1353, q2, q302, rfl, by decide, by decide, by decide +kernel⟩
noncomputable def lX6_isRowOfStep_13 (k1 : Nat) : (Int32 × gM) → Option ((gM) ⊕ ((gM) ⊕ (gM))) :=
  itO fun s =>
    if (3 : Int32) ≤ s.1 then
      some (.inr (.inr (.inr s.2)))
    else
      (pU s.2 1 2 ((s.2 1 2) + 1)).bind fun I2 =>
      (fX6_number I2).bind fun r3 =>
      if r3.1 = (-1) then
        some (.inr (.inl r3.2))
      else
        (fX4_setNumber k1 s.1 r3.1 r3.2).bind fun r4 =>
        (fX6_peek r4).bind fun r5 =>
        if r5.1 = 44 then
          some (.inl (s.1 + 1, r5.2))
        else
          some (.inr (.inr (.inl r5.2)))
set_option maxRecDepth 100000 in
set_option maxHeartbeats 4000000 in
theorem wlX6_isRowOfStep_13 {z : gZ} {E : gE} {bk : Nat} (F : Fx z sh E "LeapJoin$Tape" cX6_isRowOfStep (gR 2) 4) (B : bZ z bk) (hE : gDist sh E) (k1 : Nat) (hk1 : shX4 k1) (J : gN) {r : (gM) ⊕ ((gM) ⊕ (gM))} : ∀ s : Int32 × gM, lX6_isRowOfStep_13 k1 s = some r → (∀ x : gM, r = .inl x → G z 38 [] [] x J) → (∀ x : gM, r = .inr (.inl x) → G z 55 [] [] x J) → (∀ x : gM, r = .inr (.inr x) → G z 63 [] [] x J) → G z 13 [(0, .ref (E.2.1 1)), (1, .ref (E.2.1 k1)), (2, .int s.1)] [] s.2 J := by
  intro s h X0 X1 X2
  unfold lX6_isRowOfStep_13 at h
  revert s
  refine itO_ind (P := fun s : Int32 × gM => G z 13 [(0, .ref (E.2.1 1)), (1, .ref (E.2.1 k1)), (2, .int s.1)] [] s.2 J) (fun s y h hl hr => ?_)
  have K13_0 := fun (x : gM) (q : y = .inr (.inl x)) => X0 x (hr _ q).symm
  have K13_1 := fun (x : gM) (q : y = .inr (.inr (.inl x))) => X1 x (hr _ q).symm
  have K13_2 := fun (x : gM) (q : y = .inr (.inr (.inr x))) => X2 x (hr _ q).symm
  refine g_iload_n F 2 dX6_isRowOfStep_13 rfl rfl ?_
  refine g_iconst (v := 3) F dX6_isRowOfStep_14 (by decide) ?_
  refine u_icmp_ge (tgt := 63) F dX6_isRowOfStep_15 (by decide) h (fun h => ?_) (fun h => ?_)
  · obtain rfl := Option.some.inj h
    refine g_sub (Ln := []) [] rfl ?_
    exact K13_2 s.2 rfl
  · refine g_aload_n F 0 dX6_isRowOfStep_18 rfl rfl ?_
    refine g_dup F dX6_isRowOfStep_19 rfl ?_
    refine g_geti (j := 2) (v := s.2 1 2) F s1 rfl rfl uX6 (by decide) q38 rfl dX6_isRowOfStep_20 ?_
    refine g_iconst (v := 1) F dX6_isRowOfStep_23 (by decide) ?_
    refine g_iadd (v := (s.2 1 2) + 1) F dX6_isRowOfStep_24 rfl ?_
    refine u_puti (j := 2) F s1 rfl rfl uX6 (by decide) q38 tyX6_ok nmX6 rfl rfl rfl dX6_isRowOfStep_25 h (fun I2 h => ?_)
    refine g_aload_n F 0 dX6_isRowOfStep_28 rfl rfl ?_
    refine u_callV (k := 1) (As := []) (rest := []) (sn := fun r3 => [.int r3.1]) F B (fun _ => wX6_number (zl z) E hE bk  I2 J) mX6_number q261 rfl s1 rfl rfl rfl (Nat.le_of_ble_eq_true rfl) dX6_isRowOfStep_29 (fun _ => rfl) h (fun r3 h => ?_)
    refine g_istore_n (Ln := [(3, .int r3.1), (0, .ref (E.2.1 1)), (1, .ref (E.2.1 k1)), (2, .int s.1)]) F dX6_isRowOfStep_32 rfl (by decide) rfl ?_
    refine g_iload_n F 0 dX6_isRowOfStep_33 rfl rfl ?_
    refine g_iconst (v := (-1)) F dX6_isRowOfStep_34 (by decide) ?_
    refine u_icmp_ne (tgt := 40) F dX6_isRowOfStep_35 (by decide) h (fun h => ?_) (fun h => ?_)
    · obtain rfl := Option.some.inj h
      refine g_sub (Ln := []) [] rfl ?_
      exact K13_0 r3.2 rfl
    · refine g_aload_n F 2 dX6_isRowOfStep_40 rfl rfl ?_
      refine g_iload_n F 3 dX6_isRowOfStep_41 rfl rfl ?_
      refine g_iload_n F 0 dX6_isRowOfStep_42 rfl rfl ?_
      refine u_callV (k := k1) (As := [.int s.1, .int r3.1]) (rest := []) (sn := fun _ => []) F B (fun _ => wX4_setNumber (zl z) E hE bk k1 s.1 r3.1 hk1 r3.2 J) mX4_setNumber q303 rfl hk1.1 rfl rfl rfl (Nat.le_of_ble_eq_true rfl) dX6_isRowOfStep_43 (fun _ => rfl) h (fun r4 h => ?_)
      refine g_aload_n F 1 dX6_isRowOfStep_46 rfl rfl ?_
      refine u_callV (k := 1) (As := []) (rest := []) (sn := fun r5 => [.int r5.1]) F B (fun _ => wX6_peek (zl z) E hE bk  r4 J) mX6_peek q240 rfl s1 rfl rfl rfl (Nat.le_of_ble_eq_true rfl) dX6_isRowOfStep_47 (fun _ => rfl) h (fun r5 h => ?_)
      refine g_bipush (v := 44) F dX6_isRowOfStep_50 (by decide) ?_
      refine u_icmp_eq (tgt := 57) F dX6_isRowOfStep_52 (by decide) h (fun h => ?_) (fun h => ?_)
      · refine g_iinc (v := s.1 + 1) (Ln := [(2, .int (s.1 + 1)), (3, .int r3.1), (0, .ref (E.2.1 1)), (1, .ref (E.2.1 k1))]) F 3 dX6_isRowOfStep_57 rfl (add_c (by decide)) (by decide) rfl ?_
        refine g_goto (tgt := 13) F dX6_isRowOfStep_60 (by decide) ?_
        obtain rfl := Option.some.inj h
        refine g_sub (Ln := [(0, .ref (E.2.1 1)), (1, .ref (E.2.1 k1)), (2, .int (s.1 + 1))]) [2, 3, 0] rfl ?_
        exact hl (s.1 + 1, r5.2) rfl
      · obtain rfl := Option.some.inj h
        refine g_sub (Ln := []) [] rfl ?_
        exact K13_1 r5.2 rfl
noncomputable def fX6_isRowOfStep (k1 : Nat) (I : gM) : Option (Int32 × gM) :=
  (fX6_peek I).bind fun r1 =>
  if r1.1 = 58 then
    (lX6_isRowOfStep_13 k1 ((0 : Int32), r1.2)).bind fun w6 =>
    Sum.elim (fun w6_0 =>
      some ((0 : Int32), w6_0))
    (Sum.elim (fun w6_1 =>
      some ((1 : Int32), w6_1))
    (fun w6_2 =>
      some ((1 : Int32), w6_2))) w6
  else
    some ((0 : Int32), r1.2)
set_option maxRecDepth 100000 in
set_option maxHeartbeats 4000000 in
theorem wX6_isRowOfStep (l : Launch) (E : gE) (hE : gDist sh E) (bk : Nat) (k1 : Nat) (hk1 : shX4 k1) (I : gM) (J : gN) {r : Int32 × gM} (h : fX6_isRowOfStep k1 I = some r) : Cu l sh E bk yX6_isRowOfStep cX6_isRowOfStep 4 (some .boolean) (gR 2) [.ref (E.2.1 1), .ref (E.2.1 k1)] I J (fun r1 I1 J1 => r1 = some (.int r.1) ∧ I1 = r.2 ∧ J1 = J) := by
  refine Cu.of "LeapJoin$Tape" rfl hE (by decide) (Nat.le_of_ble_eq_true rfl) (fun z F B e hl => ?_)
  subst hl
  unfold fX6_isRowOfStep at h
  refine g_aload_n F 0 dX6_isRowOfStep_0 rfl rfl ?_
  refine u_callV (k := 1) (As := []) (rest := []) (sn := fun r1 => [.int r1.1]) F B (fun _ => wX6_peek (zl z) E hE bk  I J) mX6_peek q240 rfl s1 rfl rfl rfl (Nat.le_of_ble_eq_true rfl) dX6_isRowOfStep_1 (fun _ => rfl) h (fun r1 h => ?_)
  refine g_bipush (v := 58) F dX6_isRowOfStep_4 (by decide) ?_
  refine u_icmp_eq (tgt := 11) F dX6_isRowOfStep_6 (by decide) h (fun h => ?_) (fun h => ?_)
  · refine g_iconst (v := 0) F dX6_isRowOfStep_11 (by decide) ?_
    refine g_istore_n (Ln := [(2, .int 0), (0, .ref (E.2.1 1)), (1, .ref (E.2.1 k1))]) F dX6_isRowOfStep_12 rfl (by decide) rfl ?_
    obtain ⟨w6, ew6, h⟩ := ob h
    refine g_sub (Ln := [(0, .ref (E.2.1 1)), (1, .ref (E.2.1 k1)), (2, .int 0)]) [1, 2, 0] rfl ?_
    refine wlX6_isRowOfStep_13 F B hE k1 hk1 J _ ew6 (fun w6_0 q => ?_) (fun w6_1 q => ?_) (fun w6_2 q => ?_)
    · subst q
      replace h := oE1 h
      refine g_iconst (v := 0) F dX6_isRowOfStep_38 (by decide) ?_
      obtain rfl := Option.some.inj h
      exact g_zret F rfl e dX6_isRowOfStep_39 ⟨rfl, rfl, rfl⟩
    · subst q
      replace h := oE1 (oE2 h)
      refine g_iconst (v := 1) F dX6_isRowOfStep_55 (by decide) ?_
      obtain rfl := Option.some.inj h
      exact g_zret F rfl e dX6_isRowOfStep_56 ⟨rfl, rfl, rfl⟩
    · subst q
      replace h := oE2 (oE2 h)
      refine g_iconst (v := 1) F dX6_isRowOfStep_63 (by decide) ?_
      obtain rfl := Option.some.inj h
      exact g_zret F rfl e dX6_isRowOfStep_64 ⟨rfl, rfl, rfl⟩
  · refine g_iconst (v := 0) F dX6_isRowOfStep_9 (by decide) ?_
    obtain rfl := Option.some.inj h
    exact g_zret F rfl e dX6_isRowOfStep_10 ⟨rfl, rfl, rfl⟩
theorem DX6_isStep_0 : dAre cX6_isStep [(0, .aload_n 0, 1), (1, .invokevirtual 31, 3), (4, .istore_n 2, 1), (5, .iload_n 2, 1), (6, .bipush 112, 2), (8, .if_icmp .eq 23, 3), (11, .iload_n 2, 1), (12, .bipush 116, 2), (14, .if_icmp .eq 17, 3), (17, .iload_n 2, 1), (18, .bipush 117, 2), (20, .if_icmp .eq 11, 3), (23, .iload_n 2, 1), (24, .bipush 111, 2), (26, .if_icmp .eq 5, 3), (29, .iconst 0, 1)] := dAre0 (by decide +kernel)
theorem dX6_isStep_0 : decode cX6_isStep 0 = .ok (.aload_n 0, 1) := DX6_isStep_0.1
theorem dX6_isStep_1 : decode cX6_isStep 1 = .ok (.invokevirtual 31, 3) := DX6_isStep_0.2.1
theorem dX6_isStep_4 : decode cX6_isStep 4 = .ok (.istore_n 2, 1) := DX6_isStep_0.2.2.1
theorem dX6_isStep_5 : decode cX6_isStep 5 = .ok (.iload_n 2, 1) := DX6_isStep_0.2.2.2.1
theorem dX6_isStep_6 : decode cX6_isStep 6 = .ok (.bipush 112, 2) := DX6_isStep_0.2.2.2.2.1
theorem dX6_isStep_8 : decode cX6_isStep 8 = .ok (.if_icmp .eq 23, 3) := DX6_isStep_0.2.2.2.2.2.1
theorem dX6_isStep_11 : decode cX6_isStep 11 = .ok (.iload_n 2, 1) := DX6_isStep_0.2.2.2.2.2.2.1
theorem dX6_isStep_12 : decode cX6_isStep 12 = .ok (.bipush 116, 2) := DX6_isStep_0.2.2.2.2.2.2.2.1
theorem dX6_isStep_14 : decode cX6_isStep 14 = .ok (.if_icmp .eq 17, 3) := DX6_isStep_0.2.2.2.2.2.2.2.2.1
theorem dX6_isStep_17 : decode cX6_isStep 17 = .ok (.iload_n 2, 1) := DX6_isStep_0.2.2.2.2.2.2.2.2.2.1
theorem dX6_isStep_18 : decode cX6_isStep 18 = .ok (.bipush 117, 2) := DX6_isStep_0.2.2.2.2.2.2.2.2.2.2.1
theorem dX6_isStep_20 : decode cX6_isStep 20 = .ok (.if_icmp .eq 11, 3) := DX6_isStep_0.2.2.2.2.2.2.2.2.2.2.2.1
theorem dX6_isStep_23 : decode cX6_isStep 23 = .ok (.iload_n 2, 1) := DX6_isStep_0.2.2.2.2.2.2.2.2.2.2.2.2.1
theorem dX6_isStep_24 : decode cX6_isStep 24 = .ok (.bipush 111, 2) := DX6_isStep_0.2.2.2.2.2.2.2.2.2.2.2.2.2.1
theorem dX6_isStep_26 : decode cX6_isStep 26 = .ok (.if_icmp .eq 5, 3) := DX6_isStep_0.2.2.2.2.2.2.2.2.2.2.2.2.2.2.1
theorem dX6_isStep_29 : decode cX6_isStep 29 = .ok (.iconst 0, 1) := DX6_isStep_0.2.2.2.2.2.2.2.2.2.2.2.2.2.2.2.1
theorem DX6_isStep_30 : dAre cX6_isStep [(30, .ireturn, 1), (31, .aload_n 0, 1), (32, .dup, 1), (33, .getfield 19, 3), (36, .iconst 1, 1), (37, .iadd, 1), (38, .putfield 19, 3), (41, .iload_n 2, 1), (42, .bipush 111, 2), (44, .if_icmp .ne 9, 3), (47, .aload_n 0, 1), (48, .aload_n 1, 1), (49, .invokevirtual 70, 3), (52, .ireturn, 1), (53, .aload_n 0, 1), (54, .invokevirtual 31, 3)] := dAre0 (by decide +kernel)
theorem dX6_isStep_30 : decode cX6_isStep 30 = .ok (.ireturn, 1) := DX6_isStep_30.1
theorem dX6_isStep_31 : decode cX6_isStep 31 = .ok (.aload_n 0, 1) := DX6_isStep_30.2.1
theorem dX6_isStep_32 : decode cX6_isStep 32 = .ok (.dup, 1) := DX6_isStep_30.2.2.1
theorem dX6_isStep_33 : decode cX6_isStep 33 = .ok (.getfield 19, 3) := DX6_isStep_30.2.2.2.1
theorem dX6_isStep_36 : decode cX6_isStep 36 = .ok (.iconst 1, 1) := DX6_isStep_30.2.2.2.2.1
theorem dX6_isStep_37 : decode cX6_isStep 37 = .ok (.iadd, 1) := DX6_isStep_30.2.2.2.2.2.1
theorem dX6_isStep_38 : decode cX6_isStep 38 = .ok (.putfield 19, 3) := DX6_isStep_30.2.2.2.2.2.2.1
theorem dX6_isStep_41 : decode cX6_isStep 41 = .ok (.iload_n 2, 1) := DX6_isStep_30.2.2.2.2.2.2.2.1
theorem dX6_isStep_42 : decode cX6_isStep 42 = .ok (.bipush 111, 2) := DX6_isStep_30.2.2.2.2.2.2.2.2.1
theorem dX6_isStep_44 : decode cX6_isStep 44 = .ok (.if_icmp .ne 9, 3) := DX6_isStep_30.2.2.2.2.2.2.2.2.2.1
theorem dX6_isStep_47 : decode cX6_isStep 47 = .ok (.aload_n 0, 1) := DX6_isStep_30.2.2.2.2.2.2.2.2.2.2.1
theorem dX6_isStep_48 : decode cX6_isStep 48 = .ok (.aload_n 1, 1) := DX6_isStep_30.2.2.2.2.2.2.2.2.2.2.2.1
theorem dX6_isStep_49 : decode cX6_isStep 49 = .ok (.invokevirtual 70, 3) := DX6_isStep_30.2.2.2.2.2.2.2.2.2.2.2.2.1
theorem dX6_isStep_52 : decode cX6_isStep 52 = .ok (.ireturn, 1) := DX6_isStep_30.2.2.2.2.2.2.2.2.2.2.2.2.2.1
theorem dX6_isStep_53 : decode cX6_isStep 53 = .ok (.aload_n 0, 1) := DX6_isStep_30.2.2.2.2.2.2.2.2.2.2.2.2.2.2.1
theorem dX6_isStep_54 : decode cX6_isStep 54 = .ok (.invokevirtual 31, 3) := DX6_isStep_30.2.2.2.2.2.2.2.2.2.2.2.2.2.2.2.1
theorem DX6_isStep_57 : dAre cX6_isStep [(57, .istore_n 3, 1), (58, .iload_n 3, 1), (59, .invokestatic 56, 3), (62, .ifCond .ne 5, 3), (65, .iconst 0, 1), (66, .ireturn, 1), (67, .aload_n 0, 1), (68, .dup, 1), (69, .getfield 19, 3), (72, .iconst 1, 1), (73, .iadd, 1), (74, .putfield 19, 3), (77, .aload_n 1, 1), (78, .iload_n 2, 1), (79, .bipush 112, 2), (81, .if_icmp .ne 7, 3)] := dAre0 (by decide +kernel)
theorem dX6_isStep_57 : decode cX6_isStep 57 = .ok (.istore_n 3, 1) := DX6_isStep_57.1
theorem dX6_isStep_58 : decode cX6_isStep 58 = .ok (.iload_n 3, 1) := DX6_isStep_57.2.1
theorem dX6_isStep_59 : decode cX6_isStep 59 = .ok (.invokestatic 56, 3) := DX6_isStep_57.2.2.1
theorem dX6_isStep_62 : decode cX6_isStep 62 = .ok (.ifCond .ne 5, 3) := DX6_isStep_57.2.2.2.1
theorem dX6_isStep_65 : decode cX6_isStep 65 = .ok (.iconst 0, 1) := DX6_isStep_57.2.2.2.2.1
theorem dX6_isStep_66 : decode cX6_isStep 66 = .ok (.ireturn, 1) := DX6_isStep_57.2.2.2.2.2.1
theorem dX6_isStep_67 : decode cX6_isStep 67 = .ok (.aload_n 0, 1) := DX6_isStep_57.2.2.2.2.2.2.1
theorem dX6_isStep_68 : decode cX6_isStep 68 = .ok (.dup, 1) := DX6_isStep_57.2.2.2.2.2.2.2.1
theorem dX6_isStep_69 : decode cX6_isStep 69 = .ok (.getfield 19, 3) := DX6_isStep_57.2.2.2.2.2.2.2.2.1
theorem dX6_isStep_72 : decode cX6_isStep 72 = .ok (.iconst 1, 1) := DX6_isStep_57.2.2.2.2.2.2.2.2.2.1
theorem dX6_isStep_73 : decode cX6_isStep 73 = .ok (.iadd, 1) := DX6_isStep_57.2.2.2.2.2.2.2.2.2.2.1
theorem dX6_isStep_74 : decode cX6_isStep 74 = .ok (.putfield 19, 3) := DX6_isStep_57.2.2.2.2.2.2.2.2.2.2.2.1
theorem dX6_isStep_77 : decode cX6_isStep 77 = .ok (.aload_n 1, 1) := DX6_isStep_57.2.2.2.2.2.2.2.2.2.2.2.2.1
theorem dX6_isStep_78 : decode cX6_isStep 78 = .ok (.iload_n 2, 1) := DX6_isStep_57.2.2.2.2.2.2.2.2.2.2.2.2.2.1
theorem dX6_isStep_79 : decode cX6_isStep 79 = .ok (.bipush 112, 2) := DX6_isStep_57.2.2.2.2.2.2.2.2.2.2.2.2.2.2.1
theorem dX6_isStep_81 : decode cX6_isStep 81 = .ok (.if_icmp .ne 7, 3) := DX6_isStep_57.2.2.2.2.2.2.2.2.2.2.2.2.2.2.2.1
theorem DX6_isStep_84 : dAre cX6_isStep [(84, .iconst 0, 1), (85, .goto 14, 3), (88, .iload_n 2, 1), (89, .bipush 116, 2), (91, .if_icmp .ne 7, 3), (94, .iconst 1, 1), (95, .goto 4, 3), (98, .iconst 2, 1), (99, .iload_n 3, 1), (100, .bipush 48, 2), (102, .isub, 1), (103, .invokevirtual 73, 3), (106, .iload_n 2, 1), (107, .bipush 117, 2), (109, .if_icmp .eq 11, 3), (112, .aload_n 0, 1)] := dAre0 (by decide +kernel)
theorem dX6_isStep_84 : decode cX6_isStep 84 = .ok (.iconst 0, 1) := DX6_isStep_84.1
theorem dX6_isStep_85 : decode cX6_isStep 85 = .ok (.goto 14, 3) := DX6_isStep_84.2.1
theorem dX6_isStep_88 : decode cX6_isStep 88 = .ok (.iload_n 2, 1) := DX6_isStep_84.2.2.1
theorem dX6_isStep_89 : decode cX6_isStep 89 = .ok (.bipush 116, 2) := DX6_isStep_84.2.2.2.1
theorem dX6_isStep_91 : decode cX6_isStep 91 = .ok (.if_icmp .ne 7, 3) := DX6_isStep_84.2.2.2.2.1
theorem dX6_isStep_94 : decode cX6_isStep 94 = .ok (.iconst 1, 1) := DX6_isStep_84.2.2.2.2.2.1
theorem dX6_isStep_95 : decode cX6_isStep 95 = .ok (.goto 4, 3) := DX6_isStep_84.2.2.2.2.2.2.1
theorem dX6_isStep_98 : decode cX6_isStep 98 = .ok (.iconst 2, 1) := DX6_isStep_84.2.2.2.2.2.2.2.1
theorem dX6_isStep_99 : decode cX6_isStep 99 = .ok (.iload_n 3, 1) := DX6_isStep_84.2.2.2.2.2.2.2.2.1
theorem dX6_isStep_100 : decode cX6_isStep 100 = .ok (.bipush 48, 2) := DX6_isStep_84.2.2.2.2.2.2.2.2.2.1
theorem dX6_isStep_102 : decode cX6_isStep 102 = .ok (.isub, 1) := DX6_isStep_84.2.2.2.2.2.2.2.2.2.2.1
theorem dX6_isStep_103 : decode cX6_isStep 103 = .ok (.invokevirtual 73, 3) := DX6_isStep_84.2.2.2.2.2.2.2.2.2.2.2.1
theorem dX6_isStep_106 : decode cX6_isStep 106 = .ok (.iload_n 2, 1) := DX6_isStep_84.2.2.2.2.2.2.2.2.2.2.2.2.1
theorem dX6_isStep_107 : decode cX6_isStep 107 = .ok (.bipush 117, 2) := DX6_isStep_84.2.2.2.2.2.2.2.2.2.2.2.2.2.1
theorem dX6_isStep_109 : decode cX6_isStep 109 = .ok (.if_icmp .eq 11, 3) := DX6_isStep_84.2.2.2.2.2.2.2.2.2.2.2.2.2.2.1
theorem dX6_isStep_112 : decode cX6_isStep 112 = .ok (.aload_n 0, 1) := DX6_isStep_84.2.2.2.2.2.2.2.2.2.2.2.2.2.2.2.1
theorem DX6_isStep_113 : dAre cX6_isStep [(113, .aload_n 1, 1), (114, .invokevirtual 76, 3), (117, .ifCond .eq 7, 3), (120, .iconst 1, 1), (121, .goto 4, 3), (124, .iconst 0, 1), (125, .ireturn, 1)] := dAre0 (by decide +kernel)
theorem dX6_isStep_113 : decode cX6_isStep 113 = .ok (.aload_n 1, 1) := DX6_isStep_113.1
theorem dX6_isStep_114 : decode cX6_isStep 114 = .ok (.invokevirtual 76, 3) := DX6_isStep_113.2.1
theorem dX6_isStep_117 : decode cX6_isStep 117 = .ok (.ifCond .eq 7, 3) := DX6_isStep_113.2.2.1
theorem dX6_isStep_120 : decode cX6_isStep 120 = .ok (.iconst 1, 1) := DX6_isStep_113.2.2.2.1
theorem dX6_isStep_121 : decode cX6_isStep 121 = .ok (.goto 4, 3) := DX6_isStep_113.2.2.2.2.1
theorem dX6_isStep_124 : decode cX6_isStep 124 = .ok (.iconst 0, 1) := DX6_isStep_113.2.2.2.2.2.1
theorem dX6_isStep_125 : decode cX6_isStep 125 = .ok (.ireturn, 1) := DX6_isStep_113.2.2.2.2.2.2.1
theorem mX6_isStep : gMv yX6_isStep cX6_isStep 4 (some .boolean) RX6 1 := ⟨q285, q1351, q2, q286, rfl, by decide, by decide, by decide +kernel⟩
noncomputable def bX6_isStep_120 (I : gM) : Option (Int32 × gM) :=
  some ((1 : Int32), I)
set_option maxRecDepth 100000 in
set_option maxHeartbeats 4000000 in
theorem wbX6_isStep_120 {z : gZ} {E : gE} {bk : Nat} (F : Fx z sh E "LeapJoin$Tape" cX6_isStep (gR 4) 4) (B : bZ z bk) (hE : gDist sh E) (I : gM) (J : gN) {y : Int32 × gM} (h : bX6_isStep_120 I = some y) (e : Fe z sh E (some .boolean) (fun r1 I1 J1 => r1 = some (.int y.1) ∧ I1 = y.2 ∧ J1 = J)) : G z 120 [] [] I J := by
  unfold bX6_isStep_120 at h
  refine g_iconst (v := 1) F dX6_isStep_120 (by decide) ?_
  refine g_goto (tgt := 125) F dX6_isStep_121 (by decide) ?_
  obtain rfl := Option.some.inj h
  exact g_zret F rfl e dX6_isStep_125 ⟨rfl, rfl, rfl⟩
noncomputable def bX6_isStep_99 (k1 : Nat) (v2 : Int32) (v3 : Int32) (t0 : Int32) (I : gM) : Option (Int32 × gM) :=
  (fX4_add k1 t0 (v3 - 48) I).bind fun r8 =>
  if v2 = 117 then
    bX6_isStep_120 r8
  else
    (fX6_isRowOfStep k1 r8).bind fun r9 =>
    if r9.1 = 0 then
      some ((0 : Int32), r9.2)
    else
      bX6_isStep_120 r9.2
set_option maxRecDepth 100000 in
set_option maxHeartbeats 4000000 in
theorem wbX6_isStep_99 {z : gZ} {E : gE} {bk : Nat} (F : Fx z sh E "LeapJoin$Tape" cX6_isStep (gR 4) 4) (B : bZ z bk) (hE : gDist sh E) (k1 : Nat) (v2 : Int32) (v3 : Int32) (t0 : Int32) (hk1 : shX4 k1) (I : gM) (J : gN) {y : Int32 × gM} (h : bX6_isStep_99 k1 v2 v3 t0 I = some y) (e : Fe z sh E (some .boolean) (fun r1 I1 J1 => r1 = some (.int y.1) ∧ I1 = y.2 ∧ J1 = J)) : G z 99 [(0, .ref (E.2.1 1)), (1, .ref (E.2.1 k1)), (2, .int v2), (3, .int v3)] [.int t0, .ref (E.2.1 k1)] I J := by
  unfold bX6_isStep_99 at h
  refine g_iload_n F 3 dX6_isStep_99 rfl rfl ?_
  refine g_bipush (v := 48) F dX6_isStep_100 (by decide) ?_
  refine g_isub (v := v3 - 48) F dX6_isStep_102 rfl ?_
  refine u_callV (k := k1) (As := [.int t0, .int (v3 - 48)]) (rest := []) (sn := fun _ => []) F B (fun _ => wX4_add (zl z) E hE bk k1 t0 (v3 - 48) hk1 I J) mX4_add q290 rfl hk1.1 rfl rfl rfl (Nat.le_of_ble_eq_true rfl) dX6_isStep_103 (fun _ => rfl) h (fun r8 h => ?_)
  refine g_iload_n F 2 dX6_isStep_106 rfl rfl ?_
  refine g_bipush (v := 117) F dX6_isStep_107 (by decide) ?_
  refine u_icmp_eq (tgt := 120) F dX6_isStep_109 (by decide) h (fun h => ?_) (fun h => ?_)
  · refine g_sub (Ln := []) [] rfl ?_
    exact wbX6_isStep_120 F B hE r8 J h e
  · refine g_aload_n F 0 dX6_isStep_112 rfl rfl ?_
    refine g_aload_n F 1 dX6_isStep_113 rfl rfl ?_
    refine u_callV (k := 1) (As := [.ref (E.2.1 k1)]) (rest := []) (sn := fun r9 => [.int r9.1]) F B (fun _ => wX6_isRowOfStep (zl z) E hE bk k1 hk1 r8 J) mX6_isRowOfStep q300 rfl s1 rfl rfl rfl (Nat.le_of_ble_eq_true rfl) dX6_isStep_114 (fun _ => rfl) h (fun r9 h => ?_)
    refine u_if_eq (tgt := 124) F dX6_isStep_117 (by decide) h (fun h => ?_) (fun h => ?_)
    · refine g_iconst (v := 0) F dX6_isStep_124 (by decide) ?_
      obtain rfl := Option.some.inj h
      exact g_zret F rfl e dX6_isStep_125 ⟨rfl, rfl, rfl⟩
    · refine g_sub (Ln := []) [] rfl ?_
      exact wbX6_isStep_120 F B hE r9.2 J h e
noncomputable def bX6_isStep_31 (k1 : Nat) (v2 : Int32) (I : gM) : Option (Int32 × gM) :=
  (pU I 1 2 ((I 1 2) + 1)).bind fun I2 =>
  if v2 = 111 then
    (fX6_isOrder k1 I2).bind fun r3 =>
    (bO r3.1).bind fun u4 =>
    some (u4, r3.2)
  else
    (fX6_peek I2).bind fun r5 =>
    (fX6_isDigit r5.1).bind fun r6 =>
    if r6 = 0 then
      some ((0 : Int32), r5.2)
    else
      (pU r5.2 1 2 ((r5.2 1 2) + 1)).bind fun I7 =>
      if v2 = 112 then
        bX6_isStep_99 k1 v2 r5.1 (0 : Int32) I7
      else
        if v2 = 116 then
          bX6_isStep_99 k1 v2 r5.1 (1 : Int32) I7
        else
          bX6_isStep_99 k1 v2 r5.1 (2 : Int32) I7
set_option maxRecDepth 100000 in
set_option maxHeartbeats 4000000 in
theorem wbX6_isStep_31 {z : gZ} {E : gE} {bk : Nat} (F : Fx z sh E "LeapJoin$Tape" cX6_isStep (gR 4) 4) (B : bZ z bk) (hE : gDist sh E) (k1 : Nat) (v2 : Int32) (hk1 : shX4 k1) (I : gM) (J : gN) {y : Int32 × gM} (h : bX6_isStep_31 k1 v2 I = some y) (e : Fe z sh E (some .boolean) (fun r1 I1 J1 => r1 = some (.int y.1) ∧ I1 = y.2 ∧ J1 = J)) : G z 31 [(0, .ref (E.2.1 1)), (1, .ref (E.2.1 k1)), (2, .int v2)] [] I J := by
  unfold bX6_isStep_31 at h
  refine g_aload_n F 0 dX6_isStep_31 rfl rfl ?_
  refine g_dup F dX6_isStep_32 rfl ?_
  refine g_geti (j := 2) (v := I 1 2) F s1 rfl rfl uX6 (by decide) q38 rfl dX6_isStep_33 ?_
  refine g_iconst (v := 1) F dX6_isStep_36 (by decide) ?_
  refine g_iadd (v := (I 1 2) + 1) F dX6_isStep_37 rfl ?_
  refine u_puti (j := 2) F s1 rfl rfl uX6 (by decide) q38 tyX6_ok nmX6 rfl rfl rfl dX6_isStep_38 h (fun I2 h => ?_)
  refine g_iload_n F 2 dX6_isStep_41 rfl rfl ?_
  refine g_bipush (v := 111) F dX6_isStep_42 (by decide) ?_
  refine u_icmp_ne (tgt := 53) F dX6_isStep_44 (by decide) h (fun h => ?_) (fun h => ?_)
  · refine g_aload_n F 0 dX6_isStep_47 rfl rfl ?_
    refine g_aload_n F 1 dX6_isStep_48 rfl rfl ?_
    refine u_callV (k := 1) (As := [.ref (E.2.1 k1)]) (rest := []) (sn := fun r3 => [.int r3.1]) F B (fun _ => wX6_isOrder (zl z) E hE bk k1 hk1 I2 J) mX6_isOrder q287 rfl s1 rfl rfl rfl (Nat.le_of_ble_eq_true rfl) dX6_isStep_49 (fun _ => rfl) h (fun r3 h => ?_)
    obtain ⟨u4, eu4, h⟩ := ob h
    obtain ⟨nu4, rfl⟩ := bO_some eu4
    obtain rfl := Option.some.inj h
    exact g_zret F nu4 e dX6_isStep_52 ⟨rfl, rfl, rfl⟩
  · refine g_aload_n F 0 dX6_isStep_53 rfl rfl ?_
    refine u_callV (k := 1) (As := []) (rest := []) (sn := fun r5 => [.int r5.1]) F B (fun _ => wX6_peek (zl z) E hE bk  I2 J) mX6_peek q240 rfl s1 rfl rfl rfl (Nat.le_of_ble_eq_true rfl) dX6_isStep_54 (fun _ => rfl) h (fun r5 h => ?_)
    refine g_istore_n (Ln := [(3, .int r5.1), (0, .ref (E.2.1 1)), (1, .ref (E.2.1 k1)), (2, .int v2)]) F dX6_isStep_57 rfl (by decide) rfl ?_
    refine g_iload_n F 0 dX6_isStep_58 rfl rfl ?_
    refine u_callS (As := [.int r5.1]) (rest := []) (sn := fun r6 => [.int r6]) F B (fun _ => wX6_isDigit (zl z) E hE bk r5.1 r5.2 J) mX6_isDigit q255 rfl rfl rfl (Nat.le_of_ble_eq_true rfl) dX6_isStep_59 (fun _ => rfl) h (fun r6 h => ?_)
    refine u_if_ne (tgt := 67) F dX6_isStep_62 (by decide) h (fun h => ?_) (fun h => ?_)
    · refine g_iconst (v := 0) F dX6_isStep_65 (by decide) ?_
      obtain rfl := Option.some.inj h
      exact g_zret F rfl e dX6_isStep_66 ⟨rfl, rfl, rfl⟩
    · refine g_aload_n F 1 dX6_isStep_67 rfl rfl ?_
      refine g_dup F dX6_isStep_68 rfl ?_
      refine g_geti (j := 2) (v := r5.2 1 2) F s1 rfl rfl uX6 (by decide) q38 rfl dX6_isStep_69 ?_
      refine g_iconst (v := 1) F dX6_isStep_72 (by decide) ?_
      refine g_iadd (v := (r5.2 1 2) + 1) F dX6_isStep_73 rfl ?_
      refine u_puti (j := 2) F s1 rfl rfl uX6 (by decide) q38 tyX6_ok nmX6 rfl rfl rfl dX6_isStep_74 h (fun I7 h => ?_)
      refine g_aload_n F 2 dX6_isStep_77 rfl rfl ?_
      refine g_iload_n F 3 dX6_isStep_78 rfl rfl ?_
      refine g_bipush (v := 112) F dX6_isStep_79 (by decide) ?_
      refine u_icmp_ne (tgt := 88) F dX6_isStep_81 (by decide) h (fun h => ?_) (fun h => ?_)
      · refine g_iconst (v := 0) F dX6_isStep_84 (by decide) ?_
        refine g_goto (tgt := 99) F dX6_isStep_85 (by decide) ?_
        refine g_sub (Ln := [(0, .ref (E.2.1 1)), (1, .ref (E.2.1 k1)), (2, .int v2), (3, .int r5.1)]) [1, 2, 3, 0] rfl ?_
        exact wbX6_isStep_99 F B hE k1 v2 r5.1 (0 : Int32) hk1 I7 J h e
      · refine g_iload_n F 3 dX6_isStep_88 rfl rfl ?_
        refine g_bipush (v := 116) F dX6_isStep_89 (by decide) ?_
        refine u_icmp_ne (tgt := 98) F dX6_isStep_91 (by decide) h (fun h => ?_) (fun h => ?_)
        · refine g_iconst (v := 1) F dX6_isStep_94 (by decide) ?_
          refine g_goto (tgt := 99) F dX6_isStep_95 (by decide) ?_
          refine g_sub (Ln := [(0, .ref (E.2.1 1)), (1, .ref (E.2.1 k1)), (2, .int v2), (3, .int r5.1)]) [1, 2, 3, 0] rfl ?_
          exact wbX6_isStep_99 F B hE k1 v2 r5.1 (1 : Int32) hk1 I7 J h e
        · refine g_iconst (v := 2) F dX6_isStep_98 (by decide) ?_
          refine g_sub (Ln := [(0, .ref (E.2.1 1)), (1, .ref (E.2.1 k1)), (2, .int v2), (3, .int r5.1)]) [1, 2, 3, 0] rfl ?_
          exact wbX6_isStep_99 F B hE k1 v2 r5.1 (2 : Int32) hk1 I7 J h e
noncomputable def fX6_isStep (k1 : Nat) (I : gM) : Option (Int32 × gM) :=
  (fX6_peek I).bind fun r1 =>
  if r1.1 = 112 then
    bX6_isStep_31 k1 r1.1 r1.2
  else
    if r1.1 = 116 then
      bX6_isStep_31 k1 r1.1 r1.2
    else
      if r1.1 = 117 then
        bX6_isStep_31 k1 r1.1 r1.2
      else
        if r1.1 = 111 then
          bX6_isStep_31 k1 r1.1 r1.2
        else
          some ((0 : Int32), r1.2)
set_option maxRecDepth 100000 in
set_option maxHeartbeats 4000000 in
theorem wX6_isStep (l : Launch) (E : gE) (hE : gDist sh E) (bk : Nat) (k1 : Nat) (hk1 : shX4 k1) (I : gM) (J : gN) {r : Int32 × gM} (h : fX6_isStep k1 I = some r) : Cu l sh E bk yX6_isStep cX6_isStep 4 (some .boolean) (gR 4) [.ref (E.2.1 1), .ref (E.2.1 k1)] I J (fun r1 I1 J1 => r1 = some (.int r.1) ∧ I1 = r.2 ∧ J1 = J) := by
  refine Cu.of "LeapJoin$Tape" rfl hE (by decide) (Nat.le_of_ble_eq_true rfl) (fun z F B e hl => ?_)
  subst hl
  unfold fX6_isStep at h
  refine g_aload_n F 0 dX6_isStep_0 rfl rfl ?_
  refine u_callV (k := 1) (As := []) (rest := []) (sn := fun r1 => [.int r1.1]) F B (fun _ => wX6_peek (zl z) E hE bk  I J) mX6_peek q240 rfl s1 rfl rfl rfl (Nat.le_of_ble_eq_true rfl) dX6_isStep_1 (fun _ => rfl) h (fun r1 h => ?_)
  refine g_istore_n (Ln := [(2, .int r1.1), (0, .ref (E.2.1 1)), (1, .ref (E.2.1 k1))]) F dX6_isStep_4 rfl (by decide) rfl ?_
  refine g_iload_n F 0 dX6_isStep_5 rfl rfl ?_
  refine g_bipush (v := 112) F dX6_isStep_6 (by decide) ?_
  refine u_icmp_eq (tgt := 31) F dX6_isStep_8 (by decide) h (fun h => ?_) (fun h => ?_)
  · refine g_sub (Ln := [(0, .ref (E.2.1 1)), (1, .ref (E.2.1 k1)), (2, .int r1.1)]) [1, 2, 0] rfl ?_
    exact wbX6_isStep_31 F B hE k1 r1.1 hk1 r1.2 J h e
  · refine g_iload_n F 0 dX6_isStep_11 rfl rfl ?_
    refine g_bipush (v := 116) F dX6_isStep_12 (by decide) ?_
    refine u_icmp_eq (tgt := 31) F dX6_isStep_14 (by decide) h (fun h => ?_) (fun h => ?_)
    · refine g_sub (Ln := [(0, .ref (E.2.1 1)), (1, .ref (E.2.1 k1)), (2, .int r1.1)]) [1, 2, 0] rfl ?_
      exact wbX6_isStep_31 F B hE k1 r1.1 hk1 r1.2 J h e
    · refine g_iload_n F 0 dX6_isStep_17 rfl rfl ?_
      refine g_bipush (v := 117) F dX6_isStep_18 (by decide) ?_
      refine u_icmp_eq (tgt := 31) F dX6_isStep_20 (by decide) h (fun h => ?_) (fun h => ?_)
      · refine g_sub (Ln := [(0, .ref (E.2.1 1)), (1, .ref (E.2.1 k1)), (2, .int r1.1)]) [1, 2, 0] rfl ?_
        exact wbX6_isStep_31 F B hE k1 r1.1 hk1 r1.2 J h e
      · refine g_iload_n F 0 dX6_isStep_23 rfl rfl ?_
        refine g_bipush (v := 111) F dX6_isStep_24 (by decide) ?_
        refine u_icmp_eq (tgt := 31) F dX6_isStep_26 (by decide) h (fun h => ?_) (fun h => ?_)
        · refine g_sub (Ln := [(0, .ref (E.2.1 1)), (1, .ref (E.2.1 k1)), (2, .int r1.1)]) [1, 2, 0] rfl ?_
          exact wbX6_isStep_31 F B hE k1 r1.1 hk1 r1.2 J h e
        · refine g_iconst (v := 0) F dX6_isStep_29 (by decide) ?_
          obtain rfl := Option.some.inj h
          exact g_zret F rfl e dX6_isStep_30 ⟨rfl, rfl, rfl⟩
theorem DX6_readScript_0 : dAre cX6_readScript [(0, .aload_n 0, 1), (1, .iconst 0, 1), (2, .putfield 19, 3), (5, .aload_n 1, 1), (6, .invokevirtual 35, 3), (9, .aload_n 0, 1), (10, .aload_n 1, 1), (11, .invokevirtual 38, 3), (14, .istore_n 2, 1), (15, .iconst 1, 1), (16, .istore_n 3, 1), (17, .iload_n 2, 1), (18, .ifCond .eq 40, 3), (21, .iload_n 3, 1), (22, .bipush 12, 2), (24, .if_icmp .ge 34, 3)] := dAre0 (by decide +kernel)
theorem dX6_readScript_0 : decode cX6_readScript 0 = .ok (.aload_n 0, 1) := DX6_readScript_0.1
theorem dX6_readScript_1 : decode cX6_readScript 1 = .ok (.iconst 0, 1) := DX6_readScript_0.2.1
theorem dX6_readScript_2 : decode cX6_readScript 2 = .ok (.putfield 19, 3) := DX6_readScript_0.2.2.1
theorem dX6_readScript_5 : decode cX6_readScript 5 = .ok (.aload_n 1, 1) := DX6_readScript_0.2.2.2.1
theorem dX6_readScript_6 : decode cX6_readScript 6 = .ok (.invokevirtual 35, 3) := DX6_readScript_0.2.2.2.2.1
theorem dX6_readScript_9 : decode cX6_readScript 9 = .ok (.aload_n 0, 1) := DX6_readScript_0.2.2.2.2.2.1
theorem dX6_readScript_10 : decode cX6_readScript 10 = .ok (.aload_n 1, 1) := DX6_readScript_0.2.2.2.2.2.2.1
theorem dX6_readScript_11 : decode cX6_readScript 11 = .ok (.invokevirtual 38, 3) := DX6_readScript_0.2.2.2.2.2.2.2.1
theorem dX6_readScript_14 : decode cX6_readScript 14 = .ok (.istore_n 2, 1) := DX6_readScript_0.2.2.2.2.2.2.2.2.1
theorem dX6_readScript_15 : decode cX6_readScript 15 = .ok (.iconst 1, 1) := DX6_readScript_0.2.2.2.2.2.2.2.2.2.1
theorem dX6_readScript_16 : decode cX6_readScript 16 = .ok (.istore_n 3, 1) := DX6_readScript_0.2.2.2.2.2.2.2.2.2.2.1
theorem dX6_readScript_17 : decode cX6_readScript 17 = .ok (.iload_n 2, 1) := DX6_readScript_0.2.2.2.2.2.2.2.2.2.2.2.1
theorem dX6_readScript_18 : decode cX6_readScript 18 = .ok (.ifCond .eq 40, 3) := DX6_readScript_0.2.2.2.2.2.2.2.2.2.2.2.2.1
theorem dX6_readScript_21 : decode cX6_readScript 21 = .ok (.iload_n 3, 1) := DX6_readScript_0.2.2.2.2.2.2.2.2.2.2.2.2.2.1
theorem dX6_readScript_22 : decode cX6_readScript 22 = .ok (.bipush 12, 2) := DX6_readScript_0.2.2.2.2.2.2.2.2.2.2.2.2.2.2.1
theorem dX6_readScript_24 : decode cX6_readScript 24 = .ok (.if_icmp .ge 34, 3) := DX6_readScript_0.2.2.2.2.2.2.2.2.2.2.2.2.2.2.2.1
theorem DX6_readScript_27 : dAre cX6_readScript [(27, .aload_n 0, 1), (28, .invokevirtual 31, 3), (31, .bipush 59, 2), (33, .if_icmp .ne 25, 3), (36, .aload_n 0, 1), (37, .dup, 1), (38, .getfield 19, 3), (41, .iconst 1, 1), (42, .iadd, 1), (43, .putfield 19, 3), (46, .aload_n 0, 1), (47, .aload_n 1, 1), (48, .invokevirtual 38, 3), (51, .istore_n 2, 1), (52, .iinc 3 1, 3), (55, .goto (-38), 3)] := dAre0 (by decide +kernel)
theorem dX6_readScript_27 : decode cX6_readScript 27 = .ok (.aload_n 0, 1) := DX6_readScript_27.1
theorem dX6_readScript_28 : decode cX6_readScript 28 = .ok (.invokevirtual 31, 3) := DX6_readScript_27.2.1
theorem dX6_readScript_31 : decode cX6_readScript 31 = .ok (.bipush 59, 2) := DX6_readScript_27.2.2.1
theorem dX6_readScript_33 : decode cX6_readScript 33 = .ok (.if_icmp .ne 25, 3) := DX6_readScript_27.2.2.2.1
theorem dX6_readScript_36 : decode cX6_readScript 36 = .ok (.aload_n 0, 1) := DX6_readScript_27.2.2.2.2.1
theorem dX6_readScript_37 : decode cX6_readScript 37 = .ok (.dup, 1) := DX6_readScript_27.2.2.2.2.2.1
theorem dX6_readScript_38 : decode cX6_readScript 38 = .ok (.getfield 19, 3) := DX6_readScript_27.2.2.2.2.2.2.1
theorem dX6_readScript_41 : decode cX6_readScript 41 = .ok (.iconst 1, 1) := DX6_readScript_27.2.2.2.2.2.2.2.1
theorem dX6_readScript_42 : decode cX6_readScript 42 = .ok (.iadd, 1) := DX6_readScript_27.2.2.2.2.2.2.2.2.1
theorem dX6_readScript_43 : decode cX6_readScript 43 = .ok (.putfield 19, 3) := DX6_readScript_27.2.2.2.2.2.2.2.2.2.1
theorem dX6_readScript_46 : decode cX6_readScript 46 = .ok (.aload_n 0, 1) := DX6_readScript_27.2.2.2.2.2.2.2.2.2.2.1
theorem dX6_readScript_47 : decode cX6_readScript 47 = .ok (.aload_n 1, 1) := DX6_readScript_27.2.2.2.2.2.2.2.2.2.2.2.1
theorem dX6_readScript_48 : decode cX6_readScript 48 = .ok (.invokevirtual 38, 3) := DX6_readScript_27.2.2.2.2.2.2.2.2.2.2.2.2.1
theorem dX6_readScript_51 : decode cX6_readScript 51 = .ok (.istore_n 2, 1) := DX6_readScript_27.2.2.2.2.2.2.2.2.2.2.2.2.2.1
theorem dX6_readScript_52 : decode cX6_readScript 52 = .ok (.iinc 3 1, 3) := DX6_readScript_27.2.2.2.2.2.2.2.2.2.2.2.2.2.2.1
theorem dX6_readScript_55 : decode cX6_readScript 55 = .ok (.goto (-38), 3) := DX6_readScript_27.2.2.2.2.2.2.2.2.2.2.2.2.2.2.2.1
theorem DX6_readScript_58 : dAre cX6_readScript [(58, .iload_n 2, 1), (59, .ifCond .eq 15, 3), (62, .aload_n 0, 1), (63, .invokevirtual 31, 3), (66, .iconst (-1), 1), (67, .if_icmp .ne 7, 3), (70, .iconst (-1), 1), (71, .goto 7, 3), (74, .aload_n 0, 1), (75, .getfield 19, 3), (78, .ireturn, 1)] := dAre0 (by decide +kernel)
theorem dX6_readScript_58 : decode cX6_readScript 58 = .ok (.iload_n 2, 1) := DX6_readScript_58.1
theorem dX6_readScript_59 : decode cX6_readScript 59 = .ok (.ifCond .eq 15, 3) := DX6_readScript_58.2.1
theorem dX6_readScript_62 : decode cX6_readScript 62 = .ok (.aload_n 0, 1) := DX6_readScript_58.2.2.1
theorem dX6_readScript_63 : decode cX6_readScript 63 = .ok (.invokevirtual 31, 3) := DX6_readScript_58.2.2.2.1
theorem dX6_readScript_66 : decode cX6_readScript 66 = .ok (.iconst (-1), 1) := DX6_readScript_58.2.2.2.2.1
theorem dX6_readScript_67 : decode cX6_readScript 67 = .ok (.if_icmp .ne 7, 3) := DX6_readScript_58.2.2.2.2.2.1
theorem dX6_readScript_70 : decode cX6_readScript 70 = .ok (.iconst (-1), 1) := DX6_readScript_58.2.2.2.2.2.2.1
theorem dX6_readScript_71 : decode cX6_readScript 71 = .ok (.goto 7, 3) := DX6_readScript_58.2.2.2.2.2.2.2.1
theorem dX6_readScript_74 : decode cX6_readScript 74 = .ok (.aload_n 0, 1) := DX6_readScript_58.2.2.2.2.2.2.2.2.1
theorem dX6_readScript_75 : decode cX6_readScript 75 = .ok (.getfield 19, 3) := DX6_readScript_58.2.2.2.2.2.2.2.2.2.1
theorem dX6_readScript_78 : decode cX6_readScript 78 = .ok (.ireturn, 1) := DX6_readScript_58.2.2.2.2.2.2.2.2.2.2.1
theorem mX6_readScript : gMv yX6_readScript cX6_readScript 4 (some .int) RX6 1 := ⟨q277, q278, q2, q279, rfl, by decide, by decide, by decide +kernel⟩
noncomputable def lX6_readScript_17 (k1 : Nat) : (Int32 × Int32 × gM) → Option (Int32 × gM) :=
  itO fun s =>
    if s.1 = 0 then
      some (.inr (s.1, s.2.2))
    else
      if (12 : Int32) ≤ s.2.1 then
        some (.inr (s.1, s.2.2))
      else
        (fX6_peek s.2.2).bind fun r4 =>
        if r4.1 = 59 then
          (pU r4.2 1 2 ((r4.2 1 2) + 1)).bind fun I5 =>
          (fX6_isStep k1 I5).bind fun r6 =>
          some (.inl (r6.1, s.2.1 + 1, r6.2))
        else
          some (.inr (s.1, r4.2))
set_option maxRecDepth 100000 in
set_option maxHeartbeats 4000000 in
theorem wlX6_readScript_17 {z : gZ} {E : gE} {bk : Nat} (F : Fx z sh E "LeapJoin$Tape" cX6_readScript (gR 5) 4) (B : bZ z bk) (hE : gDist sh E) (k1 : Nat) (hk1 : shX4 k1) (J : gN) {r : Int32 × gM} : ∀ s : Int32 × Int32 × gM, lX6_readScript_17 k1 s = some r → (G z 58 [(0, .ref (E.2.1 1)), (2, .int r.1)] [] r.2 J) → G z 17 [(0, .ref (E.2.1 1)), (1, .ref (E.2.1 k1)), (2, .int s.1), (3, .int s.2.1)] [] s.2.2 J := by
  intro s h X0
  unfold lX6_readScript_17 at h
  revert s
  refine itO_ind (P := fun s : Int32 × Int32 × gM => G z 17 [(0, .ref (E.2.1 1)), (1, .ref (E.2.1 k1)), (2, .int s.1), (3, .int s.2.1)] [] s.2.2 J) (fun s y h hl hr => ?_)
  have K17_0 : ∀ x : Int32 × gM, y = .inr x → (G z 58 [(0, .ref (E.2.1 1)), (2, .int x.1)] [] x.2 J) := fun x q => by have q2 := hr _ q; subst q2; exact X0
  refine g_iload_n F 2 dX6_readScript_17 rfl rfl ?_
  refine u_if_eq (tgt := 58) F dX6_readScript_18 (by decide) h (fun h => ?_) (fun h => ?_)
  · obtain rfl := Option.some.inj h
    refine g_sub (Ln := [(0, .ref (E.2.1 1)), (2, .int s.1)]) [0, 2] rfl ?_
    exact K17_0 (s.1, s.2.2) rfl
  · refine g_iload_n F 3 dX6_readScript_21 rfl rfl ?_
    refine g_bipush (v := 12) F dX6_readScript_22 (by decide) ?_
    refine u_icmp_ge (tgt := 58) F dX6_readScript_24 (by decide) h (fun h => ?_) (fun h => ?_)
    · obtain rfl := Option.some.inj h
      refine g_sub (Ln := [(0, .ref (E.2.1 1)), (2, .int s.1)]) [0, 2] rfl ?_
      exact K17_0 (s.1, s.2.2) rfl
    · refine g_aload_n F 0 dX6_readScript_27 rfl rfl ?_
      refine u_callV (k := 1) (As := []) (rest := []) (sn := fun r4 => [.int r4.1]) F B (fun _ => wX6_peek (zl z) E hE bk  s.2.2 J) mX6_peek q240 rfl s1 rfl rfl rfl (Nat.le_of_ble_eq_true rfl) dX6_readScript_28 (fun _ => rfl) h (fun r4 h => ?_)
      refine g_bipush (v := 59) F dX6_readScript_31 (by decide) ?_
      refine u_icmp_ne (tgt := 58) F dX6_readScript_33 (by decide) h (fun h => ?_) (fun h => ?_)
      · refine g_aload_n F 0 dX6_readScript_36 rfl rfl ?_
        refine g_dup F dX6_readScript_37 rfl ?_
        refine g_geti (j := 2) (v := r4.2 1 2) F s1 rfl rfl uX6 (by decide) q38 rfl dX6_readScript_38 ?_
        refine g_iconst (v := 1) F dX6_readScript_41 (by decide) ?_
        refine g_iadd (v := (r4.2 1 2) + 1) F dX6_readScript_42 rfl ?_
        refine u_puti (j := 2) F s1 rfl rfl uX6 (by decide) q38 tyX6_ok nmX6 rfl rfl rfl dX6_readScript_43 h (fun I5 h => ?_)
        refine g_aload_n F 0 dX6_readScript_46 rfl rfl ?_
        refine g_aload_n F 1 dX6_readScript_47 rfl rfl ?_
        refine u_callV (k := 1) (As := [.ref (E.2.1 k1)]) (rest := []) (sn := fun r6 => [.int r6.1]) F B (fun _ => wX6_isStep (zl z) E hE bk k1 hk1 I5 J) mX6_isStep q284 rfl s1 rfl rfl rfl (Nat.le_of_ble_eq_true rfl) dX6_readScript_48 (fun _ => rfl) h (fun r6 h => ?_)
        refine g_istore_n (Ln := [(2, .int r6.1), (0, .ref (E.2.1 1)), (1, .ref (E.2.1 k1)), (3, .int s.2.1)]) F dX6_readScript_51 rfl (by decide) rfl ?_
        refine g_iinc (v := s.2.1 + 1) (Ln := [(3, .int (s.2.1 + 1)), (2, .int r6.1), (0, .ref (E.2.1 1)), (1, .ref (E.2.1 k1))]) F 3 dX6_readScript_52 rfl (add_c (by decide)) (by decide) rfl ?_
        refine g_goto (tgt := 17) F dX6_readScript_55 (by decide) ?_
        obtain rfl := Option.some.inj h
        refine g_sub (Ln := [(0, .ref (E.2.1 1)), (1, .ref (E.2.1 k1)), (2, .int r6.1), (3, .int (s.2.1 + 1))]) [2, 3, 1, 0] rfl ?_
        exact hl (r6.1, s.2.1 + 1, r6.2) rfl
      · obtain rfl := Option.some.inj h
        refine g_sub (Ln := [(0, .ref (E.2.1 1)), (2, .int s.1)]) [0, 2] rfl ?_
        exact K17_0 (s.1, r4.2) rfl
noncomputable def bX6_readScript_58 (v2 : Int32) (I : gM) : Option (Int32 × gM) :=
  if v2 = 0 then
    some (I 1 2, I)
  else
    (fX6_peek I).bind fun r8 =>
    if r8.1 = (-1) then
      some (((-1) : Int32), r8.2)
    else
      some (r8.2 1 2, r8.2)
set_option maxRecDepth 100000 in
set_option maxHeartbeats 4000000 in
theorem wbX6_readScript_58 {z : gZ} {E : gE} {bk : Nat} (F : Fx z sh E "LeapJoin$Tape" cX6_readScript (gR 5) 4) (B : bZ z bk) (hE : gDist sh E) (v2 : Int32) (I : gM) (J : gN) {y : Int32 × gM} (h : bX6_readScript_58 v2 I = some y) (e : Fe z sh E (some .int) (fun r1 I1 J1 => r1 = some (.int y.1) ∧ I1 = y.2 ∧ J1 = J)) : G z 58 [(0, .ref (E.2.1 1)), (2, .int v2)] [] I J := by
  unfold bX6_readScript_58 at h
  refine g_iload_n F 1 dX6_readScript_58 rfl rfl ?_
  refine u_if_eq (tgt := 74) F dX6_readScript_59 (by decide) h (fun h => ?_) (fun h => ?_)
  · refine g_aload_n F 0 dX6_readScript_74 rfl rfl ?_
    refine g_geti (j := 2) (v := I 1 2) F s1 rfl rfl uX6 (by decide) q38 rfl dX6_readScript_75 ?_
    obtain rfl := Option.some.inj h
    exact g_iret F e dX6_readScript_78 ⟨rfl, rfl, rfl⟩
  · refine g_aload_n F 0 dX6_readScript_62 rfl rfl ?_
    refine u_callV (k := 1) (As := []) (rest := []) (sn := fun r8 => [.int r8.1]) F B (fun _ => wX6_peek (zl z) E hE bk  I J) mX6_peek q240 rfl s1 rfl rfl rfl (Nat.le_of_ble_eq_true rfl) dX6_readScript_63 (fun _ => rfl) h (fun r8 h => ?_)
    refine g_iconst (v := (-1)) F dX6_readScript_66 (by decide) ?_
    refine u_icmp_ne (tgt := 74) F dX6_readScript_67 (by decide) h (fun h => ?_) (fun h => ?_)
    · refine g_iconst (v := (-1)) F dX6_readScript_70 (by decide) ?_
      refine g_goto (tgt := 78) F dX6_readScript_71 (by decide) ?_
      obtain rfl := Option.some.inj h
      exact g_iret F e dX6_readScript_78 ⟨rfl, rfl, rfl⟩
    · refine g_aload_n F 0 dX6_readScript_74 rfl rfl ?_
      refine g_geti (j := 2) (v := r8.2 1 2) F s1 rfl rfl uX6 (by decide) q38 rfl dX6_readScript_75 ?_
      obtain rfl := Option.some.inj h
      exact g_iret F e dX6_readScript_78 ⟨rfl, rfl, rfl⟩
noncomputable def fX6_readScript (k1 : Nat) (I : gM) : Option (Int32 × gM) :=
  (pU I 1 2 (0 : Int32)).bind fun I1 =>
  (fX4_clear k1 I1).bind fun r2 =>
  (fX6_isStep k1 r2).bind fun r3 =>
  (lX6_readScript_17 k1 (r3.1, (1 : Int32), r3.2)).bind fun w7 =>
  bX6_readScript_58 w7.1 w7.2
set_option maxRecDepth 100000 in
set_option maxHeartbeats 4000000 in
theorem wX6_readScript (l : Launch) (E : gE) (hE : gDist sh E) (bk : Nat) (k1 : Nat) (hk1 : shX4 k1) (I : gM) (J : gN) {r : Int32 × gM} (h : fX6_readScript k1 I = some r) : Cu l sh E bk yX6_readScript cX6_readScript 4 (some .int) (gR 5) [.ref (E.2.1 1), .ref (E.2.1 k1)] I J (fun r1 I1 J1 => r1 = some (.int r.1) ∧ I1 = r.2 ∧ J1 = J) := by
  refine Cu.of "LeapJoin$Tape" rfl hE (by decide) (Nat.le_of_ble_eq_true rfl) (fun z F B e hl => ?_)
  subst hl
  unfold fX6_readScript at h
  refine g_aload_n F 0 dX6_readScript_0 rfl rfl ?_
  refine g_iconst (v := 0) F dX6_readScript_1 (by decide) ?_
  refine u_puti (j := 2) F s1 rfl rfl uX6 (by decide) q38 tyX6_ok nmX6 rfl rfl rfl dX6_readScript_2 h (fun I1 h => ?_)
  refine g_aload_n F 1 dX6_readScript_5 rfl rfl ?_
  refine u_callV (k := k1) (As := []) (rest := []) (sn := fun _ => []) F B (fun _ => wX4_clear (zl z) E hE bk k1 hk1 I1 J) mX4_clear q280 rfl hk1.1 rfl rfl rfl (Nat.le_of_ble_eq_true rfl) dX6_readScript_6 (fun _ => rfl) h (fun r2 h => ?_)
  refine g_aload_n F 0 dX6_readScript_9 rfl rfl ?_
  refine g_aload_n F 1 dX6_readScript_10 rfl rfl ?_
  refine u_callV (k := 1) (As := [.ref (E.2.1 k1)]) (rest := []) (sn := fun r3 => [.int r3.1]) F B (fun _ => wX6_isStep (zl z) E hE bk k1 hk1 r2 J) mX6_isStep q284 rfl s1 rfl rfl rfl (Nat.le_of_ble_eq_true rfl) dX6_readScript_11 (fun _ => rfl) h (fun r3 h => ?_)
  refine g_istore_n (Ln := [(2, .int r3.1), (0, .ref (E.2.1 1)), (1, .ref (E.2.1 k1))]) F dX6_readScript_14 rfl (by decide) rfl ?_
  refine g_iconst (v := 1) F dX6_readScript_15 (by decide) ?_
  refine g_istore_n (Ln := [(3, .int 1), (2, .int r3.1), (0, .ref (E.2.1 1)), (1, .ref (E.2.1 k1))]) F dX6_readScript_16 rfl (by decide) rfl ?_
  obtain ⟨w7, ew7, h⟩ := ob h
  refine g_sub (Ln := [(0, .ref (E.2.1 1)), (1, .ref (E.2.1 k1)), (2, .int r3.1), (3, .int 1)]) [2, 3, 1, 0] rfl ?_
  refine wlX6_readScript_17 F B hE k1 hk1 J _ ew7 ?_
  refine g_sub (Ln := [(0, .ref (E.2.1 1)), (2, .int w7.1)]) [0, 1] rfl ?_
  exact wbX6_readScript_58 F B hE w7.1 w7.2 J h e
theorem DX7_weigh_0 : dAre cX7_weigh [(0, .aload_n 0, 1), (1, .getfield 9, 3), (4, .ifCond .eq 4, 3), (7, .return_, 1), (8, .iconst 0, 1), (9, .istore_n 3, 1), (10, .iload_n 3, 1), (11, .bipush 24, 2), (13, .if_icmp .ge 66, 3), (16, .aload_n 2, 1), (17, .aload_n 1, 1), (18, .iload_n 3, 1), (19, .invokevirtual 25, 3), (22, .iload_n 3, 1), (23, .ifCond .eq 14, 3), (26, .aload_n 2, 1)] := dAre0 (by decide +kernel)
theorem dX7_weigh_0 : decode cX7_weigh 0 = .ok (.aload_n 0, 1) := DX7_weigh_0.1
theorem dX7_weigh_1 : decode cX7_weigh 1 = .ok (.getfield 9, 3) := DX7_weigh_0.2.1
theorem dX7_weigh_4 : decode cX7_weigh 4 = .ok (.ifCond .eq 4, 3) := DX7_weigh_0.2.2.1
theorem dX7_weigh_7 : decode cX7_weigh 7 = .ok (.return_, 1) := DX7_weigh_0.2.2.2.1
theorem dX7_weigh_8 : decode cX7_weigh 8 = .ok (.iconst 0, 1) := DX7_weigh_0.2.2.2.2.1
theorem dX7_weigh_9 : decode cX7_weigh 9 = .ok (.istore_n 3, 1) := DX7_weigh_0.2.2.2.2.2.1
theorem dX7_weigh_10 : decode cX7_weigh 10 = .ok (.iload_n 3, 1) := DX7_weigh_0.2.2.2.2.2.2.1
theorem dX7_weigh_11 : decode cX7_weigh 11 = .ok (.bipush 24, 2) := DX7_weigh_0.2.2.2.2.2.2.2.1
theorem dX7_weigh_13 : decode cX7_weigh 13 = .ok (.if_icmp .ge 66, 3) := DX7_weigh_0.2.2.2.2.2.2.2.2.1
theorem dX7_weigh_16 : decode cX7_weigh 16 = .ok (.aload_n 2, 1) := DX7_weigh_0.2.2.2.2.2.2.2.2.2.1
theorem dX7_weigh_17 : decode cX7_weigh 17 = .ok (.aload_n 1, 1) := DX7_weigh_0.2.2.2.2.2.2.2.2.2.2.1
theorem dX7_weigh_18 : decode cX7_weigh 18 = .ok (.iload_n 3, 1) := DX7_weigh_0.2.2.2.2.2.2.2.2.2.2.2.1
theorem dX7_weigh_19 : decode cX7_weigh 19 = .ok (.invokevirtual 25, 3) := DX7_weigh_0.2.2.2.2.2.2.2.2.2.2.2.2.1
theorem dX7_weigh_22 : decode cX7_weigh 22 = .ok (.iload_n 3, 1) := DX7_weigh_0.2.2.2.2.2.2.2.2.2.2.2.2.2.1
theorem dX7_weigh_23 : decode cX7_weigh 23 = .ok (.ifCond .eq 14, 3) := DX7_weigh_0.2.2.2.2.2.2.2.2.2.2.2.2.2.2.1
theorem dX7_weigh_26 : decode cX7_weigh 26 = .ok (.aload_n 2, 1) := DX7_weigh_0.2.2.2.2.2.2.2.2.2.2.2.2.2.2.2.1
theorem DX7_weigh_27 : dAre cX7_weigh [(27, .getfield 31, 3), (30, .aload_n 0, 1), (31, .getfield 19, 3), (34, .if_icmp .ge 16, 3), (37, .aload_n 0, 1), (38, .iload_n 3, 1), (39, .putfield 15, 3), (42, .aload_n 0, 1), (43, .aload_n 2, 1), (44, .getfield 31, 3), (47, .putfield 19, 3), (50, .iload_n 3, 1), (51, .ifCond .eq 14, 3), (54, .aload_n 2, 1), (55, .getfield 31, 3), (58, .aload_n 0, 1)] := dAre0 (by decide +kernel)
theorem dX7_weigh_27 : decode cX7_weigh 27 = .ok (.getfield 31, 3) := DX7_weigh_27.1
theorem dX7_weigh_30 : decode cX7_weigh 30 = .ok (.aload_n 0, 1) := DX7_weigh_27.2.1
theorem dX7_weigh_31 : decode cX7_weigh 31 = .ok (.getfield 19, 3) := DX7_weigh_27.2.2.1
theorem dX7_weigh_34 : decode cX7_weigh 34 = .ok (.if_icmp .ge 16, 3) := DX7_weigh_27.2.2.2.1
theorem dX7_weigh_37 : decode cX7_weigh 37 = .ok (.aload_n 0, 1) := DX7_weigh_27.2.2.2.2.1
theorem dX7_weigh_38 : decode cX7_weigh 38 = .ok (.iload_n 3, 1) := DX7_weigh_27.2.2.2.2.2.1
theorem dX7_weigh_39 : decode cX7_weigh 39 = .ok (.putfield 15, 3) := DX7_weigh_27.2.2.2.2.2.2.1
theorem dX7_weigh_42 : decode cX7_weigh 42 = .ok (.aload_n 0, 1) := DX7_weigh_27.2.2.2.2.2.2.2.1
theorem dX7_weigh_43 : decode cX7_weigh 43 = .ok (.aload_n 2, 1) := DX7_weigh_27.2.2.2.2.2.2.2.2.1
theorem dX7_weigh_44 : decode cX7_weigh 44 = .ok (.getfield 31, 3) := DX7_weigh_27.2.2.2.2.2.2.2.2.2.1
theorem dX7_weigh_47 : decode cX7_weigh 47 = .ok (.putfield 19, 3) := DX7_weigh_27.2.2.2.2.2.2.2.2.2.2.1
theorem dX7_weigh_50 : decode cX7_weigh 50 = .ok (.iload_n 3, 1) := DX7_weigh_27.2.2.2.2.2.2.2.2.2.2.2.1
theorem dX7_weigh_51 : decode cX7_weigh 51 = .ok (.ifCond .eq 14, 3) := DX7_weigh_27.2.2.2.2.2.2.2.2.2.2.2.2.1
theorem dX7_weigh_54 : decode cX7_weigh 54 = .ok (.aload_n 2, 1) := DX7_weigh_27.2.2.2.2.2.2.2.2.2.2.2.2.2.1
theorem dX7_weigh_55 : decode cX7_weigh 55 = .ok (.getfield 31, 3) := DX7_weigh_27.2.2.2.2.2.2.2.2.2.2.2.2.2.2.1
theorem dX7_weigh_58 : decode cX7_weigh 58 = .ok (.aload_n 0, 1) := DX7_weigh_27.2.2.2.2.2.2.2.2.2.2.2.2.2.2.2.1
theorem DX7_weigh_59 : dAre cX7_weigh [(59, .getfield 22, 3), (62, .if_icmp .le 11, 3), (65, .aload_n 0, 1), (66, .aload_n 2, 1), (67, .getfield 31, 3), (70, .putfield 22, 3), (73, .iinc 3 1, 3), (76, .goto (-66), 3), (79, .aload_n 0, 1), (80, .iconst 1, 1), (81, .putfield 9, 3), (84, .return_, 1)] := dAre0 (by decide +kernel)
theorem dX7_weigh_59 : decode cX7_weigh 59 = .ok (.getfield 22, 3) := DX7_weigh_59.1
theorem dX7_weigh_62 : decode cX7_weigh 62 = .ok (.if_icmp .le 11, 3) := DX7_weigh_59.2.1
theorem dX7_weigh_65 : decode cX7_weigh 65 = .ok (.aload_n 0, 1) := DX7_weigh_59.2.2.1
theorem dX7_weigh_66 : decode cX7_weigh 66 = .ok (.aload_n 2, 1) := DX7_weigh_59.2.2.2.1
theorem dX7_weigh_67 : decode cX7_weigh 67 = .ok (.getfield 31, 3) := DX7_weigh_59.2.2.2.2.1
theorem dX7_weigh_70 : decode cX7_weigh 70 = .ok (.putfield 22, 3) := DX7_weigh_59.2.2.2.2.2.1
theorem dX7_weigh_73 : decode cX7_weigh 73 = .ok (.iinc 3 1, 3) := DX7_weigh_59.2.2.2.2.2.2.1
theorem dX7_weigh_76 : decode cX7_weigh 76 = .ok (.goto (-66), 3) := DX7_weigh_59.2.2.2.2.2.2.2.1
theorem dX7_weigh_79 : decode cX7_weigh 79 = .ok (.aload_n 0, 1) := DX7_weigh_59.2.2.2.2.2.2.2.2.1
theorem dX7_weigh_80 : decode cX7_weigh 80 = .ok (.iconst 1, 1) := DX7_weigh_59.2.2.2.2.2.2.2.2.2.1
theorem dX7_weigh_81 : decode cX7_weigh 81 = .ok (.putfield 9, 3) := DX7_weigh_59.2.2.2.2.2.2.2.2.2.2.1
theorem dX7_weigh_84 : decode cX7_weigh 84 = .ok (.return_, 1) := DX7_weigh_59.2.2.2.2.2.2.2.2.2.2.2.1
theorem mX7_weigh : gMv yX7_weigh cX7_weigh 4 none RX7 2 := ⟨q446, q447, q6, q448, rfl, by decide, by decide, by decide +kernel⟩
noncomputable def bX7_weigh_73 (v3 : Int32) (I : gM) : Option ((Int32 × gM) ⊕ (gM)) :=
  some (.inl (v3 + 1, I))
set_option maxRecDepth 100000 in
set_option maxHeartbeats 4000000 in
theorem wbX7_weigh_73 {z : gZ} {E : gE} {bk : Nat} (F : Fx z sh E "LeapJoin$Weights" cX7_weigh (gR 16) 4) (B : bZ z bk) (hE : gDist sh E) (k1 : Nat) (k2 : Nat) (v3 : Int32) (hk1 : shX5 k1) (hk2 : shX1 k2) (I : gM) (J : gN) {y : (Int32 × gM) ⊕ (gM)} (h : bX7_weigh_73 v3 I = some y) (hl : ∀ s' : Int32 × gM, y = .inl s' → G z 10 [(0, .ref (E.2.1 43)), (1, .ref (E.2.1 k1)), (2, .ref (E.2.1 k2)), (3, .int (s'.1))] [] s'.2 J) (K10_0 : ∀ x : gM, y = .inr x → G z 79 [(0, .ref (E.2.1 43))] [] x J) : G z 73 [(0, .ref (E.2.1 43)), (1, .ref (E.2.1 k1)), (2, .ref (E.2.1 k2)), (3, .int v3)] [] I J := by
  unfold bX7_weigh_73 at h
  refine g_iinc (v := v3 + 1) (Ln := [(3, .int (v3 + 1)), (0, .ref (E.2.1 43)), (1, .ref (E.2.1 k1)), (2, .ref (E.2.1 k2))]) F 3 dX7_weigh_73 rfl (add_c (by decide)) (by decide) rfl ?_
  refine g_goto (tgt := 10) F dX7_weigh_76 (by decide) ?_
  obtain rfl := Option.some.inj h
  refine g_sub (Ln := [(0, .ref (E.2.1 43)), (1, .ref (E.2.1 k1)), (2, .ref (E.2.1 k2)), (3, .int (v3 + 1))]) [1, 2, 3, 0] rfl ?_
  exact hl (v3 + 1, I) rfl
noncomputable def bX7_weigh_65 (k2 : Nat) (v3 : Int32) (I : gM) : Option ((Int32 × gM) ⊕ (gM)) :=
  (pU I 43 3 (I k2 1)).bind fun I4 =>
  bX7_weigh_73 v3 I4
set_option maxRecDepth 100000 in
set_option maxHeartbeats 4000000 in
theorem wbX7_weigh_65 {z : gZ} {E : gE} {bk : Nat} (F : Fx z sh E "LeapJoin$Weights" cX7_weigh (gR 16) 4) (B : bZ z bk) (hE : gDist sh E) (k1 : Nat) (k2 : Nat) (v3 : Int32) (hk1 : shX5 k1) (hk2 : shX1 k2) (I : gM) (J : gN) {y : (Int32 × gM) ⊕ (gM)} (h : bX7_weigh_65 k2 v3 I = some y) (hl : ∀ s' : Int32 × gM, y = .inl s' → G z 10 [(0, .ref (E.2.1 43)), (1, .ref (E.2.1 k1)), (2, .ref (E.2.1 k2)), (3, .int (s'.1))] [] s'.2 J) (K10_0 : ∀ x : gM, y = .inr x → G z 79 [(0, .ref (E.2.1 43))] [] x J) : G z 65 [(0, .ref (E.2.1 43)), (1, .ref (E.2.1 k1)), (2, .ref (E.2.1 k2)), (3, .int v3)] [] I J := by
  unfold bX7_weigh_65 at h
  refine g_aload_n F 0 dX7_weigh_65 rfl rfl ?_
  refine g_aload_n F 2 dX7_weigh_66 rfl rfl ?_
  refine g_geti (j := 1) (v := I k2 1) F hk2.1 rfl rfl uX1 (by decide) q81 rfl dX7_weigh_67 ?_
  refine u_puti (j := 3) F s43 rfl rfl uX7 (by decide) q130 tyX7_ok nmX7 rfl rfl rfl dX7_weigh_70 h (fun I4 h => ?_)
  refine g_sub (Ln := [(0, .ref (E.2.1 43)), (1, .ref (E.2.1 k1)), (2, .ref (E.2.1 k2)), (3, .int v3)]) [0, 1, 2, 3] rfl ?_
  exact wbX7_weigh_73 F B hE k1 k2 v3 hk1 hk2 I4 J h hl K10_0
noncomputable def bX7_weigh_50 (k2 : Nat) (v3 : Int32) (I : gM) : Option ((Int32 × gM) ⊕ (gM)) :=
  if v3 = 0 then
    bX7_weigh_65 k2 v3 I
  else
    if (I k2 1) ≤ (I 43 3) then
      bX7_weigh_73 v3 I
    else
      bX7_weigh_65 k2 v3 I
set_option maxRecDepth 100000 in
set_option maxHeartbeats 4000000 in
theorem wbX7_weigh_50 {z : gZ} {E : gE} {bk : Nat} (F : Fx z sh E "LeapJoin$Weights" cX7_weigh (gR 16) 4) (B : bZ z bk) (hE : gDist sh E) (k1 : Nat) (k2 : Nat) (v3 : Int32) (hk1 : shX5 k1) (hk2 : shX1 k2) (I : gM) (J : gN) {y : (Int32 × gM) ⊕ (gM)} (h : bX7_weigh_50 k2 v3 I = some y) (hl : ∀ s' : Int32 × gM, y = .inl s' → G z 10 [(0, .ref (E.2.1 43)), (1, .ref (E.2.1 k1)), (2, .ref (E.2.1 k2)), (3, .int (s'.1))] [] s'.2 J) (K10_0 : ∀ x : gM, y = .inr x → G z 79 [(0, .ref (E.2.1 43))] [] x J) : G z 50 [(0, .ref (E.2.1 43)), (1, .ref (E.2.1 k1)), (2, .ref (E.2.1 k2)), (3, .int v3)] [] I J := by
  unfold bX7_weigh_50 at h
  refine g_iload_n F 3 dX7_weigh_50 rfl rfl ?_
  refine u_if_eq (tgt := 65) F dX7_weigh_51 (by decide) h (fun h => ?_) (fun h => ?_)
  · refine g_sub (Ln := [(0, .ref (E.2.1 43)), (1, .ref (E.2.1 k1)), (2, .ref (E.2.1 k2)), (3, .int v3)]) [0, 1, 2, 3] rfl ?_
    exact wbX7_weigh_65 F B hE k1 k2 v3 hk1 hk2 I J h hl K10_0
  · refine g_aload_n F 2 dX7_weigh_54 rfl rfl ?_
    refine g_geti (j := 1) (v := I k2 1) F hk2.1 rfl rfl uX1 (by decide) q81 rfl dX7_weigh_55 ?_
    refine g_aload_n F 0 dX7_weigh_58 rfl rfl ?_
    refine g_geti (j := 3) (v := I 43 3) F s43 rfl rfl uX7 (by decide) q130 rfl dX7_weigh_59 ?_
    refine u_icmp_le (tgt := 73) F dX7_weigh_62 (by decide) h (fun h => ?_) (fun h => ?_)
    · refine g_sub (Ln := [(0, .ref (E.2.1 43)), (1, .ref (E.2.1 k1)), (2, .ref (E.2.1 k2)), (3, .int v3)]) [0, 1, 2, 3] rfl ?_
      exact wbX7_weigh_73 F B hE k1 k2 v3 hk1 hk2 I J h hl K10_0
    · refine g_sub (Ln := [(0, .ref (E.2.1 43)), (1, .ref (E.2.1 k1)), (2, .ref (E.2.1 k2)), (3, .int v3)]) [0, 1, 2, 3] rfl ?_
      exact wbX7_weigh_65 F B hE k1 k2 v3 hk1 hk2 I J h hl K10_0
noncomputable def bX7_weigh_37 (k2 : Nat) (v3 : Int32) (I : gM) : Option ((Int32 × gM) ⊕ (gM)) :=
  (pU I 43 1 v3).bind fun I2 =>
  (pU I2 43 2 (I2 k2 1)).bind fun I3 =>
  bX7_weigh_50 k2 v3 I3
set_option maxRecDepth 100000 in
set_option maxHeartbeats 4000000 in
theorem wbX7_weigh_37 {z : gZ} {E : gE} {bk : Nat} (F : Fx z sh E "LeapJoin$Weights" cX7_weigh (gR 16) 4) (B : bZ z bk) (hE : gDist sh E) (k1 : Nat) (k2 : Nat) (v3 : Int32) (hk1 : shX5 k1) (hk2 : shX1 k2) (I : gM) (J : gN) {y : (Int32 × gM) ⊕ (gM)} (h : bX7_weigh_37 k2 v3 I = some y) (hl : ∀ s' : Int32 × gM, y = .inl s' → G z 10 [(0, .ref (E.2.1 43)), (1, .ref (E.2.1 k1)), (2, .ref (E.2.1 k2)), (3, .int (s'.1))] [] s'.2 J) (K10_0 : ∀ x : gM, y = .inr x → G z 79 [(0, .ref (E.2.1 43))] [] x J) : G z 37 [(0, .ref (E.2.1 43)), (1, .ref (E.2.1 k1)), (2, .ref (E.2.1 k2)), (3, .int v3)] [] I J := by
  unfold bX7_weigh_37 at h
  refine g_aload_n F 0 dX7_weigh_37 rfl rfl ?_
  refine g_iload_n F 3 dX7_weigh_38 rfl rfl ?_
  refine u_puti (j := 1) F s43 rfl rfl uX7 (by decide) q126 tyX7_ok nmX7 rfl rfl rfl dX7_weigh_39 h (fun I2 h => ?_)
  refine g_aload_n F 0 dX7_weigh_42 rfl rfl ?_
  refine g_aload_n F 2 dX7_weigh_43 rfl rfl ?_
  refine g_geti (j := 1) (v := I2 k2 1) F hk2.1 rfl rfl uX1 (by decide) q81 rfl dX7_weigh_44 ?_
  refine u_puti (j := 2) F s43 rfl rfl uX7 (by decide) q128 tyX7_ok nmX7 rfl rfl rfl dX7_weigh_47 h (fun I3 h => ?_)
  refine g_sub (Ln := [(0, .ref (E.2.1 43)), (1, .ref (E.2.1 k1)), (2, .ref (E.2.1 k2)), (3, .int v3)]) [0, 1, 2, 3] rfl ?_
  exact wbX7_weigh_50 F B hE k1 k2 v3 hk1 hk2 I3 J h hl K10_0
noncomputable def lX7_weigh_10 (k1 : Nat) (k2 : Nat) : (Int32 × gM) → Option (gM) :=
  itO fun s =>
    if (24 : Int32) ≤ s.1 then
      some (.inr s.2)
    else
      (fX1_findBy k2 k1 s.1 s.2).bind fun r1 =>
      if s.1 = 0 then
        bX7_weigh_37 k2 s.1 r1
      else
        if (r1 43 2) ≤ (r1 k2 1) then
          bX7_weigh_50 k2 s.1 r1
        else
          bX7_weigh_37 k2 s.1 r1
set_option maxRecDepth 100000 in
set_option maxHeartbeats 4000000 in
theorem wlX7_weigh_10 {z : gZ} {E : gE} {bk : Nat} (F : Fx z sh E "LeapJoin$Weights" cX7_weigh (gR 16) 4) (B : bZ z bk) (hE : gDist sh E) (k1 : Nat) (k2 : Nat) (hk1 : shX5 k1) (hk2 : shX1 k2) (J : gN) {r : gM} : ∀ s : Int32 × gM, lX7_weigh_10 k1 k2 s = some r → (G z 79 [(0, .ref (E.2.1 43))] [] r J) → G z 10 [(0, .ref (E.2.1 43)), (1, .ref (E.2.1 k1)), (2, .ref (E.2.1 k2)), (3, .int s.1)] [] s.2 J := by
  intro s h X0
  unfold lX7_weigh_10 at h
  revert s
  refine itO_ind (P := fun s : Int32 × gM => G z 10 [(0, .ref (E.2.1 43)), (1, .ref (E.2.1 k1)), (2, .ref (E.2.1 k2)), (3, .int s.1)] [] s.2 J) (fun s y h hl hr => ?_)
  have K10_0 : ∀ x : gM, y = .inr x → (G z 79 [(0, .ref (E.2.1 43))] [] x J) := fun x q => by have q2 := hr _ q; subst q2; exact X0
  refine g_iload_n F 3 dX7_weigh_10 rfl rfl ?_
  refine g_bipush (v := 24) F dX7_weigh_11 (by decide) ?_
  refine u_icmp_ge (tgt := 79) F dX7_weigh_13 (by decide) h (fun h => ?_) (fun h => ?_)
  · obtain rfl := Option.some.inj h
    refine g_sub (Ln := [(0, .ref (E.2.1 43))]) [0] rfl ?_
    exact K10_0 s.2 rfl
  · refine g_aload_n F 2 dX7_weigh_16 rfl rfl ?_
    refine g_aload_n F 1 dX7_weigh_17 rfl rfl ?_
    refine g_iload_n F 3 dX7_weigh_18 rfl rfl ?_
    refine u_callV (k := k2) (As := [.ref (E.2.1 k1), .int s.1]) (rest := []) (sn := fun _ => []) F B (fun _ => wX1_findBy (zl z) E hE bk k2 k1 s.1 hk2 hk1 s.2 J) mX1_findBy q449 rfl hk2.1 rfl rfl rfl (Nat.le_of_ble_eq_true rfl) dX7_weigh_19 (fun _ => rfl) h (fun r1 h => ?_)
    refine g_iload_n F 3 dX7_weigh_22 rfl rfl ?_
    refine u_if_eq (tgt := 37) F dX7_weigh_23 (by decide) h (fun h => ?_) (fun h => ?_)
    · refine g_sub (Ln := [(0, .ref (E.2.1 43)), (1, .ref (E.2.1 k1)), (2, .ref (E.2.1 k2)), (3, .int s.1)]) [0, 1, 2, 3] rfl ?_
      exact wbX7_weigh_37 F B hE k1 k2 s.1 hk1 hk2 r1 J h hl K10_0
    · refine g_aload_n F 2 dX7_weigh_26 rfl rfl ?_
      refine g_geti (j := 1) (v := r1 k2 1) F hk2.1 rfl rfl uX1 (by decide) q81 rfl dX7_weigh_27 ?_
      refine g_aload_n F 0 dX7_weigh_30 rfl rfl ?_
      refine g_geti (j := 2) (v := r1 43 2) F s43 rfl rfl uX7 (by decide) q128 rfl dX7_weigh_31 ?_
      refine u_icmp_ge (tgt := 50) F dX7_weigh_34 (by decide) h (fun h => ?_) (fun h => ?_)
      · refine g_sub (Ln := [(0, .ref (E.2.1 43)), (1, .ref (E.2.1 k1)), (2, .ref (E.2.1 k2)), (3, .int s.1)]) [0, 1, 2, 3] rfl ?_
        exact wbX7_weigh_50 F B hE k1 k2 s.1 hk1 hk2 r1 J h hl K10_0
      · refine g_sub (Ln := [(0, .ref (E.2.1 43)), (1, .ref (E.2.1 k1)), (2, .ref (E.2.1 k2)), (3, .int s.1)]) [0, 1, 2, 3] rfl ?_
        exact wbX7_weigh_37 F B hE k1 k2 s.1 hk1 hk2 r1 J h hl K10_0
noncomputable def fX7_weigh (k1 : Nat) (k2 : Nat) (I : gM) : Option (gM) :=
  if (I 43 0) = 0 then
    (lX7_weigh_10 k1 k2 ((0 : Int32), I)).bind fun w5 =>
    (pU w5 43 0 (1 : Int32)).bind fun I6 =>
    some I6
  else
    some I
set_option maxRecDepth 100000 in
set_option maxHeartbeats 4000000 in
theorem wX7_weigh (l : Launch) (E : gE) (hE : gDist sh E) (bk : Nat) (k1 : Nat) (k2 : Nat) (hk1 : shX5 k1) (hk2 : shX1 k2) (I : gM) (J : gN) {r : gM} (h : fX7_weigh k1 k2 I = some r) : Cu l sh E bk yX7_weigh cX7_weigh 4 none (gR 16) [.ref (E.2.1 43), .ref (E.2.1 k1), .ref (E.2.1 k2)] I J (fun r1 I1 J1 => r1 = none ∧ I1 = r ∧ J1 = J) := by
  refine Cu.of "LeapJoin$Weights" rfl hE (by decide) (Nat.le_of_ble_eq_true rfl) (fun z F B e hl => ?_)
  subst hl
  unfold fX7_weigh at h
  refine g_aload_n F 0 dX7_weigh_0 rfl rfl ?_
  refine g_geti (j := 0) (v := I 43 0) F s43 rfl rfl uX7 (by decide) q124 rfl dX7_weigh_1 ?_
  refine u_if_eq (tgt := 8) F dX7_weigh_4 (by decide) h (fun h => ?_) (fun h => ?_)
  · refine g_iconst (v := 0) F dX7_weigh_8 (by decide) ?_
    refine g_istore_n (Ln := [(3, .int 0), (0, .ref (E.2.1 43)), (1, .ref (E.2.1 k1)), (2, .ref (E.2.1 k2))]) F dX7_weigh_9 rfl (by decide) rfl ?_
    obtain ⟨w5, ew5, h⟩ := ob h
    refine g_sub (Ln := [(0, .ref (E.2.1 43)), (1, .ref (E.2.1 k1)), (2, .ref (E.2.1 k2)), (3, .int 0)]) [1, 2, 3, 0] rfl ?_
    refine wlX7_weigh_10 F B hE k1 k2 hk1 hk2 J _ ew5 ?_
    refine g_aload_n F 0 dX7_weigh_79 rfl rfl ?_
    refine g_iconst (v := 1) F dX7_weigh_80 (by decide) ?_
    refine u_puti (j := 0) F s43 rfl rfl uX7 (by decide) q124 tyX7_ok nmX7 rfl rfl rfl dX7_weigh_81 h (fun I6 h => ?_)
    obtain rfl := Option.some.inj h
    exact g_vret F e dX7_weigh_84 ⟨rfl, rfl, rfl⟩
  · obtain rfl := Option.some.inj h
    exact g_vret F e dX7_weigh_7 ⟨rfl, rfl, rfl⟩
theorem DX8_feed_0 : dAre cX8_feed [(0, .iload_n 1, 1), (1, .invokestatic 97, 3), (4, .iload_n 2, 1), (5, .invokestatic 97, 3), (8, .iadd, 1), (9, .iload_n 3, 1), (10, .invokestatic 97, 3), (13, .iadd, 1), (14, .iload 4, 2), (16, .invokestatic 97, 3), (19, .iadd, 1), (20, .iload 5, 2), (22, .invokestatic 97, 3), (25, .iadd, 1), (26, .istore 6, 2), (28, .aload_n 0, 1)] := dAre0 (by decide +kernel)
theorem dX8_feed_0 : decode cX8_feed 0 = .ok (.iload_n 1, 1) := DX8_feed_0.1
theorem dX8_feed_1 : decode cX8_feed 1 = .ok (.invokestatic 97, 3) := DX8_feed_0.2.1
theorem dX8_feed_4 : decode cX8_feed 4 = .ok (.iload_n 2, 1) := DX8_feed_0.2.2.1
theorem dX8_feed_5 : decode cX8_feed 5 = .ok (.invokestatic 97, 3) := DX8_feed_0.2.2.2.1
theorem dX8_feed_8 : decode cX8_feed 8 = .ok (.iadd, 1) := DX8_feed_0.2.2.2.2.1
theorem dX8_feed_9 : decode cX8_feed 9 = .ok (.iload_n 3, 1) := DX8_feed_0.2.2.2.2.2.1
theorem dX8_feed_10 : decode cX8_feed 10 = .ok (.invokestatic 97, 3) := DX8_feed_0.2.2.2.2.2.2.1
theorem dX8_feed_13 : decode cX8_feed 13 = .ok (.iadd, 1) := DX8_feed_0.2.2.2.2.2.2.2.1
theorem dX8_feed_14 : decode cX8_feed 14 = .ok (.iload 4, 2) := DX8_feed_0.2.2.2.2.2.2.2.2.1
theorem dX8_feed_16 : decode cX8_feed 16 = .ok (.invokestatic 97, 3) := DX8_feed_0.2.2.2.2.2.2.2.2.2.1
theorem dX8_feed_19 : decode cX8_feed 19 = .ok (.iadd, 1) := DX8_feed_0.2.2.2.2.2.2.2.2.2.2.1
theorem dX8_feed_20 : decode cX8_feed 20 = .ok (.iload 5, 2) := DX8_feed_0.2.2.2.2.2.2.2.2.2.2.2.1
theorem dX8_feed_22 : decode cX8_feed 22 = .ok (.invokestatic 97, 3) := DX8_feed_0.2.2.2.2.2.2.2.2.2.2.2.2.1
theorem dX8_feed_25 : decode cX8_feed 25 = .ok (.iadd, 1) := DX8_feed_0.2.2.2.2.2.2.2.2.2.2.2.2.2.1
theorem dX8_feed_26 : decode cX8_feed 26 = .ok (.istore 6, 2) := DX8_feed_0.2.2.2.2.2.2.2.2.2.2.2.2.2.2.1
theorem dX8_feed_28 : decode cX8_feed 28 = .ok (.aload_n 0, 1) := DX8_feed_0.2.2.2.2.2.2.2.2.2.2.2.2.2.2.2.1
theorem DX8_feed_29 : dAre cX8_feed [(29, .getfield 12, 3), (32, .getfield 101, 3), (35, .iload 6, 2), (37, .iadd, 1), (38, .sipush 400, 3), (41, .if_icmp .le 5, 3), (44, .iconst (-1), 1), (45, .ireturn, 1), (46, .aload_n 0, 1), (47, .getfield 12, 3), (50, .iload_n 1, 1), (51, .invokevirtual 104, 3), (54, .aload_n 0, 1), (55, .getfield 12, 3), (58, .iload_n 2, 1), (59, .invokevirtual 104, 3)] := dAre0 (by decide +kernel)
theorem dX8_feed_29 : decode cX8_feed 29 = .ok (.getfield 12, 3) := DX8_feed_29.1
theorem dX8_feed_32 : decode cX8_feed 32 = .ok (.getfield 101, 3) := DX8_feed_29.2.1
theorem dX8_feed_35 : decode cX8_feed 35 = .ok (.iload 6, 2) := DX8_feed_29.2.2.1
theorem dX8_feed_37 : decode cX8_feed 37 = .ok (.iadd, 1) := DX8_feed_29.2.2.2.1
theorem dX8_feed_38 : decode cX8_feed 38 = .ok (.sipush 400, 3) := DX8_feed_29.2.2.2.2.1
theorem dX8_feed_41 : decode cX8_feed 41 = .ok (.if_icmp .le 5, 3) := DX8_feed_29.2.2.2.2.2.1
theorem dX8_feed_44 : decode cX8_feed 44 = .ok (.iconst (-1), 1) := DX8_feed_29.2.2.2.2.2.2.1
theorem dX8_feed_45 : decode cX8_feed 45 = .ok (.ireturn, 1) := DX8_feed_29.2.2.2.2.2.2.2.1
theorem dX8_feed_46 : decode cX8_feed 46 = .ok (.aload_n 0, 1) := DX8_feed_29.2.2.2.2.2.2.2.2.1
theorem dX8_feed_47 : decode cX8_feed 47 = .ok (.getfield 12, 3) := DX8_feed_29.2.2.2.2.2.2.2.2.2.1
theorem dX8_feed_50 : decode cX8_feed 50 = .ok (.iload_n 1, 1) := DX8_feed_29.2.2.2.2.2.2.2.2.2.2.1
theorem dX8_feed_51 : decode cX8_feed 51 = .ok (.invokevirtual 104, 3) := DX8_feed_29.2.2.2.2.2.2.2.2.2.2.2.1
theorem dX8_feed_54 : decode cX8_feed 54 = .ok (.aload_n 0, 1) := DX8_feed_29.2.2.2.2.2.2.2.2.2.2.2.2.1
theorem dX8_feed_55 : decode cX8_feed 55 = .ok (.getfield 12, 3) := DX8_feed_29.2.2.2.2.2.2.2.2.2.2.2.2.2.1
theorem dX8_feed_58 : decode cX8_feed 58 = .ok (.iload_n 2, 1) := DX8_feed_29.2.2.2.2.2.2.2.2.2.2.2.2.2.2.1
theorem dX8_feed_59 : decode cX8_feed 59 = .ok (.invokevirtual 104, 3) := DX8_feed_29.2.2.2.2.2.2.2.2.2.2.2.2.2.2.2.1
theorem DX8_feed_62 : dAre cX8_feed [(62, .aload_n 0, 1), (63, .getfield 12, 3), (66, .iload_n 3, 1), (67, .invokevirtual 104, 3), (70, .aload_n 0, 1), (71, .getfield 12, 3), (74, .iload 4, 2), (76, .invokevirtual 104, 3), (79, .aload_n 0, 1), (80, .getfield 12, 3), (83, .iload 5, 2), (85, .invokevirtual 104, 3), (88, .aload_n 0, 1), (89, .getfield 12, 3), (92, .getfield 101, 3), (95, .ireturn, 1)] := dAre0 (by decide +kernel)
theorem dX8_feed_62 : decode cX8_feed 62 = .ok (.aload_n 0, 1) := DX8_feed_62.1
theorem dX8_feed_63 : decode cX8_feed 63 = .ok (.getfield 12, 3) := DX8_feed_62.2.1
theorem dX8_feed_66 : decode cX8_feed 66 = .ok (.iload_n 3, 1) := DX8_feed_62.2.2.1
theorem dX8_feed_67 : decode cX8_feed 67 = .ok (.invokevirtual 104, 3) := DX8_feed_62.2.2.2.1
theorem dX8_feed_70 : decode cX8_feed 70 = .ok (.aload_n 0, 1) := DX8_feed_62.2.2.2.2.1
theorem dX8_feed_71 : decode cX8_feed 71 = .ok (.getfield 12, 3) := DX8_feed_62.2.2.2.2.2.1
theorem dX8_feed_74 : decode cX8_feed 74 = .ok (.iload 4, 2) := DX8_feed_62.2.2.2.2.2.2.1
theorem dX8_feed_76 : decode cX8_feed 76 = .ok (.invokevirtual 104, 3) := DX8_feed_62.2.2.2.2.2.2.2.1
theorem dX8_feed_79 : decode cX8_feed 79 = .ok (.aload_n 0, 1) := DX8_feed_62.2.2.2.2.2.2.2.2.1
theorem dX8_feed_80 : decode cX8_feed 80 = .ok (.getfield 12, 3) := DX8_feed_62.2.2.2.2.2.2.2.2.2.1
theorem dX8_feed_83 : decode cX8_feed 83 = .ok (.iload 5, 2) := DX8_feed_62.2.2.2.2.2.2.2.2.2.2.1
theorem dX8_feed_85 : decode cX8_feed 85 = .ok (.invokevirtual 104, 3) := DX8_feed_62.2.2.2.2.2.2.2.2.2.2.2.1
theorem dX8_feed_88 : decode cX8_feed 88 = .ok (.aload_n 0, 1) := DX8_feed_62.2.2.2.2.2.2.2.2.2.2.2.2.1
theorem dX8_feed_89 : decode cX8_feed 89 = .ok (.getfield 12, 3) := DX8_feed_62.2.2.2.2.2.2.2.2.2.2.2.2.2.1
theorem dX8_feed_92 : decode cX8_feed 92 = .ok (.getfield 101, 3) := DX8_feed_62.2.2.2.2.2.2.2.2.2.2.2.2.2.2.1
theorem dX8_feed_95 : decode cX8_feed 95 = .ok (.ireturn, 1) := DX8_feed_62.2.2.2.2.2.2.2.2.2.2.2.2.2.2.2.1
theorem mX8_feed : gMv yX8_feed cX8_feed 7 (some .int) RX8 5 := ⟨q204, q205, q1, q206, rfl, by decide, by decide, by decide +kernel⟩
noncomputable def fX8_feed (v1 : Int32) (v2 : Int32) (v3 : Int32) (v4 : Int32) (v5 : Int32) (I : gM) : Option (Int32 × gM) :=
  (fX6_bytesIn v1).bind fun r1 =>
  (fX6_bytesIn v2).bind fun r2 =>
  (fX6_bytesIn v3).bind fun r3 =>
  (fX6_bytesIn v4).bind fun r4 =>
  (fX6_bytesIn v5).bind fun r5 =>
  if ((I 1 0) + ((((r1 + r2) + r3) + r4) + r5)) ≤ 400 then
    (fX6_append v1 I).bind fun r6 =>
    (fX6_append v2 r6).bind fun r7 =>
    (fX6_append v3 r7).bind fun r8 =>
    (fX6_append v4 r8).bind fun r9 =>
    (fX6_append v5 r9).bind fun r10 =>
    some (r10 1 0, r10)
  else
    some (((-1) : Int32), I)
set_option maxRecDepth 100000 in
set_option maxHeartbeats 4000000 in
theorem wX8_feed (l : Launch) (E : gE) (hE : gDist sh E) (bk : Nat) (v1 : Int32) (v2 : Int32) (v3 : Int32) (v4 : Int32) (v5 : Int32) (I : gM) (J : gN) {r : Int32 × gM} (h : fX8_feed v1 v2 v3 v4 v5 I = some r) : Cu l sh E bk yX8_feed cX8_feed 7 (some .int) (gR 1) [.ref (E.2.1 0), .int v1, .int v2, .int v3, .int v4, .int v5] I J (fun r1 I1 J1 => r1 = some (.int r.1) ∧ I1 = r.2 ∧ J1 = J) := by
  refine Cu.of "LeapJoin" rfl hE (by decide) (Nat.le_of_ble_eq_true rfl) (fun z F B e hl => ?_)
  subst hl
  unfold fX8_feed at h
  refine g_iload_n F 1 dX8_feed_0 rfl rfl ?_
  refine u_callS (As := [.int v1]) (rest := []) (sn := fun r1 => [.int r1]) F B (fun _ => wX6_bytesIn (zl z) E hE bk v1 I J) mX6_bytesIn q207 rfl rfl rfl (Nat.le_of_ble_eq_true rfl) dX8_feed_1 (fun _ => rfl) h (fun r1 h => ?_)
  refine g_iload_n F 2 dX8_feed_4 rfl rfl ?_
  refine u_callS (As := [.int v2]) (rest := [.int r1]) (sn := fun r2 => [.int r2, .int r1]) F B (fun _ => wX6_bytesIn (zl z) E hE bk v2 I J) mX6_bytesIn q207 rfl rfl rfl (Nat.le_of_ble_eq_true rfl) dX8_feed_5 (fun _ => rfl) h (fun r2 h => ?_)
  refine g_iadd (v := r1 + r2) F dX8_feed_8 rfl ?_
  refine g_iload_n F 3 dX8_feed_9 rfl rfl ?_
  refine u_callS (As := [.int v3]) (rest := [.int (r1 + r2)]) (sn := fun r3 => [.int r3, .int (r1 + r2)]) F B (fun _ => wX6_bytesIn (zl z) E hE bk v3 I J) mX6_bytesIn q207 rfl rfl rfl (Nat.le_of_ble_eq_true rfl) dX8_feed_10 (fun _ => rfl) h (fun r3 h => ?_)
  refine g_iadd (v := (r1 + r2) + r3) F dX8_feed_13 rfl ?_
  refine g_iload F 4 dX8_feed_14 rfl ?_
  refine u_callS (As := [.int v4]) (rest := [.int ((r1 + r2) + r3)]) (sn := fun r4 => [.int r4, .int ((r1 + r2) + r3)]) F B (fun _ => wX6_bytesIn (zl z) E hE bk v4 I J) mX6_bytesIn q207 rfl rfl rfl (Nat.le_of_ble_eq_true rfl) dX8_feed_16 (fun _ => rfl) h (fun r4 h => ?_)
  refine g_iadd (v := ((r1 + r2) + r3) + r4) F dX8_feed_19 rfl ?_
  refine g_iload F 5 dX8_feed_20 rfl ?_
  refine u_callS (As := [.int v5]) (rest := [.int (((r1 + r2) + r3) + r4)]) (sn := fun r5 => [.int r5, .int (((r1 + r2) + r3) + r4)]) F B (fun _ => wX6_bytesIn (zl z) E hE bk v5 I J) mX6_bytesIn q207 rfl rfl rfl (Nat.le_of_ble_eq_true rfl) dX8_feed_22 (fun _ => rfl) h (fun r5 h => ?_)
  refine g_iadd (v := (((r1 + r2) + r3) + r4) + r5) F dX8_feed_25 rfl ?_
  refine g_istore (Ln := [(6, .int ((((r1 + r2) + r3) + r4) + r5)), (0, .ref (E.2.1 0)), (1, .int v1), (2, .int v2), (3, .int v3), (4, .int v4), (5, .int v5)]) F dX8_feed_26 (by decide) rfl ?_
  refine g_aload_n F 1 dX8_feed_28 rfl rfl ?_
  refine g_getr (j := 0) (nn := 1) F s0 rfl rfl uX8 (by decide) q169 dX8_feed_29 ?_
  refine g_geti (j := 0) (v := I 1 0) F s1 rfl rfl uX6 (by decide) q36 rfl dX8_feed_32 ?_
  refine g_iload F 0 dX8_feed_35 rfl ?_
  refine g_iadd (v := (I 1 0) + ((((r1 + r2) + r3) + r4) + r5)) F dX8_feed_37 rfl ?_
  refine g_sipush (v := 400) F dX8_feed_38 (by decide) ?_
  refine u_icmp_le (tgt := 46) F dX8_feed_41 (by decide) h (fun h => ?_) (fun h => ?_)
  · refine g_aload_n F 1 dX8_feed_46 rfl rfl ?_
    refine g_getr (j := 0) (nn := 1) F s0 rfl rfl uX8 (by decide) q169 dX8_feed_47 ?_
    refine g_iload_n F 2 dX8_feed_50 rfl rfl ?_
    refine u_callV (k := 1) (As := [.int v1]) (rest := []) (sn := fun _ => []) F B (fun _ => wX6_append (zl z) E hE bk v1 I J) mX6_append q210 rfl s1 rfl rfl rfl (Nat.le_of_ble_eq_true rfl) dX8_feed_51 (fun _ => rfl) h (fun r6 h => ?_)
    refine g_aload_n F 1 dX8_feed_54 rfl rfl ?_
    refine g_getr (j := 0) (nn := 1) F s0 rfl rfl uX8 (by decide) q169 dX8_feed_55 ?_
    refine g_iload_n F 3 dX8_feed_58 rfl rfl ?_
    refine u_callV (k := 1) (As := [.int v2]) (rest := []) (sn := fun _ => []) F B (fun _ => wX6_append (zl z) E hE bk v2 r6 J) mX6_append q210 rfl s1 rfl rfl rfl (Nat.le_of_ble_eq_true rfl) dX8_feed_59 (fun _ => rfl) h (fun r7 h => ?_)
    refine g_aload_n F 1 dX8_feed_62 rfl rfl ?_
    refine g_getr (j := 0) (nn := 1) F s0 rfl rfl uX8 (by decide) q169 dX8_feed_63 ?_
    refine g_iload_n F 4 dX8_feed_66 rfl rfl ?_
    refine u_callV (k := 1) (As := [.int v3]) (rest := []) (sn := fun _ => []) F B (fun _ => wX6_append (zl z) E hE bk v3 r7 J) mX6_append q210 rfl s1 rfl rfl rfl (Nat.le_of_ble_eq_true rfl) dX8_feed_67 (fun _ => rfl) h (fun r8 h => ?_)
    refine g_aload_n F 1 dX8_feed_70 rfl rfl ?_
    refine g_getr (j := 0) (nn := 1) F s0 rfl rfl uX8 (by decide) q169 dX8_feed_71 ?_
    refine g_iload F 5 dX8_feed_74 rfl ?_
    refine u_callV (k := 1) (As := [.int v4]) (rest := []) (sn := fun _ => []) F B (fun _ => wX6_append (zl z) E hE bk v4 r8 J) mX6_append q210 rfl s1 rfl rfl rfl (Nat.le_of_ble_eq_true rfl) dX8_feed_76 (fun _ => rfl) h (fun r9 h => ?_)
    refine g_aload_n F 1 dX8_feed_79 rfl rfl ?_
    refine g_getr (j := 0) (nn := 1) F s0 rfl rfl uX8 (by decide) q169 dX8_feed_80 ?_
    refine g_iload F 6 dX8_feed_83 rfl ?_
    refine u_callV (k := 1) (As := [.int v5]) (rest := []) (sn := fun _ => []) F B (fun _ => wX6_append (zl z) E hE bk v5 r9 J) mX6_append q210 rfl s1 rfl rfl rfl (Nat.le_of_ble_eq_true rfl) dX8_feed_85 (fun _ => rfl) h (fun r10 h => ?_)
    refine g_aload_n F 1 dX8_feed_88 rfl rfl ?_
    refine g_getr (j := 0) (nn := 1) F s0 rfl rfl uX8 (by decide) q169 dX8_feed_89 ?_
    refine g_geti (j := 0) (v := r10 1 0) F s1 rfl rfl uX6 (by decide) q36 rfl dX8_feed_92 ?_
    obtain rfl := Option.some.inj h
    exact g_iret F e dX8_feed_95 ⟨rfl, rfl, rfl⟩
  · refine g_iconst (v := (-1)) F dX8_feed_44 (by decide) ?_
    obtain rfl := Option.some.inj h
    exact g_iret F e dX8_feed_45 ⟨rfl, rfl, rfl⟩
theorem DX8_end_0 : dAre cX8_end [(0, .iload_n 1, 1), (1, .ifCond .lt 14, 3), (4, .iload_n 1, 1), (5, .aload_n 0, 1), (6, .getfield 12, 3), (9, .getfield 101, 3), (12, .if_icmp .le 5, 3), (15, .iconst 0, 1), (16, .ireturn, 1), (17, .aload_n 0, 1), (18, .getfield 12, 3), (21, .iload_n 1, 1), (22, .putfield 101, 3), (25, .iconst 1, 1), (26, .ireturn, 1)] := dAre0 (by decide +kernel)
theorem dX8_end_0 : decode cX8_end 0 = .ok (.iload_n 1, 1) := DX8_end_0.1
theorem dX8_end_1 : decode cX8_end 1 = .ok (.ifCond .lt 14, 3) := DX8_end_0.2.1
theorem dX8_end_4 : decode cX8_end 4 = .ok (.iload_n 1, 1) := DX8_end_0.2.2.1
theorem dX8_end_5 : decode cX8_end 5 = .ok (.aload_n 0, 1) := DX8_end_0.2.2.2.1
theorem dX8_end_6 : decode cX8_end 6 = .ok (.getfield 12, 3) := DX8_end_0.2.2.2.2.1
theorem dX8_end_9 : decode cX8_end 9 = .ok (.getfield 101, 3) := DX8_end_0.2.2.2.2.2.1
theorem dX8_end_12 : decode cX8_end 12 = .ok (.if_icmp .le 5, 3) := DX8_end_0.2.2.2.2.2.2.1
theorem dX8_end_15 : decode cX8_end 15 = .ok (.iconst 0, 1) := DX8_end_0.2.2.2.2.2.2.2.1
theorem dX8_end_16 : decode cX8_end 16 = .ok (.ireturn, 1) := DX8_end_0.2.2.2.2.2.2.2.2.1
theorem dX8_end_17 : decode cX8_end 17 = .ok (.aload_n 0, 1) := DX8_end_0.2.2.2.2.2.2.2.2.2.1
theorem dX8_end_18 : decode cX8_end 18 = .ok (.getfield 12, 3) := DX8_end_0.2.2.2.2.2.2.2.2.2.2.1
theorem dX8_end_21 : decode cX8_end 21 = .ok (.iload_n 1, 1) := DX8_end_0.2.2.2.2.2.2.2.2.2.2.2.1
theorem dX8_end_22 : decode cX8_end 22 = .ok (.putfield 101, 3) := DX8_end_0.2.2.2.2.2.2.2.2.2.2.2.2.1
theorem dX8_end_25 : decode cX8_end 25 = .ok (.iconst 1, 1) := DX8_end_0.2.2.2.2.2.2.2.2.2.2.2.2.2.1
theorem dX8_end_26 : decode cX8_end 26 = .ok (.ireturn, 1) := DX8_end_0.2.2.2.2.2.2.2.2.2.2.2.2.2.2.1
theorem mX8_end : gMv yX8_end cX8_end 2 (some .boolean) RX8 1 := ⟨q215, q216, q1, q217, rfl, by decide, by decide, by decide +kernel⟩
noncomputable def fX8_end (v1 : Int32) (I : gM) : Option (Int32 × gM) :=
  if v1 < 0 then
    some ((0 : Int32), I)
  else
    if v1 ≤ (I 1 0) then
      (pU I 1 0 v1).bind fun I1 =>
      some ((1 : Int32), I1)
    else
      some ((0 : Int32), I)
set_option maxRecDepth 100000 in
set_option maxHeartbeats 4000000 in
theorem wX8_end (l : Launch) (E : gE) (hE : gDist sh E) (bk : Nat) (v1 : Int32) (I : gM) (J : gN) {r : Int32 × gM} (h : fX8_end v1 I = some r) : Cu l sh E bk yX8_end cX8_end 2 (some .boolean) (gR 0) [.ref (E.2.1 0), .int v1] I J (fun r1 I1 J1 => r1 = some (.int r.1) ∧ I1 = r.2 ∧ J1 = J) := by
  refine Cu.of "LeapJoin" rfl hE (by decide) (Nat.le_of_ble_eq_true rfl) (fun z F B e hl => ?_)
  subst hl
  unfold fX8_end at h
  refine g_iload_n F 1 dX8_end_0 rfl rfl ?_
  refine u_if_lt (tgt := 15) F dX8_end_1 (by decide) h (fun h => ?_) (fun h => ?_)
  · refine g_iconst (v := 0) F dX8_end_15 (by decide) ?_
    obtain rfl := Option.some.inj h
    exact g_zret F rfl e dX8_end_16 ⟨rfl, rfl, rfl⟩
  · refine g_iload_n F 1 dX8_end_4 rfl rfl ?_
    refine g_aload_n F 0 dX8_end_5 rfl rfl ?_
    refine g_getr (j := 0) (nn := 1) F s0 rfl rfl uX8 (by decide) q169 dX8_end_6 ?_
    refine g_geti (j := 0) (v := I 1 0) F s1 rfl rfl uX6 (by decide) q36 rfl dX8_end_9 ?_
    refine u_icmp_le (tgt := 17) F dX8_end_12 (by decide) h (fun h => ?_) (fun h => ?_)
    · refine g_aload_n F 0 dX8_end_17 rfl rfl ?_
      refine g_getr (j := 0) (nn := 1) F s0 rfl rfl uX8 (by decide) q169 dX8_end_18 ?_
      refine g_iload_n F 1 dX8_end_21 rfl rfl ?_
      refine u_puti (j := 0) F s1 rfl rfl uX6 (by decide) q36 tyX6_ok nmX6 rfl rfl rfl dX8_end_22 h (fun I1 h => ?_)
      refine g_iconst (v := 1) F dX8_end_25 (by decide) ?_
      obtain rfl := Option.some.inj h
      exact g_zret F rfl e dX8_end_26 ⟨rfl, rfl, rfl⟩
    · refine g_iconst (v := 0) F dX8_end_15 (by decide) ?_
      obtain rfl := Option.some.inj h
      exact g_zret F rfl e dX8_end_16 ⟨rfl, rfl, rfl⟩
theorem DX8_fault_0 : dAre cX8_fault [(0, .iload_n 1, 1), (1, .ifCond .ne 15, 3), (4, .aload_n 0, 1), (5, .getfield 12, 3), (8, .aload_n 0, 1), (9, .getfield 23, 3), (12, .invokevirtual 108, 3), (15, .ireturn, 1), (16, .iload_n 1, 1), (17, .iconst 1, 1), (18, .if_icmp .ne 15, 3), (21, .aload_n 0, 1), (22, .getfield 12, 3), (25, .aload_n 0, 1), (26, .getfield 77, 3), (29, .invokevirtual 112, 3)] := dAre0 (by decide +kernel)
theorem dX8_fault_0 : decode cX8_fault 0 = .ok (.iload_n 1, 1) := DX8_fault_0.1
theorem dX8_fault_1 : decode cX8_fault 1 = .ok (.ifCond .ne 15, 3) := DX8_fault_0.2.1
theorem dX8_fault_4 : decode cX8_fault 4 = .ok (.aload_n 0, 1) := DX8_fault_0.2.2.1
theorem dX8_fault_5 : decode cX8_fault 5 = .ok (.getfield 12, 3) := DX8_fault_0.2.2.2.1
theorem dX8_fault_8 : decode cX8_fault 8 = .ok (.aload_n 0, 1) := DX8_fault_0.2.2.2.2.1
theorem dX8_fault_9 : decode cX8_fault 9 = .ok (.getfield 23, 3) := DX8_fault_0.2.2.2.2.2.1
theorem dX8_fault_12 : decode cX8_fault 12 = .ok (.invokevirtual 108, 3) := DX8_fault_0.2.2.2.2.2.2.1
theorem dX8_fault_15 : decode cX8_fault 15 = .ok (.ireturn, 1) := DX8_fault_0.2.2.2.2.2.2.2.1
theorem dX8_fault_16 : decode cX8_fault 16 = .ok (.iload_n 1, 1) := DX8_fault_0.2.2.2.2.2.2.2.2.1
theorem dX8_fault_17 : decode cX8_fault 17 = .ok (.iconst 1, 1) := DX8_fault_0.2.2.2.2.2.2.2.2.2.1
theorem dX8_fault_18 : decode cX8_fault 18 = .ok (.if_icmp .ne 15, 3) := DX8_fault_0.2.2.2.2.2.2.2.2.2.2.1
theorem dX8_fault_21 : decode cX8_fault 21 = .ok (.aload_n 0, 1) := DX8_fault_0.2.2.2.2.2.2.2.2.2.2.2.1
theorem dX8_fault_22 : decode cX8_fault 22 = .ok (.getfield 12, 3) := DX8_fault_0.2.2.2.2.2.2.2.2.2.2.2.2.1
theorem dX8_fault_25 : decode cX8_fault 25 = .ok (.aload_n 0, 1) := DX8_fault_0.2.2.2.2.2.2.2.2.2.2.2.2.2.1
theorem dX8_fault_26 : decode cX8_fault 26 = .ok (.getfield 77, 3) := DX8_fault_0.2.2.2.2.2.2.2.2.2.2.2.2.2.2.1
theorem dX8_fault_29 : decode cX8_fault 29 = .ok (.invokevirtual 112, 3) := DX8_fault_0.2.2.2.2.2.2.2.2.2.2.2.2.2.2.2.1
theorem DX8_fault_32 : dAre cX8_fault [(32, .ireturn, 1), (33, .bipush (-2), 2), (35, .ireturn, 1)] := dAre0 (by decide +kernel)
theorem dX8_fault_32 : decode cX8_fault 32 = .ok (.ireturn, 1) := DX8_fault_32.1
theorem dX8_fault_33 : decode cX8_fault 33 = .ok (.bipush (-2), 2) := DX8_fault_32.2.1
theorem dX8_fault_35 : decode cX8_fault 35 = .ok (.ireturn, 1) := DX8_fault_32.2.2.1
theorem mX8_fault : gMv yX8_fault cX8_fault 2 (some .int) RX8 1 := ⟨q219, q220, q1, q221, rfl, by decide, by decide, by decide +kernel⟩
noncomputable def fX8_fault (v1 : Int32) (I : gM) : Option (Int32 × gM) :=
  if v1 = 0 then
    (fX6_readTables 8 I).bind fun r1 =>
    some (r1.1, r1.2)
  else
    if v1 = 1 then
      (fX6_readScript 51 I).bind fun r2 =>
      some (r2.1, r2.2)
    else
      some (((-2) : Int32), I)
set_option maxRecDepth 100000 in
set_option maxHeartbeats 4000000 in
theorem wX8_fault (l : Launch) (E : gE) (hE : gDist sh E) (bk : Nat) (v1 : Int32) (I : gM) (J : gN) {r : Int32 × gM} (h : fX8_fault v1 I = some r) : Cu l sh E bk yX8_fault cX8_fault 2 (some .int) (gR 6) [.ref (E.2.1 0), .int v1] I J (fun r1 I1 J1 => r1 = some (.int r.1) ∧ I1 = r.2 ∧ J1 = J) := by
  refine Cu.of "LeapJoin" rfl hE (by decide) (Nat.le_of_ble_eq_true rfl) (fun z F B e hl => ?_)
  subst hl
  unfold fX8_fault at h
  refine g_iload_n F 1 dX8_fault_0 rfl rfl ?_
  refine u_if_ne (tgt := 16) F dX8_fault_1 (by decide) h (fun h => ?_) (fun h => ?_)
  · refine g_aload_n F 0 dX8_fault_4 rfl rfl ?_
    refine g_getr (j := 0) (nn := 1) F s0 rfl rfl uX8 (by decide) q169 dX8_fault_5 ?_
    refine g_aload_n F 0 dX8_fault_8 rfl rfl ?_
    refine g_getr (j := 2) (nn := 8) F s0 rfl rfl uX8 (by decide) q171 dX8_fault_9 ?_
    refine u_callV (k := 1) (As := [.ref (E.2.1 8)]) (rest := []) (sn := fun r1 => [.int r1.1]) F B (fun _ => wX6_readTables (zl z) E hE bk 8 shX5_8 I J) mX6_readTables q222 rfl s1 rfl rfl rfl (Nat.le_of_ble_eq_true rfl) dX8_fault_12 (fun _ => rfl) h (fun r1 h => ?_)
    obtain rfl := Option.some.inj h
    exact g_iret F e dX8_fault_15 ⟨rfl, rfl, rfl⟩
  · refine g_iload_n F 1 dX8_fault_16 rfl rfl ?_
    refine g_iconst (v := 1) F dX8_fault_17 (by decide) ?_
    refine u_icmp_ne (tgt := 33) F dX8_fault_18 (by decide) h (fun h => ?_) (fun h => ?_)
    · refine g_aload_n F 0 dX8_fault_21 rfl rfl ?_
      refine g_getr (j := 0) (nn := 1) F s0 rfl rfl uX8 (by decide) q169 dX8_fault_22 ?_
      refine g_aload_n F 0 dX8_fault_25 rfl rfl ?_
      refine g_getr (j := 12) (nn := 51) F s0 rfl rfl uX8 (by decide) q181 dX8_fault_26 ?_
      refine u_callV (k := 1) (As := [.ref (E.2.1 51)]) (rest := []) (sn := fun r2 => [.int r2.1]) F B (fun _ => wX6_readScript (zl z) E hE bk 51 shX4_51 I J) mX6_readScript q276 rfl s1 rfl rfl rfl (Nat.le_of_ble_eq_true rfl) dX8_fault_29 (fun _ => rfl) h (fun r2 h => ?_)
      obtain rfl := Option.some.inj h
      exact g_iret F e dX8_fault_32 ⟨rfl, rfl, rfl⟩
    · refine g_bipush (v := (-2)) F dX8_fault_33 (by decide) ?_
      obtain rfl := Option.some.inj h
      exact g_iret F e dX8_fault_35 ⟨rfl, rfl, rfl⟩
theorem DX8_renew_0 : dAre cX8_renew [(0, .aload_n 0, 1), (1, .getfield 32, 3), (4, .aload_n 0, 1), (5, .getfield 19, 3), (8, .aload_n 0, 1), (9, .getfield 19, 3), (12, .getfield 140, 3), (15, .invokevirtual 143, 3), (18, .aload_n 0, 1), (19, .getfield 49, 3), (22, .iconst 0, 1), (23, .putfield 147, 3), (26, .return_, 1)] := dAre0 (by decide +kernel)
theorem dX8_renew_0 : decode cX8_renew 0 = .ok (.aload_n 0, 1) := DX8_renew_0.1
theorem dX8_renew_1 : decode cX8_renew 1 = .ok (.getfield 32, 3) := DX8_renew_0.2.1
theorem dX8_renew_4 : decode cX8_renew 4 = .ok (.aload_n 0, 1) := DX8_renew_0.2.2.1
theorem dX8_renew_5 : decode cX8_renew 5 = .ok (.getfield 19, 3) := DX8_renew_0.2.2.2.1
theorem dX8_renew_8 : decode cX8_renew 8 = .ok (.aload_n 0, 1) := DX8_renew_0.2.2.2.2.1
theorem dX8_renew_9 : decode cX8_renew 9 = .ok (.getfield 19, 3) := DX8_renew_0.2.2.2.2.2.1
theorem dX8_renew_12 : decode cX8_renew 12 = .ok (.getfield 140, 3) := DX8_renew_0.2.2.2.2.2.2.1
theorem dX8_renew_15 : decode cX8_renew 15 = .ok (.invokevirtual 143, 3) := DX8_renew_0.2.2.2.2.2.2.2.1
theorem dX8_renew_18 : decode cX8_renew 18 = .ok (.aload_n 0, 1) := DX8_renew_0.2.2.2.2.2.2.2.2.1
theorem dX8_renew_19 : decode cX8_renew 19 = .ok (.getfield 49, 3) := DX8_renew_0.2.2.2.2.2.2.2.2.2.1
theorem dX8_renew_22 : decode cX8_renew 22 = .ok (.iconst 0, 1) := DX8_renew_0.2.2.2.2.2.2.2.2.2.2.1
theorem dX8_renew_23 : decode cX8_renew 23 = .ok (.putfield 147, 3) := DX8_renew_0.2.2.2.2.2.2.2.2.2.2.2.1
theorem dX8_renew_26 : decode cX8_renew 26 = .ok (.return_, 1) := DX8_renew_0.2.2.2.2.2.2.2.2.2.2.2.2.1
theorem mX8_renew : gMv yX8_renew cX8_renew 1 none RX8 0 := ⟨q329, q1355, q1, q330, rfl, by decide, by decide, by decide +kernel⟩
noncomputable def fX8_renew (I : gM) : Option (gM) :=
  (fX1_findBy 18 3 (I 3 2) I).bind fun r1 =>
  (pU r1 43 0 (0 : Int32)).bind fun I2 =>
  some I2
set_option maxRecDepth 100000 in
set_option maxHeartbeats 4000000 in
theorem wX8_renew (l : Launch) (E : gE) (hE : gDist sh E) (bk : Nat) (I : gM) (J : gN) {r : gM} (h : fX8_renew I = some r) : Cu l sh E bk yX8_renew cX8_renew 1 none (gR 16) [.ref (E.2.1 0)] I J (fun r1 I1 J1 => r1 = none ∧ I1 = r ∧ J1 = J) := by
  refine Cu.of "LeapJoin" rfl hE (by decide) (Nat.le_of_ble_eq_true rfl) (fun z F B e hl => ?_)
  subst hl
  unfold fX8_renew at h
  refine g_aload_n F 0 dX8_renew_0 rfl rfl ?_
  refine g_getr (j := 4) (nn := 18) F s0 rfl rfl uX8 (by decide) q173 dX8_renew_1 ?_
  refine g_aload_n F 0 dX8_renew_4 rfl rfl ?_
  refine g_getr (j := 1) (nn := 3) F s0 rfl rfl uX8 (by decide) q170 dX8_renew_5 ?_
  refine g_aload_n F 0 dX8_renew_8 rfl rfl ?_
  refine g_getr (j := 1) (nn := 3) F s0 rfl rfl uX8 (by decide) q170 dX8_renew_9 ?_
  refine g_geti (j := 2) (v := I 3 2) F shX5_3.1 rfl rfl uX5 (by decide) q54 rfl dX8_renew_12 ?_
  refine u_callV (k := 18) (As := [.ref (E.2.1 3), .int (I 3 2)]) (rest := []) (sn := fun _ => []) F B (fun _ => wX1_findBy (zl z) E hE bk 18 3 (I 3 2) shX1_18 shX5_3 I J) mX1_findBy q331 rfl shX1_18.1 rfl rfl rfl (Nat.le_of_ble_eq_true rfl) dX8_renew_15 (fun _ => rfl) h (fun r1 h => ?_)
  refine g_aload_n F 0 dX8_renew_18 rfl rfl ?_
  refine g_getr (j := 7) (nn := 43) F s0 rfl rfl uX8 (by decide) q176 dX8_renew_19 ?_
  refine g_iconst (v := 0) F dX8_renew_22 (by decide) ?_
  refine u_puti (j := 0) F s43 rfl rfl uX7 (by decide) q125 tyX7_ok nmX7 rfl rfl rfl dX8_renew_23 h (fun I2 h => ?_)
  obtain rfl := Option.some.inj h
  exact g_vret F e dX8_renew_26 ⟨rfl, rfl, rfl⟩
theorem DX8_textOfTables_0 : dAre cX8_textOfTables [(0, .aload_n 0, 1), (1, .getfield 12, 3), (4, .aload_n 0, 1), (5, .getfield 23, 3), (8, .invokevirtual 108, 3), (11, .iconst (-1), 1), (12, .if_icmp .eq 5, 3), (15, .iconst (-1), 1), (16, .ireturn, 1), (17, .aload_n 0, 1), (18, .getfield 19, 3), (21, .aload_n 0, 1), (22, .getfield 23, 3), (25, .invokevirtual 123, 3), (28, .aload_n 0, 1), (29, .getfield 12, 3)] := dAre0 (by decide +kernel)
theorem dX8_textOfTables_0 : decode cX8_textOfTables 0 = .ok (.aload_n 0, 1) := DX8_textOfTables_0.1
theorem dX8_textOfTables_1 : decode cX8_textOfTables 1 = .ok (.getfield 12, 3) := DX8_textOfTables_0.2.1
theorem dX8_textOfTables_4 : decode cX8_textOfTables 4 = .ok (.aload_n 0, 1) := DX8_textOfTables_0.2.2.1
theorem dX8_textOfTables_5 : decode cX8_textOfTables 5 = .ok (.getfield 23, 3) := DX8_textOfTables_0.2.2.2.1
theorem dX8_textOfTables_8 : decode cX8_textOfTables 8 = .ok (.invokevirtual 108, 3) := DX8_textOfTables_0.2.2.2.2.1
theorem dX8_textOfTables_11 : decode cX8_textOfTables 11 = .ok (.iconst (-1), 1) := DX8_textOfTables_0.2.2.2.2.2.1
theorem dX8_textOfTables_12 : decode cX8_textOfTables 12 = .ok (.if_icmp .eq 5, 3) := DX8_textOfTables_0.2.2.2.2.2.2.1
theorem dX8_textOfTables_15 : decode cX8_textOfTables 15 = .ok (.iconst (-1), 1) := DX8_textOfTables_0.2.2.2.2.2.2.2.1
theorem dX8_textOfTables_16 : decode cX8_textOfTables 16 = .ok (.ireturn, 1) := DX8_textOfTables_0.2.2.2.2.2.2.2.2.1
theorem dX8_textOfTables_17 : decode cX8_textOfTables 17 = .ok (.aload_n 0, 1) := DX8_textOfTables_0.2.2.2.2.2.2.2.2.2.1
theorem dX8_textOfTables_18 : decode cX8_textOfTables 18 = .ok (.getfield 19, 3) := DX8_textOfTables_0.2.2.2.2.2.2.2.2.2.2.1
theorem dX8_textOfTables_21 : decode cX8_textOfTables 21 = .ok (.aload_n 0, 1) := DX8_textOfTables_0.2.2.2.2.2.2.2.2.2.2.2.1
theorem dX8_textOfTables_22 : decode cX8_textOfTables 22 = .ok (.getfield 23, 3) := DX8_textOfTables_0.2.2.2.2.2.2.2.2.2.2.2.2.1
theorem dX8_textOfTables_25 : decode cX8_textOfTables 25 = .ok (.invokevirtual 123, 3) := DX8_textOfTables_0.2.2.2.2.2.2.2.2.2.2.2.2.2.1
theorem dX8_textOfTables_28 : decode cX8_textOfTables 28 = .ok (.aload_n 0, 1) := DX8_textOfTables_0.2.2.2.2.2.2.2.2.2.2.2.2.2.2.1
theorem dX8_textOfTables_29 : decode cX8_textOfTables 29 = .ok (.getfield 12, 3) := DX8_textOfTables_0.2.2.2.2.2.2.2.2.2.2.2.2.2.2.2.1
theorem DX8_textOfTables_32 : dAre cX8_textOfTables [(32, .iconst 0, 1), (33, .putfield 101, 3), (36, .aload_n 0, 1), (37, .getfield 56, 3), (40, .invokevirtual 127, 3), (43, .aload_n 0, 1), (44, .getfield 66, 3), (47, .invokevirtual 130, 3), (50, .aload_n 0, 1), (51, .iconst 0, 1), (52, .putfield 89, 3), (55, .aload_n 0, 1), (56, .invokevirtual 131, 3), (59, .aload_n 0, 1), (60, .getfield 19, 3), (63, .getfield 134, 3)] := dAre0 (by decide +kernel)
theorem dX8_textOfTables_32 : decode cX8_textOfTables 32 = .ok (.iconst 0, 1) := DX8_textOfTables_32.1
theorem dX8_textOfTables_33 : decode cX8_textOfTables 33 = .ok (.putfield 101, 3) := DX8_textOfTables_32.2.1
theorem dX8_textOfTables_36 : decode cX8_textOfTables 36 = .ok (.aload_n 0, 1) := DX8_textOfTables_32.2.2.1
theorem dX8_textOfTables_37 : decode cX8_textOfTables 37 = .ok (.getfield 56, 3) := DX8_textOfTables_32.2.2.2.1
theorem dX8_textOfTables_40 : decode cX8_textOfTables 40 = .ok (.invokevirtual 127, 3) := DX8_textOfTables_32.2.2.2.2.1
theorem dX8_textOfTables_43 : decode cX8_textOfTables 43 = .ok (.aload_n 0, 1) := DX8_textOfTables_32.2.2.2.2.2.1
theorem dX8_textOfTables_44 : decode cX8_textOfTables 44 = .ok (.getfield 66, 3) := DX8_textOfTables_32.2.2.2.2.2.2.1
theorem dX8_textOfTables_47 : decode cX8_textOfTables 47 = .ok (.invokevirtual 130, 3) := DX8_textOfTables_32.2.2.2.2.2.2.2.1
theorem dX8_textOfTables_50 : decode cX8_textOfTables 50 = .ok (.aload_n 0, 1) := DX8_textOfTables_32.2.2.2.2.2.2.2.2.1
theorem dX8_textOfTables_51 : decode cX8_textOfTables 51 = .ok (.iconst 0, 1) := DX8_textOfTables_32.2.2.2.2.2.2.2.2.2.1
theorem dX8_textOfTables_52 : decode cX8_textOfTables 52 = .ok (.putfield 89, 3) := DX8_textOfTables_32.2.2.2.2.2.2.2.2.2.2.1
theorem dX8_textOfTables_55 : decode cX8_textOfTables 55 = .ok (.aload_n 0, 1) := DX8_textOfTables_32.2.2.2.2.2.2.2.2.2.2.2.1
theorem dX8_textOfTables_56 : decode cX8_textOfTables 56 = .ok (.invokevirtual 131, 3) := DX8_textOfTables_32.2.2.2.2.2.2.2.2.2.2.2.2.1
theorem dX8_textOfTables_59 : decode cX8_textOfTables 59 = .ok (.aload_n 0, 1) := DX8_textOfTables_32.2.2.2.2.2.2.2.2.2.2.2.2.2.1
theorem dX8_textOfTables_60 : decode cX8_textOfTables 60 = .ok (.getfield 19, 3) := DX8_textOfTables_32.2.2.2.2.2.2.2.2.2.2.2.2.2.2.1
theorem dX8_textOfTables_63 : decode cX8_textOfTables 63 = .ok (.getfield 134, 3) := DX8_textOfTables_32.2.2.2.2.2.2.2.2.2.2.2.2.2.2.2.1
theorem dX8_textOfTables_66 : decode cX8_textOfTables 66 = .ok (.ireturn, 1) := by decide +kernel
theorem mX8_textOfTables : gMv yX8_textOfTables cX8_textOfTables 1 (some .int) RX8 0 := ⟨q312, q1354, q1, q313, rfl, by decide, by decide, by decide +kernel⟩
noncomputable def fX8_textOfTables (I : gM) : Option (Int32 × gM) :=
  (fX6_readTables 8 I).bind fun r1 =>
  if r1.1 = (-1) then
    (fX5_copyFrom 3 8 r1.2).bind fun r2 =>
    (pU r2 1 0 (0 : Int32)).bind fun I3 =>
    (fX2_clear 44 I3).bind fun r4 =>
    (fX3_clear r4).bind fun r5 =>
    (pU r5 0 15 (0 : Int32)).bind fun I6 =>
    (fX8_renew I6).bind fun r7 =>
    some (r7 3 0, r7)
  else
    some (((-1) : Int32), r1.2)
set_option maxRecDepth 100000 in
set_option maxHeartbeats 4000000 in
theorem wX8_textOfTables (l : Launch) (E : gE) (hE : gDist sh E) (bk : Nat) (I : gM) (J : gN) {r : Int32 × gM} (h : fX8_textOfTables I = some r) : Cu l sh E bk yX8_textOfTables cX8_textOfTables 1 (some .int) (gR 17) [.ref (E.2.1 0)] I J (fun r1 I1 J1 => r1 = some (.int r.1) ∧ I1 = r.2 ∧ J1 = J) := by
  refine Cu.of "LeapJoin" rfl hE (by decide) (Nat.le_of_ble_eq_true rfl) (fun z F B e hl => ?_)
  subst hl
  unfold fX8_textOfTables at h
  refine g_aload_n F 0 dX8_textOfTables_0 rfl rfl ?_
  refine g_getr (j := 0) (nn := 1) F s0 rfl rfl uX8 (by decide) q169 dX8_textOfTables_1 ?_
  refine g_aload_n F 0 dX8_textOfTables_4 rfl rfl ?_
  refine g_getr (j := 2) (nn := 8) F s0 rfl rfl uX8 (by decide) q171 dX8_textOfTables_5 ?_
  refine u_callV (k := 1) (As := [.ref (E.2.1 8)]) (rest := []) (sn := fun r1 => [.int r1.1]) F B (fun _ => wX6_readTables (zl z) E hE bk 8 shX5_8 I J) mX6_readTables q222 rfl s1 rfl rfl rfl (Nat.le_of_ble_eq_true rfl) dX8_textOfTables_8 (fun _ => rfl) h (fun r1 h => ?_)
  refine g_iconst (v := (-1)) F dX8_textOfTables_11 (by decide) ?_
  refine u_icmp_eq (tgt := 17) F dX8_textOfTables_12 (by decide) h (fun h => ?_) (fun h => ?_)
  · refine g_aload_n F 0 dX8_textOfTables_17 rfl rfl ?_
    refine g_getr (j := 1) (nn := 3) F s0 rfl rfl uX8 (by decide) q170 dX8_textOfTables_18 ?_
    refine g_aload_n F 0 dX8_textOfTables_21 rfl rfl ?_
    refine g_getr (j := 2) (nn := 8) F s0 rfl rfl uX8 (by decide) q171 dX8_textOfTables_22 ?_
    refine u_callV (k := 3) (As := [.ref (E.2.1 8)]) (rest := []) (sn := fun _ => []) F B (fun _ => wX5_copyFrom (zl z) E hE bk 3 8 shX5_3 shX5_8 r1.2 J) mX5_copyFrom q314 rfl shX5_3.1 rfl rfl rfl (Nat.le_of_ble_eq_true rfl) dX8_textOfTables_25 (fun _ => rfl) h (fun r2 h => ?_)
    refine g_aload_n F 0 dX8_textOfTables_28 rfl rfl ?_
    refine g_getr (j := 0) (nn := 1) F s0 rfl rfl uX8 (by decide) q169 dX8_textOfTables_29 ?_
    refine g_iconst (v := 0) F dX8_textOfTables_32 (by decide) ?_
    refine u_puti (j := 0) F s1 rfl rfl uX6 (by decide) q36 tyX6_ok nmX6 rfl rfl rfl dX8_textOfTables_33 h (fun I3 h => ?_)
    refine g_aload_n F 0 dX8_textOfTables_36 rfl rfl ?_
    refine g_getr (j := 8) (nn := 44) F s0 rfl rfl uX8 (by decide) q177 dX8_textOfTables_37 ?_
    refine u_callV (k := 44) (As := []) (rest := []) (sn := fun _ => []) F B (fun _ => wX2_clear (zl z) E hE bk 44 shX2_44 I3 J) mX2_clear q320 rfl shX2_44.1 rfl rfl rfl (Nat.le_of_ble_eq_true rfl) dX8_textOfTables_40 (fun _ => rfl) h (fun r4 h => ?_)
    refine g_aload_n F 0 dX8_textOfTables_43 rfl rfl ?_
    refine g_getr (j := 10) (nn := 48) F s0 rfl rfl uX8 (by decide) q179 dX8_textOfTables_44 ?_
    refine u_callV (k := 48) (As := []) (rest := []) (sn := fun _ => []) F B (fun _ => wX3_clear (zl z) E hE bk  r4 J) mX3_clear q324 rfl s48 rfl rfl rfl (Nat.le_of_ble_eq_true rfl) dX8_textOfTables_47 (fun _ => rfl) h (fun r5 h => ?_)
    refine g_aload_n F 0 dX8_textOfTables_50 rfl rfl ?_
    refine g_iconst (v := 0) F dX8_textOfTables_51 (by decide) ?_
    refine u_puti (j := 15) F s0 rfl rfl uX8 (by decide) q184 tyX8_ok nmX8 rfl rfl rfl dX8_textOfTables_52 h (fun I6 h => ?_)
    refine g_aload_n F 0 dX8_textOfTables_55 rfl rfl ?_
    refine u_callV (k := 0) (As := []) (rest := []) (sn := fun _ => []) F B (fun _ => wX8_renew (zl z) E hE bk  I6 J) mX8_renew q328 rfl s0 rfl rfl rfl (Nat.le_of_ble_eq_true rfl) dX8_textOfTables_56 (fun _ => rfl) h (fun r7 h => ?_)
    refine g_aload_n F 0 dX8_textOfTables_59 rfl rfl ?_
    refine g_getr (j := 1) (nn := 3) F s0 rfl rfl uX8 (by decide) q170 dX8_textOfTables_60 ?_
    refine g_geti (j := 0) (v := r7 3 0) F shX5_3.1 rfl rfl uX5 (by decide) q49 rfl dX8_textOfTables_63 ?_
    obtain rfl := Option.some.inj h
    exact g_iret F e dX8_textOfTables_66 ⟨rfl, rfl, rfl⟩
  · refine g_iconst (v := (-1)) F dX8_textOfTables_15 (by decide) ?_
    obtain rfl := Option.some.inj h
    exact g_iret F e dX8_textOfTables_16 ⟨rfl, rfl, rfl⟩
theorem DX8_textOfScript_0 : dAre cX8_textOfScript [(0, .aload_n 0, 1), (1, .getfield 85, 3), (4, .iconst 4, 1), (5, .if_icmp .ge 18, 3), (8, .aload_n 0, 1), (9, .getfield 12, 3), (12, .aload_n 0, 1), (13, .getfield 77, 3), (16, .invokevirtual 112, 3), (19, .iconst (-1), 1), (20, .if_icmp .eq 5, 3), (23, .iconst (-1), 1), (24, .ireturn, 1), (25, .aload_n 0, 1), (26, .getfield 72, 3), (29, .aload_n 0, 1)] := dAre0 (by decide +kernel)
theorem dX8_textOfScript_0 : decode cX8_textOfScript 0 = .ok (.aload_n 0, 1) := DX8_textOfScript_0.1
theorem dX8_textOfScript_1 : decode cX8_textOfScript 1 = .ok (.getfield 85, 3) := DX8_textOfScript_0.2.1
theorem dX8_textOfScript_4 : decode cX8_textOfScript 4 = .ok (.iconst 4, 1) := DX8_textOfScript_0.2.2.1
theorem dX8_textOfScript_5 : decode cX8_textOfScript 5 = .ok (.if_icmp .ge 18, 3) := DX8_textOfScript_0.2.2.2.1
theorem dX8_textOfScript_8 : decode cX8_textOfScript 8 = .ok (.aload_n 0, 1) := DX8_textOfScript_0.2.2.2.2.1
theorem dX8_textOfScript_9 : decode cX8_textOfScript 9 = .ok (.getfield 12, 3) := DX8_textOfScript_0.2.2.2.2.2.1
theorem dX8_textOfScript_12 : decode cX8_textOfScript 12 = .ok (.aload_n 0, 1) := DX8_textOfScript_0.2.2.2.2.2.2.1
theorem dX8_textOfScript_13 : decode cX8_textOfScript 13 = .ok (.getfield 77, 3) := DX8_textOfScript_0.2.2.2.2.2.2.2.1
theorem dX8_textOfScript_16 : decode cX8_textOfScript 16 = .ok (.invokevirtual 112, 3) := DX8_textOfScript_0.2.2.2.2.2.2.2.2.1
theorem dX8_textOfScript_19 : decode cX8_textOfScript 19 = .ok (.iconst (-1), 1) := DX8_textOfScript_0.2.2.2.2.2.2.2.2.2.1
theorem dX8_textOfScript_20 : decode cX8_textOfScript 20 = .ok (.if_icmp .eq 5, 3) := DX8_textOfScript_0.2.2.2.2.2.2.2.2.2.2.1
theorem dX8_textOfScript_23 : decode cX8_textOfScript 23 = .ok (.iconst (-1), 1) := DX8_textOfScript_0.2.2.2.2.2.2.2.2.2.2.2.1
theorem dX8_textOfScript_24 : decode cX8_textOfScript 24 = .ok (.ireturn, 1) := DX8_textOfScript_0.2.2.2.2.2.2.2.2.2.2.2.2.1
theorem dX8_textOfScript_25 : decode cX8_textOfScript 25 = .ok (.aload_n 0, 1) := DX8_textOfScript_0.2.2.2.2.2.2.2.2.2.2.2.2.2.1
theorem dX8_textOfScript_26 : decode cX8_textOfScript 26 = .ok (.getfield 72, 3) := DX8_textOfScript_0.2.2.2.2.2.2.2.2.2.2.2.2.2.2.1
theorem dX8_textOfScript_29 : decode cX8_textOfScript 29 = .ok (.aload_n 0, 1) := DX8_textOfScript_0.2.2.2.2.2.2.2.2.2.2.2.2.2.2.2.1
theorem DX8_textOfScript_30 : dAre cX8_textOfScript [(30, .getfield 85, 3), (33, .aaload, 1), (34, .aload_n 0, 1), (35, .getfield 77, 3), (38, .invokevirtual 137, 3), (41, .aload_n 0, 1), (42, .getfield 12, 3), (45, .iconst 0, 1), (46, .putfield 101, 3), (49, .aload_n 0, 1), (50, .dup, 1), (51, .getfield 85, 3), (54, .iconst 1, 1), (55, .iadd, 1), (56, .putfield 85, 3), (59, .aload_n 0, 1)] := dAre0 (by decide +kernel)
theorem dX8_textOfScript_30 : decode cX8_textOfScript 30 = .ok (.getfield 85, 3) := DX8_textOfScript_30.1
theorem dX8_textOfScript_33 : decode cX8_textOfScript 33 = .ok (.aaload, 1) := DX8_textOfScript_30.2.1
theorem dX8_textOfScript_34 : decode cX8_textOfScript 34 = .ok (.aload_n 0, 1) := DX8_textOfScript_30.2.2.1
theorem dX8_textOfScript_35 : decode cX8_textOfScript 35 = .ok (.getfield 77, 3) := DX8_textOfScript_30.2.2.2.1
theorem dX8_textOfScript_38 : decode cX8_textOfScript 38 = .ok (.invokevirtual 137, 3) := DX8_textOfScript_30.2.2.2.2.1
theorem dX8_textOfScript_41 : decode cX8_textOfScript 41 = .ok (.aload_n 0, 1) := DX8_textOfScript_30.2.2.2.2.2.1
theorem dX8_textOfScript_42 : decode cX8_textOfScript 42 = .ok (.getfield 12, 3) := DX8_textOfScript_30.2.2.2.2.2.2.1
theorem dX8_textOfScript_45 : decode cX8_textOfScript 45 = .ok (.iconst 0, 1) := DX8_textOfScript_30.2.2.2.2.2.2.2.1
theorem dX8_textOfScript_46 : decode cX8_textOfScript 46 = .ok (.putfield 101, 3) := DX8_textOfScript_30.2.2.2.2.2.2.2.2.1
theorem dX8_textOfScript_49 : decode cX8_textOfScript 49 = .ok (.aload_n 0, 1) := DX8_textOfScript_30.2.2.2.2.2.2.2.2.2.1
theorem dX8_textOfScript_50 : decode cX8_textOfScript 50 = .ok (.dup, 1) := DX8_textOfScript_30.2.2.2.2.2.2.2.2.2.2.1
theorem dX8_textOfScript_51 : decode cX8_textOfScript 51 = .ok (.getfield 85, 3) := DX8_textOfScript_30.2.2.2.2.2.2.2.2.2.2.2.1
theorem dX8_textOfScript_54 : decode cX8_textOfScript 54 = .ok (.iconst 1, 1) := DX8_textOfScript_30.2.2.2.2.2.2.2.2.2.2.2.2.1
theorem dX8_textOfScript_55 : decode cX8_textOfScript 55 = .ok (.iadd, 1) := DX8_textOfScript_30.2.2.2.2.2.2.2.2.2.2.2.2.2.1
theorem dX8_textOfScript_56 : decode cX8_textOfScript 56 = .ok (.putfield 85, 3) := DX8_textOfScript_30.2.2.2.2.2.2.2.2.2.2.2.2.2.2.1
theorem dX8_textOfScript_59 : decode cX8_textOfScript 59 = .ok (.aload_n 0, 1) := DX8_textOfScript_30.2.2.2.2.2.2.2.2.2.2.2.2.2.2.2.1
theorem DX8_textOfScript_60 : dAre cX8_textOfScript [(60, .getfield 85, 3), (63, .iconst 1, 1), (64, .isub, 1), (65, .ireturn, 1)] := dAre0 (by decide +kernel)
theorem dX8_textOfScript_60 : decode cX8_textOfScript 60 = .ok (.getfield 85, 3) := DX8_textOfScript_60.1
theorem dX8_textOfScript_63 : decode cX8_textOfScript 63 = .ok (.iconst 1, 1) := DX8_textOfScript_60.2.1
theorem dX8_textOfScript_64 : decode cX8_textOfScript 64 = .ok (.isub, 1) := DX8_textOfScript_60.2.2.1
theorem dX8_textOfScript_65 : decode cX8_textOfScript 65 = .ok (.ireturn, 1) := DX8_textOfScript_60.2.2.2.1
theorem mX8_textOfScript : gMv yX8_textOfScript cX8_textOfScript 1 (some .int) RX8 0 := ⟨q392, q1367, q1, q393, rfl, by decide, by decide, by decide +kernel⟩
noncomputable def fX8_textOfScript (I : gM) : Option (Int32 × gM) :=
  if (4 : Int32) ≤ (I 0 14) then
    some (((-1) : Int32), I)
  else
    (fX6_readScript 51 I).bind fun r1 =>
    if r1.1 = (-1) then
      (rA 4 (r1.2 0 14)).bind fun k2 =>
      (fX4_copyFrom k2 51 r1.2).bind fun r3 =>
      (pU r3 1 0 (0 : Int32)).bind fun I4 =>
      (pU I4 0 14 ((I4 0 14) + 1)).bind fun I5 =>
      some ((I5 0 14) - 1, I5)
    else
      some (((-1) : Int32), r1.2)
set_option maxRecDepth 100000 in
set_option maxHeartbeats 4000000 in
theorem wX8_textOfScript (l : Launch) (E : gE) (hE : gDist sh E) (bk : Nat) (I : gM) (J : gN) {r : Int32 × gM} (h : fX8_textOfScript I = some r) : Cu l sh E bk yX8_textOfScript cX8_textOfScript 1 (some .int) (gR 6) [.ref (E.2.1 0)] I J (fun r1 I1 J1 => r1 = some (.int r.1) ∧ I1 = r.2 ∧ J1 = J) := by
  refine Cu.of "LeapJoin" rfl hE (by decide) (Nat.le_of_ble_eq_true rfl) (fun z F B e hl => ?_)
  subst hl
  unfold fX8_textOfScript at h
  refine g_aload_n F 0 dX8_textOfScript_0 rfl rfl ?_
  refine g_geti (j := 14) (v := I 0 14) F s0 rfl rfl uX8 (by decide) q183 rfl dX8_textOfScript_1 ?_
  refine g_iconst (v := 4) F dX8_textOfScript_4 (by decide) ?_
  refine u_icmp_ge (tgt := 23) F dX8_textOfScript_5 (by decide) h (fun h => ?_) (fun h => ?_)
  · refine g_iconst (v := (-1)) F dX8_textOfScript_23 (by decide) ?_
    obtain rfl := Option.some.inj h
    exact g_iret F e dX8_textOfScript_24 ⟨rfl, rfl, rfl⟩
  · refine g_aload_n F 0 dX8_textOfScript_8 rfl rfl ?_
    refine g_getr (j := 0) (nn := 1) F s0 rfl rfl uX8 (by decide) q169 dX8_textOfScript_9 ?_
    refine g_aload_n F 0 dX8_textOfScript_12 rfl rfl ?_
    refine g_getr (j := 12) (nn := 51) F s0 rfl rfl uX8 (by decide) q181 dX8_textOfScript_13 ?_
    refine u_callV (k := 1) (As := [.ref (E.2.1 51)]) (rest := []) (sn := fun r1 => [.int r1.1]) F B (fun _ => wX6_readScript (zl z) E hE bk 51 shX4_51 I J) mX6_readScript q276 rfl s1 rfl rfl rfl (Nat.le_of_ble_eq_true rfl) dX8_textOfScript_16 (fun _ => rfl) h (fun r1 h => ?_)
    refine g_iconst (v := (-1)) F dX8_textOfScript_19 (by decide) ?_
    refine u_icmp_eq (tgt := 25) F dX8_textOfScript_20 (by decide) h (fun h => ?_) (fun h => ?_)
    · refine g_aload_n F 0 dX8_textOfScript_25 rfl rfl ?_
      refine g_getr (j := 11) (nn := 50) F s0 rfl rfl uX8 (by decide) q180 dX8_textOfScript_26 ?_
      refine g_aload_n F 0 dX8_textOfScript_29 rfl rfl ?_
      refine g_geti (j := 14) (v := r1.2 0 14) F s0 rfl rfl uX8 (by decide) q183 rfl dX8_textOfScript_30 ?_
      refine u_aald F dX8_textOfScript_33 h (fun k2 hk2 h => ?_)
      refine g_aload_n F 0 dX8_textOfScript_34 rfl rfl ?_
      refine g_getr (j := 12) (nn := 51) F s0 rfl rfl uX8 (by decide) q181 dX8_textOfScript_35 ?_
      refine u_callV (k := k2) (As := [.ref (E.2.1 51)]) (rest := []) (sn := fun _ => []) F B (fun _ => wX4_copyFrom (zl z) E hE bk k2 51 hk2 shX4_51 r1.2 J) mX4_copyFrom q394 rfl hk2.1 rfl rfl rfl (Nat.le_of_ble_eq_true rfl) dX8_textOfScript_38 (fun _ => rfl) h (fun r3 h => ?_)
      refine g_aload_n F 0 dX8_textOfScript_41 rfl rfl ?_
      refine g_getr (j := 0) (nn := 1) F s0 rfl rfl uX8 (by decide) q169 dX8_textOfScript_42 ?_
      refine g_iconst (v := 0) F dX8_textOfScript_45 (by decide) ?_
      refine u_puti (j := 0) F s1 rfl rfl uX6 (by decide) q36 tyX6_ok nmX6 rfl rfl rfl dX8_textOfScript_46 h (fun I4 h => ?_)
      refine g_aload_n F 0 dX8_textOfScript_49 rfl rfl ?_
      refine g_dup F dX8_textOfScript_50 rfl ?_
      refine g_geti (j := 14) (v := I4 0 14) F s0 rfl rfl uX8 (by decide) q183 rfl dX8_textOfScript_51 ?_
      refine g_iconst (v := 1) F dX8_textOfScript_54 (by decide) ?_
      refine g_iadd (v := (I4 0 14) + 1) F dX8_textOfScript_55 rfl ?_
      refine u_puti (j := 14) F s0 rfl rfl uX8 (by decide) q183 tyX8_ok nmX8 rfl rfl rfl dX8_textOfScript_56 h (fun I5 h => ?_)
      refine g_aload_n F 0 dX8_textOfScript_59 rfl rfl ?_
      refine g_geti (j := 14) (v := I5 0 14) F s0 rfl rfl uX8 (by decide) q183 rfl dX8_textOfScript_60 ?_
      refine g_iconst (v := 1) F dX8_textOfScript_63 (by decide) ?_
      refine g_isub (v := (I5 0 14) - 1) F dX8_textOfScript_64 rfl ?_
      obtain rfl := Option.some.inj h
      exact g_iret F e dX8_textOfScript_65 ⟨rfl, rfl, rfl⟩
    · refine g_iconst (v := (-1)) F dX8_textOfScript_23 (by decide) ?_
      obtain rfl := Option.some.inj h
      exact g_iret F e dX8_textOfScript_24 ⟨rfl, rfl, rfl⟩
theorem DX8_text_0 : dAre cX8_text [(0, .iload_n 1, 1), (1, .ifCond .ne 8, 3), (4, .aload_n 0, 1), (5, .invokevirtual 116, 3), (8, .ireturn, 1), (9, .iload_n 1, 1), (10, .iconst 1, 1), (11, .if_icmp .ne 8, 3), (14, .aload_n 0, 1), (15, .invokevirtual 120, 3), (18, .ireturn, 1), (19, .iconst (-1), 1), (20, .ireturn, 1)] := dAre0 (by decide +kernel)
theorem dX8_text_0 : decode cX8_text 0 = .ok (.iload_n 1, 1) := DX8_text_0.1
theorem dX8_text_1 : decode cX8_text 1 = .ok (.ifCond .ne 8, 3) := DX8_text_0.2.1
theorem dX8_text_4 : decode cX8_text 4 = .ok (.aload_n 0, 1) := DX8_text_0.2.2.1
theorem dX8_text_5 : decode cX8_text 5 = .ok (.invokevirtual 116, 3) := DX8_text_0.2.2.2.1
theorem dX8_text_8 : decode cX8_text 8 = .ok (.ireturn, 1) := DX8_text_0.2.2.2.2.1
theorem dX8_text_9 : decode cX8_text 9 = .ok (.iload_n 1, 1) := DX8_text_0.2.2.2.2.2.1
theorem dX8_text_10 : decode cX8_text 10 = .ok (.iconst 1, 1) := DX8_text_0.2.2.2.2.2.2.1
theorem dX8_text_11 : decode cX8_text 11 = .ok (.if_icmp .ne 8, 3) := DX8_text_0.2.2.2.2.2.2.2.1
theorem dX8_text_14 : decode cX8_text 14 = .ok (.aload_n 0, 1) := DX8_text_0.2.2.2.2.2.2.2.2.1
theorem dX8_text_15 : decode cX8_text 15 = .ok (.invokevirtual 120, 3) := DX8_text_0.2.2.2.2.2.2.2.2.2.1
theorem dX8_text_18 : decode cX8_text 18 = .ok (.ireturn, 1) := DX8_text_0.2.2.2.2.2.2.2.2.2.2.1
theorem dX8_text_19 : decode cX8_text 19 = .ok (.iconst (-1), 1) := DX8_text_0.2.2.2.2.2.2.2.2.2.2.2.1
theorem dX8_text_20 : decode cX8_text 20 = .ok (.ireturn, 1) := DX8_text_0.2.2.2.2.2.2.2.2.2.2.2.2.1
theorem mX8_text : gMv yX8_text cX8_text 2 (some .int) RX8 1 := ⟨q308, q309, q1, q310, rfl, by decide, by decide, by decide +kernel⟩
noncomputable def fX8_text (v1 : Int32) (I : gM) : Option (Int32 × gM) :=
  if v1 = 0 then
    (fX8_textOfTables I).bind fun r1 =>
    some (r1.1, r1.2)
  else
    if v1 = 1 then
      (fX8_textOfScript I).bind fun r2 =>
      some (r2.1, r2.2)
    else
      some (((-1) : Int32), I)
set_option maxRecDepth 100000 in
set_option maxHeartbeats 4000000 in
theorem wX8_text (l : Launch) (E : gE) (hE : gDist sh E) (bk : Nat) (v1 : Int32) (I : gM) (J : gN) {r : Int32 × gM} (h : fX8_text v1 I = some r) : Cu l sh E bk yX8_text cX8_text 2 (some .int) (gR 18) [.ref (E.2.1 0), .int v1] I J (fun r1 I1 J1 => r1 = some (.int r.1) ∧ I1 = r.2 ∧ J1 = J) := by
  refine Cu.of "LeapJoin" rfl hE (by decide) (Nat.le_of_ble_eq_true rfl) (fun z F B e hl => ?_)
  subst hl
  unfold fX8_text at h
  refine g_iload_n F 1 dX8_text_0 rfl rfl ?_
  refine u_if_ne (tgt := 9) F dX8_text_1 (by decide) h (fun h => ?_) (fun h => ?_)
  · refine g_aload_n F 0 dX8_text_4 rfl rfl ?_
    refine u_callV (k := 0) (As := []) (rest := []) (sn := fun r1 => [.int r1.1]) F B (fun _ => wX8_textOfTables (zl z) E hE bk  I J) mX8_textOfTables q311 rfl s0 rfl rfl rfl (Nat.le_of_ble_eq_true rfl) dX8_text_5 (fun _ => rfl) h (fun r1 h => ?_)
    obtain rfl := Option.some.inj h
    exact g_iret F e dX8_text_8 ⟨rfl, rfl, rfl⟩
  · refine g_iload_n F 1 dX8_text_9 rfl rfl ?_
    refine g_iconst (v := 1) F dX8_text_10 (by decide) ?_
    refine u_icmp_ne (tgt := 19) F dX8_text_11 (by decide) h (fun h => ?_) (fun h => ?_)
    · refine g_aload_n F 0 dX8_text_14 rfl rfl ?_
      refine u_callV (k := 0) (As := []) (rest := []) (sn := fun r2 => [.int r2.1]) F B (fun _ => wX8_textOfScript (zl z) E hE bk  I J) mX8_textOfScript q391 rfl s0 rfl rfl rfl (Nat.le_of_ble_eq_true rfl) dX8_text_15 (fun _ => rfl) h (fun r2 h => ?_)
      obtain rfl := Option.some.inj h
      exact g_iret F e dX8_text_18 ⟨rfl, rfl, rfl⟩
    · refine g_iconst (v := (-1)) F dX8_text_19 (by decide) ?_
      obtain rfl := Option.some.inj h
      exact g_iret F e dX8_text_20 ⟨rfl, rfl, rfl⟩
theorem dX8_rule_13 : decode cX8_rule 13 = .ok (.tableswitch 75 0 4 #[35, 43, 51, 59, 67], 35) := by decide +kernel
theorem DX8_rule_0 : dAre cX8_rule [(0, .aload_n 0, 1), (1, .getfield 19, 3), (4, .getfield 134, 3), (7, .ifCond .ne 5, 3), (10, .iconst (-1), 1), (11, .ireturn, 1), (12, .iload_n 1, 1), (48, .aload_n 0, 1), (49, .getfield 19, 3), (52, .getfield 134, 3), (55, .ireturn, 1), (56, .aload_n 0, 1), (57, .getfield 19, 3), (60, .getfield 150, 3), (63, .ireturn, 1), (64, .aload_n 0, 1)] := dAre0 (by decide +kernel)
theorem dX8_rule_0 : decode cX8_rule 0 = .ok (.aload_n 0, 1) := DX8_rule_0.1
theorem dX8_rule_1 : decode cX8_rule 1 = .ok (.getfield 19, 3) := DX8_rule_0.2.1
theorem dX8_rule_4 : decode cX8_rule 4 = .ok (.getfield 134, 3) := DX8_rule_0.2.2.1
theorem dX8_rule_7 : decode cX8_rule 7 = .ok (.ifCond .ne 5, 3) := DX8_rule_0.2.2.2.1
theorem dX8_rule_10 : decode cX8_rule 10 = .ok (.iconst (-1), 1) := DX8_rule_0.2.2.2.2.1
theorem dX8_rule_11 : decode cX8_rule 11 = .ok (.ireturn, 1) := DX8_rule_0.2.2.2.2.2.1
theorem dX8_rule_12 : decode cX8_rule 12 = .ok (.iload_n 1, 1) := DX8_rule_0.2.2.2.2.2.2.1
theorem dX8_rule_48 : decode cX8_rule 48 = .ok (.aload_n 0, 1) := DX8_rule_0.2.2.2.2.2.2.2.1
theorem dX8_rule_49 : decode cX8_rule 49 = .ok (.getfield 19, 3) := DX8_rule_0.2.2.2.2.2.2.2.2.1
theorem dX8_rule_52 : decode cX8_rule 52 = .ok (.getfield 134, 3) := DX8_rule_0.2.2.2.2.2.2.2.2.2.1
theorem dX8_rule_55 : decode cX8_rule 55 = .ok (.ireturn, 1) := DX8_rule_0.2.2.2.2.2.2.2.2.2.2.1
theorem dX8_rule_56 : decode cX8_rule 56 = .ok (.aload_n 0, 1) := DX8_rule_0.2.2.2.2.2.2.2.2.2.2.2.1
theorem dX8_rule_57 : decode cX8_rule 57 = .ok (.getfield 19, 3) := DX8_rule_0.2.2.2.2.2.2.2.2.2.2.2.2.1
theorem dX8_rule_60 : decode cX8_rule 60 = .ok (.getfield 150, 3) := DX8_rule_0.2.2.2.2.2.2.2.2.2.2.2.2.2.1
theorem dX8_rule_63 : decode cX8_rule 63 = .ok (.ireturn, 1) := DX8_rule_0.2.2.2.2.2.2.2.2.2.2.2.2.2.2.1
theorem dX8_rule_64 : decode cX8_rule 64 = .ok (.aload_n 0, 1) := DX8_rule_0.2.2.2.2.2.2.2.2.2.2.2.2.2.2.2.1
theorem DX8_rule_65 : dAre cX8_rule [(65, .getfield 19, 3), (68, .getfield 140, 3), (71, .ireturn, 1), (72, .aload_n 0, 1), (73, .getfield 19, 3), (76, .invokevirtual 153, 3), (79, .ireturn, 1), (80, .aload_n 0, 1), (81, .getfield 19, 3), (84, .invokevirtual 156, 3), (87, .ireturn, 1), (88, .iconst (-1), 1), (89, .ireturn, 1)] := dAre0 (by decide +kernel)
theorem dX8_rule_65 : decode cX8_rule 65 = .ok (.getfield 19, 3) := DX8_rule_65.1
theorem dX8_rule_68 : decode cX8_rule 68 = .ok (.getfield 140, 3) := DX8_rule_65.2.1
theorem dX8_rule_71 : decode cX8_rule 71 = .ok (.ireturn, 1) := DX8_rule_65.2.2.1
theorem dX8_rule_72 : decode cX8_rule 72 = .ok (.aload_n 0, 1) := DX8_rule_65.2.2.2.1
theorem dX8_rule_73 : decode cX8_rule 73 = .ok (.getfield 19, 3) := DX8_rule_65.2.2.2.2.1
theorem dX8_rule_76 : decode cX8_rule 76 = .ok (.invokevirtual 153, 3) := DX8_rule_65.2.2.2.2.2.1
theorem dX8_rule_79 : decode cX8_rule 79 = .ok (.ireturn, 1) := DX8_rule_65.2.2.2.2.2.2.1
theorem dX8_rule_80 : decode cX8_rule 80 = .ok (.aload_n 0, 1) := DX8_rule_65.2.2.2.2.2.2.2.1
theorem dX8_rule_81 : decode cX8_rule 81 = .ok (.getfield 19, 3) := DX8_rule_65.2.2.2.2.2.2.2.2.1
theorem dX8_rule_84 : decode cX8_rule 84 = .ok (.invokevirtual 156, 3) := DX8_rule_65.2.2.2.2.2.2.2.2.2.1
theorem dX8_rule_87 : decode cX8_rule 87 = .ok (.ireturn, 1) := DX8_rule_65.2.2.2.2.2.2.2.2.2.2.1
theorem dX8_rule_88 : decode cX8_rule 88 = .ok (.iconst (-1), 1) := DX8_rule_65.2.2.2.2.2.2.2.2.2.2.2.1
theorem dX8_rule_89 : decode cX8_rule 89 = .ok (.ireturn, 1) := DX8_rule_65.2.2.2.2.2.2.2.2.2.2.2.2.1
theorem mX8_rule : gMv yX8_rule cX8_rule 2 (some .int) RX8 1 := ⟨q400, q401, q1, q402, rfl, by decide, by decide, by decide +kernel⟩
noncomputable def fX8_rule (v1 : Int32) (I : gM) : Option (Int32) :=
  if (I 3 0) = 0 then
    some ((-1) : Int32)
  else
    if v1 = 0 then
      some (I 3 0)
    else
    if v1 = 1 then
      some (I 3 1)
    else
    if v1 = 2 then
      some (I 3 2)
    else
    if v1 = 3 then
      (fX5_asked 3 I).bind fun r1 =>
      some r1
    else
    if v1 = 4 then
      (fX5_allRows 3 I).bind fun r2 =>
      some r2
    else
    some ((-1) : Int32)
set_option maxRecDepth 100000 in
set_option maxHeartbeats 4000000 in
theorem wX8_rule (l : Launch) (E : gE) (hE : gDist sh E) (bk : Nat) (v1 : Int32) (I : gM) (J : gN) {r : Int32} (h : fX8_rule v1 I = some r) : Cu l sh E bk yX8_rule cX8_rule 2 (some .int) (gR 3) [.ref (E.2.1 0), .int v1] I J (fun r1 I1 J1 => r1 = some (.int r) ∧ I1 = I ∧ J1 = J) := by
  refine Cu.of "LeapJoin" rfl hE (by decide) (Nat.le_of_ble_eq_true rfl) (fun z F B e hl => ?_)
  subst hl
  unfold fX8_rule at h
  refine g_aload_n F 0 dX8_rule_0 rfl rfl ?_
  refine g_getr (j := 1) (nn := 3) F s0 rfl rfl uX8 (by decide) q170 dX8_rule_1 ?_
  refine g_geti (j := 0) (v := I 3 0) F shX5_3.1 rfl rfl uX5 (by decide) q49 rfl dX8_rule_4 ?_
  refine u_if_ne (tgt := 12) F dX8_rule_7 (by decide) h (fun h => ?_) (fun h => ?_)
  · refine g_iconst (v := (-1)) F dX8_rule_10 (by decide) ?_
    obtain rfl := Option.some.inj h
    exact g_iret F e dX8_rule_11 ⟨rfl, rfl, rfl⟩
  · refine g_iload_n F 1 dX8_rule_12 rfl rfl ?_
    rcases oi h with ⟨c13_0, h⟩ | ⟨c13_0, h⟩
    · refine g_tableIn (tgt := 48) F dX8_rule_13 (by rw [c13_0]; decide) (by rw [c13_0]; decide) (by rw [c13_0]; rfl) (by decide) ?_
      refine g_aload_n F 0 dX8_rule_48 rfl rfl ?_
      refine g_getr (j := 1) (nn := 3) F s0 rfl rfl uX8 (by decide) q170 dX8_rule_49 ?_
      refine g_geti (j := 0) (v := I 3 0) F shX5_3.1 rfl rfl uX5 (by decide) q49 rfl dX8_rule_52 ?_
      obtain rfl := Option.some.inj h
      exact g_iret F e dX8_rule_55 ⟨rfl, rfl, rfl⟩
    rcases oi h with ⟨c13_1, h⟩ | ⟨c13_1, h⟩
    · refine g_tableIn (tgt := 56) F dX8_rule_13 (by rw [c13_1]; decide) (by rw [c13_1]; decide) (by rw [c13_1]; rfl) (by decide) ?_
      refine g_aload_n F 0 dX8_rule_56 rfl rfl ?_
      refine g_getr (j := 1) (nn := 3) F s0 rfl rfl uX8 (by decide) q170 dX8_rule_57 ?_
      refine g_geti (j := 1) (v := I 3 1) F shX5_3.1 rfl rfl uX5 (by decide) q52 rfl dX8_rule_60 ?_
      obtain rfl := Option.some.inj h
      exact g_iret F e dX8_rule_63 ⟨rfl, rfl, rfl⟩
    rcases oi h with ⟨c13_2, h⟩ | ⟨c13_2, h⟩
    · refine g_tableIn (tgt := 64) F dX8_rule_13 (by rw [c13_2]; decide) (by rw [c13_2]; decide) (by rw [c13_2]; rfl) (by decide) ?_
      refine g_aload_n F 0 dX8_rule_64 rfl rfl ?_
      refine g_getr (j := 1) (nn := 3) F s0 rfl rfl uX8 (by decide) q170 dX8_rule_65 ?_
      refine g_geti (j := 2) (v := I 3 2) F shX5_3.1 rfl rfl uX5 (by decide) q54 rfl dX8_rule_68 ?_
      obtain rfl := Option.some.inj h
      exact g_iret F e dX8_rule_71 ⟨rfl, rfl, rfl⟩
    rcases oi h with ⟨c13_3, h⟩ | ⟨c13_3, h⟩
    · refine g_tableIn (tgt := 72) F dX8_rule_13 (by rw [c13_3]; decide) (by rw [c13_3]; decide) (by rw [c13_3]; rfl) (by decide) ?_
      refine g_aload_n F 0 dX8_rule_72 rfl rfl ?_
      refine g_getr (j := 1) (nn := 3) F s0 rfl rfl uX8 (by decide) q170 dX8_rule_73 ?_
      refine u_callV (k := 3) (As := []) (rest := []) (sn := fun r1 => [.int r1]) F B (fun _ => wX5_asked (zl z) E hE bk 3 shX5_3 I J) mX5_asked q403 rfl shX5_3.1 rfl rfl rfl (Nat.le_of_ble_eq_true rfl) dX8_rule_76 (fun _ => rfl) h (fun r1 h => ?_)
      obtain rfl := Option.some.inj h
      exact g_iret F e dX8_rule_79 ⟨rfl, rfl, rfl⟩
    rcases oi h with ⟨c13_4, h⟩ | ⟨c13_4, h⟩
    · refine g_tableIn (tgt := 80) F dX8_rule_13 (by rw [c13_4]; decide) (by rw [c13_4]; decide) (by rw [c13_4]; rfl) (by decide) ?_
      refine g_aload_n F 0 dX8_rule_80 rfl rfl ?_
      refine g_getr (j := 1) (nn := 3) F s0 rfl rfl uX8 (by decide) q170 dX8_rule_81 ?_
      refine u_callV (k := 3) (As := []) (rest := []) (sn := fun r2 => [.int r2]) F B (fun _ => wX5_allRows (zl z) E hE bk 3 shX5_3 I J) mX5_allRows q404 rfl shX5_3.1 rfl rfl rfl (Nat.le_of_ble_eq_true rfl) dX8_rule_84 (fun _ => rfl) h (fun r2 h => ?_)
      obtain rfl := Option.some.inj h
      exact g_iret F e dX8_rule_87 ⟨rfl, rfl, rfl⟩
    refine g_tableOut (tgt := 88) F dX8_rule_13 (by have q0 : ¬ (v1).toInt = 0 := fun q => c13_0 (Int32.toInt_inj.mp (q.trans (by decide))); have q1 : ¬ (v1).toInt = 1 := fun q => c13_1 (Int32.toInt_inj.mp (q.trans (by decide))); have q2 : ¬ (v1).toInt = 2 := fun q => c13_2 (Int32.toInt_inj.mp (q.trans (by decide))); have q3 : ¬ (v1).toInt = 3 := fun q => c13_3 (Int32.toInt_inj.mp (q.trans (by decide))); have q4 : ¬ (v1).toInt = 4 := fun q => c13_4 (Int32.toInt_inj.mp (q.trans (by decide))); omega) (by decide) ?_
    refine g_iconst (v := (-1)) F dX8_rule_88 (by decide) ?_
    obtain rfl := Option.some.inj h
    exact g_iret F e dX8_rule_89 ⟨rfl, rfl, rfl⟩
theorem DX8_cell_0 : dAre cX8_cell [(0, .aload_n 0, 1), (1, .getfield 19, 3), (4, .iload_n 1, 1), (5, .invokevirtual 159, 3), (8, .ifCond .eq 37, 3), (11, .iload_n 2, 1), (12, .ifCond .lt 33, 3), (15, .iload_n 2, 1), (16, .aload_n 0, 1), (17, .getfield 19, 3), (20, .getfield 176, 3), (23, .iload_n 1, 1), (24, .iaload, 1), (25, .if_icmp .ge 20, 3), (28, .iload_n 3, 1), (29, .ifCond .lt 16, 3)] := dAre0 (by decide +kernel)
theorem dX8_cell_0 : decode cX8_cell 0 = .ok (.aload_n 0, 1) := DX8_cell_0.1
theorem dX8_cell_1 : decode cX8_cell 1 = .ok (.getfield 19, 3) := DX8_cell_0.2.1
theorem dX8_cell_4 : decode cX8_cell 4 = .ok (.iload_n 1, 1) := DX8_cell_0.2.2.1
theorem dX8_cell_5 : decode cX8_cell 5 = .ok (.invokevirtual 159, 3) := DX8_cell_0.2.2.2.1
theorem dX8_cell_8 : decode cX8_cell 8 = .ok (.ifCond .eq 37, 3) := DX8_cell_0.2.2.2.2.1
theorem dX8_cell_11 : decode cX8_cell 11 = .ok (.iload_n 2, 1) := DX8_cell_0.2.2.2.2.2.1
theorem dX8_cell_12 : decode cX8_cell 12 = .ok (.ifCond .lt 33, 3) := DX8_cell_0.2.2.2.2.2.2.1
theorem dX8_cell_15 : decode cX8_cell 15 = .ok (.iload_n 2, 1) := DX8_cell_0.2.2.2.2.2.2.2.1
theorem dX8_cell_16 : decode cX8_cell 16 = .ok (.aload_n 0, 1) := DX8_cell_0.2.2.2.2.2.2.2.2.1
theorem dX8_cell_17 : decode cX8_cell 17 = .ok (.getfield 19, 3) := DX8_cell_0.2.2.2.2.2.2.2.2.2.1
theorem dX8_cell_20 : decode cX8_cell 20 = .ok (.getfield 176, 3) := DX8_cell_0.2.2.2.2.2.2.2.2.2.2.1
theorem dX8_cell_23 : decode cX8_cell 23 = .ok (.iload_n 1, 1) := DX8_cell_0.2.2.2.2.2.2.2.2.2.2.2.1
theorem dX8_cell_24 : decode cX8_cell 24 = .ok (.iaload, 1) := DX8_cell_0.2.2.2.2.2.2.2.2.2.2.2.2.1
theorem dX8_cell_25 : decode cX8_cell 25 = .ok (.if_icmp .ge 20, 3) := DX8_cell_0.2.2.2.2.2.2.2.2.2.2.2.2.2.1
theorem dX8_cell_28 : decode cX8_cell 28 = .ok (.iload_n 3, 1) := DX8_cell_0.2.2.2.2.2.2.2.2.2.2.2.2.2.2.1
theorem dX8_cell_29 : decode cX8_cell 29 = .ok (.ifCond .lt 16, 3) := DX8_cell_0.2.2.2.2.2.2.2.2.2.2.2.2.2.2.2.1
theorem DX8_cell_32 : dAre cX8_cell [(32, .iload_n 3, 1), (33, .aload_n 0, 1), (34, .getfield 19, 3), (37, .getfield 170, 3), (40, .iload_n 1, 1), (41, .iaload, 1), (42, .if_icmp .lt 5, 3), (45, .iconst (-1), 1), (46, .ireturn, 1), (47, .aload_n 0, 1), (48, .getfield 19, 3), (51, .iload_n 1, 1), (52, .iload_n 2, 1), (53, .invokevirtual 182, 3), (56, .bipush 14, 2), (58, .bipush 7, 2)] := dAre0 (by decide +kernel)
theorem dX8_cell_32 : decode cX8_cell 32 = .ok (.iload_n 3, 1) := DX8_cell_32.1
theorem dX8_cell_33 : decode cX8_cell 33 = .ok (.aload_n 0, 1) := DX8_cell_32.2.1
theorem dX8_cell_34 : decode cX8_cell 34 = .ok (.getfield 19, 3) := DX8_cell_32.2.2.1
theorem dX8_cell_37 : decode cX8_cell 37 = .ok (.getfield 170, 3) := DX8_cell_32.2.2.2.1
theorem dX8_cell_40 : decode cX8_cell 40 = .ok (.iload_n 1, 1) := DX8_cell_32.2.2.2.2.1
theorem dX8_cell_41 : decode cX8_cell 41 = .ok (.iaload, 1) := DX8_cell_32.2.2.2.2.2.1
theorem dX8_cell_42 : decode cX8_cell 42 = .ok (.if_icmp .lt 5, 3) := DX8_cell_32.2.2.2.2.2.2.1
theorem dX8_cell_45 : decode cX8_cell 45 = .ok (.iconst (-1), 1) := DX8_cell_32.2.2.2.2.2.2.2.1
theorem dX8_cell_46 : decode cX8_cell 46 = .ok (.ireturn, 1) := DX8_cell_32.2.2.2.2.2.2.2.2.1
theorem dX8_cell_47 : decode cX8_cell 47 = .ok (.aload_n 0, 1) := DX8_cell_32.2.2.2.2.2.2.2.2.2.1
theorem dX8_cell_48 : decode cX8_cell 48 = .ok (.getfield 19, 3) := DX8_cell_32.2.2.2.2.2.2.2.2.2.2.1
theorem dX8_cell_51 : decode cX8_cell 51 = .ok (.iload_n 1, 1) := DX8_cell_32.2.2.2.2.2.2.2.2.2.2.2.1
theorem dX8_cell_52 : decode cX8_cell 52 = .ok (.iload_n 2, 1) := DX8_cell_32.2.2.2.2.2.2.2.2.2.2.2.2.1
theorem dX8_cell_53 : decode cX8_cell 53 = .ok (.invokevirtual 182, 3) := DX8_cell_32.2.2.2.2.2.2.2.2.2.2.2.2.2.1
theorem dX8_cell_56 : decode cX8_cell 56 = .ok (.bipush 14, 2) := DX8_cell_32.2.2.2.2.2.2.2.2.2.2.2.2.2.2.1
theorem dX8_cell_58 : decode cX8_cell 58 = .ok (.bipush 7, 2) := DX8_cell_32.2.2.2.2.2.2.2.2.2.2.2.2.2.2.2.1
theorem DX8_cell_60 : dAre cX8_cell [(60, .iload_n 3, 1), (61, .imul, 1), (62, .isub, 1), (63, .ishr, 1), (64, .bipush 127, 2), (66, .iand, 1), (67, .ireturn, 1)] := dAre0 (by decide +kernel)
theorem dX8_cell_60 : decode cX8_cell 60 = .ok (.iload_n 3, 1) := DX8_cell_60.1
theorem dX8_cell_61 : decode cX8_cell 61 = .ok (.imul, 1) := DX8_cell_60.2.1
theorem dX8_cell_62 : decode cX8_cell 62 = .ok (.isub, 1) := DX8_cell_60.2.2.1
theorem dX8_cell_63 : decode cX8_cell 63 = .ok (.ishr, 1) := DX8_cell_60.2.2.2.1
theorem dX8_cell_64 : decode cX8_cell 64 = .ok (.bipush 127, 2) := DX8_cell_60.2.2.2.2.1
theorem dX8_cell_66 : decode cX8_cell 66 = .ok (.iand, 1) := DX8_cell_60.2.2.2.2.2.1
theorem dX8_cell_67 : decode cX8_cell 67 = .ok (.ireturn, 1) := DX8_cell_60.2.2.2.2.2.2.1
theorem mX8_cell : gMv yX8_cell cX8_cell 4 (some .int) RX8 3 := ⟨q409, q410, q1, q411, rfl, by decide, by decide, by decide +kernel⟩
noncomputable def fX8_cell (v1 : Int32) (v2 : Int32) (v3 : Int32) (I : gM) : Option (Int32) :=
  (fX5_isTable 3 v1 I).bind fun r1 =>
  if r1 = 0 then
    some ((-1) : Int32)
  else
    if v2 < 0 then
      some ((-1) : Int32)
    else
      (rI 4 (I 5) v1).bind fun u2 =>
      if u2 ≤ v2 then
        some ((-1) : Int32)
      else
        if v3 < 0 then
          some ((-1) : Int32)
        else
          (rI 4 (I 4) v1).bind fun u3 =>
          if v3 < u3 then
            (fX5_rowAt 3 v1 v2 I).bind fun r4 =>
            some ((r4 >>> (((14 : Int32) - ((7 : Int32) * v3)) &&& 31)) &&& 127)
          else
            some ((-1) : Int32)
set_option maxRecDepth 100000 in
set_option maxHeartbeats 4000000 in
theorem wX8_cell (l : Launch) (E : gE) (hE : gDist sh E) (bk : Nat) (v1 : Int32) (v2 : Int32) (v3 : Int32) (I : gM) (J : gN) {r : Int32} (h : fX8_cell v1 v2 v3 I = some r) : Cu l sh E bk yX8_cell cX8_cell 4 (some .int) (gR 1) [.ref (E.2.1 0), .int v1, .int v2, .int v3] I J (fun r1 I1 J1 => r1 = some (.int r) ∧ I1 = I ∧ J1 = J) := by
  refine Cu.of "LeapJoin" rfl hE (by decide) (Nat.le_of_ble_eq_true rfl) (fun z F B e hl => ?_)
  subst hl
  unfold fX8_cell at h
  refine g_aload_n F 0 dX8_cell_0 rfl rfl ?_
  refine g_getr (j := 1) (nn := 3) F s0 rfl rfl uX8 (by decide) q170 dX8_cell_1 ?_
  refine g_iload_n F 1 dX8_cell_4 rfl rfl ?_
  refine u_callV (k := 3) (As := [.int v1]) (rest := []) (sn := fun r1 => [.int r1]) F B (fun _ => wX5_isTable (zl z) E hE bk 3 v1 shX5_3 I J) mX5_isTable q412 rfl shX5_3.1 rfl rfl rfl (Nat.le_of_ble_eq_true rfl) dX8_cell_5 (fun _ => rfl) h (fun r1 h => ?_)
  refine u_if_eq (tgt := 45) F dX8_cell_8 (by decide) h (fun h => ?_) (fun h => ?_)
  · refine g_iconst (v := (-1)) F dX8_cell_45 (by decide) ?_
    obtain rfl := Option.some.inj h
    exact g_iret F e dX8_cell_46 ⟨rfl, rfl, rfl⟩
  · refine g_iload_n F 2 dX8_cell_11 rfl rfl ?_
    refine u_if_lt (tgt := 45) F dX8_cell_12 (by decide) h (fun h => ?_) (fun h => ?_)
    · refine g_iconst (v := (-1)) F dX8_cell_45 (by decide) ?_
      obtain rfl := Option.some.inj h
      exact g_iret F e dX8_cell_46 ⟨rfl, rfl, rfl⟩
    · refine g_iload_n F 2 dX8_cell_15 rfl rfl ?_
      refine g_aload_n F 0 dX8_cell_16 rfl rfl ?_
      refine g_getr (j := 1) (nn := 3) F s0 rfl rfl uX8 (by decide) q170 dX8_cell_17 ?_
      refine g_getr (j := 4) (nn := 5) F shX5_3.1 rfl rfl uX5 (by decide) q61 dX8_cell_20 ?_
      refine g_iload_n F 1 dX8_cell_23 rfl rfl ?_
      refine u_rI F shX5_3.2.2.1 (by decide) dX8_cell_24 h (fun u2 h => ?_)
      refine u_icmp_ge (tgt := 45) F dX8_cell_25 (by decide) h (fun h => ?_) (fun h => ?_)
      · refine g_iconst (v := (-1)) F dX8_cell_45 (by decide) ?_
        obtain rfl := Option.some.inj h
        exact g_iret F e dX8_cell_46 ⟨rfl, rfl, rfl⟩
      · refine g_iload_n F 3 dX8_cell_28 rfl rfl ?_
        refine u_if_lt (tgt := 45) F dX8_cell_29 (by decide) h (fun h => ?_) (fun h => ?_)
        · refine g_iconst (v := (-1)) F dX8_cell_45 (by decide) ?_
          obtain rfl := Option.some.inj h
          exact g_iret F e dX8_cell_46 ⟨rfl, rfl, rfl⟩
        · refine g_iload_n F 3 dX8_cell_32 rfl rfl ?_
          refine g_aload_n F 0 dX8_cell_33 rfl rfl ?_
          refine g_getr (j := 1) (nn := 3) F s0 rfl rfl uX8 (by decide) q170 dX8_cell_34 ?_
          refine g_getr (j := 3) (nn := 4) F shX5_3.1 rfl rfl uX5 (by decide) q57 dX8_cell_37 ?_
          refine g_iload_n F 1 dX8_cell_40 rfl rfl ?_
          refine u_rI F shX5_3.2.1 (by decide) dX8_cell_41 h (fun u3 h => ?_)
          refine u_icmp_lt (tgt := 47) F dX8_cell_42 (by decide) h (fun h => ?_) (fun h => ?_)
          · refine g_aload_n F 0 dX8_cell_47 rfl rfl ?_
            refine g_getr (j := 1) (nn := 3) F s0 rfl rfl uX8 (by decide) q170 dX8_cell_48 ?_
            refine g_iload_n F 1 dX8_cell_51 rfl rfl ?_
            refine g_iload_n F 2 dX8_cell_52 rfl rfl ?_
            refine u_callV (k := 3) (As := [.int v1, .int v2]) (rest := []) (sn := fun r4 => [.int r4]) F B (fun _ => wX5_rowAt (zl z) E hE bk 3 v1 v2 shX5_3 I J) mX5_rowAt q413 rfl shX5_3.1 rfl rfl rfl (Nat.le_of_ble_eq_true rfl) dX8_cell_53 (fun _ => rfl) h (fun r4 h => ?_)
            refine g_bipush (v := 14) F dX8_cell_56 (by decide) ?_
            refine g_bipush (v := 7) F dX8_cell_58 (by decide) ?_
            refine g_iload_n F 3 dX8_cell_60 rfl rfl ?_
            refine g_imul (v := (7 : Int32) * v3) F dX8_cell_61 rfl ?_
            refine g_isub (v := (14 : Int32) - ((7 : Int32) * v3)) F dX8_cell_62 rfl ?_
            refine g_ishr (v := r4 >>> (((14 : Int32) - ((7 : Int32) * v3)) &&& 31)) F dX8_cell_63 rfl ?_
            refine g_bipush (v := 127) F dX8_cell_64 (by decide) ?_
            refine g_iand (v := (r4 >>> (((14 : Int32) - ((7 : Int32) * v3)) &&& 31)) &&& 127) F dX8_cell_66 rfl ?_
            obtain rfl := Option.some.inj h
            exact g_iret F e dX8_cell_67 ⟨rfl, rfl, rfl⟩
          · refine g_iconst (v := (-1)) F dX8_cell_45 (by decide) ?_
            obtain rfl := Option.some.inj h
            exact g_iret F e dX8_cell_46 ⟨rfl, rfl, rfl⟩
