theorem dX9_feed_0 : decode cX9_feed 0 = .ok (.iconst 0, 1) := by decide +kernel
theorem dX9_feed_1 : decode cX9_feed 1 = .ok (.istore 6, 2) := by decide +kernel
theorem dX9_feed_3 : decode cX9_feed 3 = .ok (.iconst 0, 1) := by decide +kernel
theorem dX9_feed_4 : decode cX9_feed 4 = .ok (.istore 7, 2) := by decide +kernel
theorem dX9_feed_6 : decode cX9_feed 6 = .ok (.iload 7, 2) := by decide +kernel
theorem dX9_feed_8 : decode cX9_feed 8 = .ok (.bipush 20, 2) := by decide +kernel
theorem dX9_feed_10 : decode cX9_feed 10 = .ok (.if_icmp .ge 34, 3) := by decide +kernel
theorem dX9_feed_13 : decode cX9_feed 13 = .ok (.iload 6, 2) := by decide +kernel
theorem dX9_feed_15 : decode cX9_feed 15 = .ok (.iload_n 1, 1) := by decide +kernel
theorem dX9_feed_16 : decode cX9_feed 16 = .ok (.iload_n 2, 1) := by decide +kernel
theorem dX9_feed_17 : decode cX9_feed 17 = .ok (.iload_n 3, 1) := by decide +kernel
theorem dX9_feed_18 : decode cX9_feed 18 = .ok (.iload 4, 2) := by decide +kernel
theorem dX9_feed_20 : decode cX9_feed 20 = .ok (.iload 5, 2) := by decide +kernel
theorem dX9_feed_22 : decode cX9_feed 22 = .ok (.iload 7, 2) := by decide +kernel
theorem dX9_feed_24 : decode cX9_feed 24 = .ok (.invokestatic 97, 3) := by decide +kernel
theorem dX9_feed_27 : decode cX9_feed 27 = .ok (.ifCond .eq 7, 3) := by decide +kernel
theorem dX9_feed_30 : decode cX9_feed 30 = .ok (.iconst 1, 1) := by decide +kernel
theorem dX9_feed_31 : decode cX9_feed 31 = .ok (.goto 4, 3) := by decide +kernel
theorem dX9_feed_34 : decode cX9_feed 34 = .ok (.iconst 0, 1) := by decide +kernel
theorem dX9_feed_35 : decode cX9_feed 35 = .ok (.iadd, 1) := by decide +kernel
theorem dX9_feed_36 : decode cX9_feed 36 = .ok (.istore 6, 2) := by decide +kernel
theorem dX9_feed_38 : decode cX9_feed 38 = .ok (.iinc 7 1, 3) := by decide +kernel
theorem dX9_feed_41 : decode cX9_feed 41 = .ok (.goto (-35), 3) := by decide +kernel
theorem dX9_feed_44 : decode cX9_feed 44 = .ok (.aload_n 0, 1) := by decide +kernel
theorem dX9_feed_45 : decode cX9_feed 45 = .ok (.getfield 101, 3) := by decide +kernel
theorem dX9_feed_48 : decode cX9_feed 48 = .ok (.iload 6, 2) := by decide +kernel
theorem dX9_feed_50 : decode cX9_feed 50 = .ok (.iadd, 1) := by decide +kernel
theorem dX9_feed_51 : decode cX9_feed 51 = .ok (.sipush 400, 3) := by decide +kernel
theorem dX9_feed_54 : decode cX9_feed 54 = .ok (.if_icmp .le 5, 3) := by decide +kernel
theorem dX9_feed_57 : decode cX9_feed 57 = .ok (.iconst (-1), 1) := by decide +kernel
theorem dX9_feed_58 : decode cX9_feed 58 = .ok (.ireturn, 1) := by decide +kernel
theorem dX9_feed_59 : decode cX9_feed 59 = .ok (.iconst 0, 1) := by decide +kernel
theorem dX9_feed_60 : decode cX9_feed 60 = .ok (.istore 7, 2) := by decide +kernel
theorem dX9_feed_62 : decode cX9_feed 62 = .ok (.iload 7, 2) := by decide +kernel
theorem dX9_feed_64 : decode cX9_feed 64 = .ok (.bipush 20, 2) := by decide +kernel
theorem dX9_feed_66 : decode cX9_feed 66 = .ok (.if_icmp .ge 49, 3) := by decide +kernel
theorem dX9_feed_69 : decode cX9_feed 69 = .ok (.iload_n 1, 1) := by decide +kernel
theorem dX9_feed_70 : decode cX9_feed 70 = .ok (.iload_n 2, 1) := by decide +kernel
theorem dX9_feed_71 : decode cX9_feed 71 = .ok (.iload_n 3, 1) := by decide +kernel
theorem dX9_feed_72 : decode cX9_feed 72 = .ok (.iload 4, 2) := by decide +kernel
theorem dX9_feed_74 : decode cX9_feed 74 = .ok (.iload 5, 2) := by decide +kernel
theorem dX9_feed_76 : decode cX9_feed 76 = .ok (.iload 7, 2) := by decide +kernel
theorem dX9_feed_78 : decode cX9_feed 78 = .ok (.invokestatic 97, 3) := by decide +kernel
theorem dX9_feed_81 : decode cX9_feed 81 = .ok (.istore 8, 2) := by decide +kernel
theorem dX9_feed_83 : decode cX9_feed 83 = .ok (.iload 8, 2) := by decide +kernel
theorem dX9_feed_85 : decode cX9_feed 85 = .ok (.ifCond .eq 24, 3) := by decide +kernel
theorem dX9_feed_88 : decode cX9_feed 88 = .ok (.aload_n 0, 1) := by decide +kernel
theorem dX9_feed_89 : decode cX9_feed 89 = .ok (.getfield 9, 3) := by decide +kernel
theorem dX9_feed_92 : decode cX9_feed 92 = .ok (.aload_n 0, 1) := by decide +kernel
theorem dX9_feed_93 : decode cX9_feed 93 = .ok (.getfield 101, 3) := by decide +kernel
theorem dX9_feed_96 : decode cX9_feed 96 = .ok (.iload 8, 2) := by decide +kernel
theorem dX9_feed_98 : decode cX9_feed 98 = .ok (.iastore, 1) := by decide +kernel
theorem dX9_feed_99 : decode cX9_feed 99 = .ok (.aload_n 0, 1) := by decide +kernel
theorem dX9_feed_100 : decode cX9_feed 100 = .ok (.dup, 1) := by decide +kernel
theorem dX9_feed_101 : decode cX9_feed 101 = .ok (.getfield 101, 3) := by decide +kernel
theorem dX9_feed_104 : decode cX9_feed 104 = .ok (.iconst 1, 1) := by decide +kernel
theorem dX9_feed_105 : decode cX9_feed 105 = .ok (.iadd, 1) := by decide +kernel
theorem dX9_feed_106 : decode cX9_feed 106 = .ok (.putfield 101, 3) := by decide +kernel
theorem dX9_feed_109 : decode cX9_feed 109 = .ok (.iinc 7 1, 3) := by decide +kernel
theorem dX9_feed_112 : decode cX9_feed 112 = .ok (.goto (-50), 3) := by decide +kernel
theorem dX9_feed_115 : decode cX9_feed 115 = .ok (.aload_n 0, 1) := by decide +kernel
theorem dX9_feed_116 : decode cX9_feed 116 = .ok (.getfield 101, 3) := by decide +kernel
theorem dX9_feed_119 : decode cX9_feed 119 = .ok (.ireturn, 1) := by decide +kernel
theorem dX9_byteOf_0 : decode cX9_byteOf 0 = .ok (.iload 5, 2) := by decide +kernel
theorem dX9_byteOf_2 : decode cX9_byteOf 2 = .ok (.iconst 4, 1) := by decide +kernel
theorem dX9_byteOf_3 : decode cX9_byteOf 3 = .ok (.if_icmp .ge 7, 3) := by decide +kernel
theorem dX9_byteOf_6 : decode cX9_byteOf 6 = .ok (.iload_n 0, 1) := by decide +kernel
theorem dX9_byteOf_7 : decode cX9_byteOf 7 = .ok (.goto 38, 3) := by decide +kernel
theorem dX9_byteOf_10 : decode cX9_byteOf 10 = .ok (.iload 5, 2) := by decide +kernel
theorem dX9_byteOf_12 : decode cX9_byteOf 12 = .ok (.bipush 8, 2) := by decide +kernel
theorem dX9_byteOf_14 : decode cX9_byteOf 14 = .ok (.if_icmp .ge 7, 3) := by decide +kernel
theorem dX9_byteOf_17 : decode cX9_byteOf 17 = .ok (.iload_n 1, 1) := by decide +kernel
theorem dX9_byteOf_18 : decode cX9_byteOf 18 = .ok (.goto 27, 3) := by decide +kernel
theorem dX9_byteOf_21 : decode cX9_byteOf 21 = .ok (.iload 5, 2) := by decide +kernel
theorem dX9_byteOf_23 : decode cX9_byteOf 23 = .ok (.bipush 12, 2) := by decide +kernel
theorem dX9_byteOf_25 : decode cX9_byteOf 25 = .ok (.if_icmp .ge 7, 3) := by decide +kernel
theorem dX9_byteOf_28 : decode cX9_byteOf 28 = .ok (.iload_n 2, 1) := by decide +kernel
theorem dX9_byteOf_29 : decode cX9_byteOf 29 = .ok (.goto 16, 3) := by decide +kernel
theorem dX9_byteOf_32 : decode cX9_byteOf 32 = .ok (.iload 5, 2) := by decide +kernel
theorem dX9_byteOf_34 : decode cX9_byteOf 34 = .ok (.bipush 16, 2) := by decide +kernel
theorem dX9_byteOf_36 : decode cX9_byteOf 36 = .ok (.if_icmp .ge 7, 3) := by decide +kernel
theorem dX9_byteOf_39 : decode cX9_byteOf 39 = .ok (.iload_n 3, 1) := by decide +kernel
theorem dX9_byteOf_40 : decode cX9_byteOf 40 = .ok (.goto 5, 3) := by decide +kernel
theorem dX9_byteOf_43 : decode cX9_byteOf 43 = .ok (.iload 4, 2) := by decide +kernel
theorem dX9_byteOf_45 : decode cX9_byteOf 45 = .ok (.istore 6, 2) := by decide +kernel
theorem dX9_byteOf_47 : decode cX9_byteOf 47 = .ok (.iload 6, 2) := by decide +kernel
theorem dX9_byteOf_49 : decode cX9_byteOf 49 = .ok (.bipush 24, 2) := by decide +kernel
theorem dX9_byteOf_51 : decode cX9_byteOf 51 = .ok (.bipush 8, 2) := by decide +kernel
theorem dX9_byteOf_53 : decode cX9_byteOf 53 = .ok (.iload 5, 2) := by decide +kernel
theorem dX9_byteOf_55 : decode cX9_byteOf 55 = .ok (.iconst 4, 1) := by decide +kernel
theorem dX9_byteOf_56 : decode cX9_byteOf 56 = .ok (.irem, 1) := by decide +kernel
theorem dX9_byteOf_57 : decode cX9_byteOf 57 = .ok (.imul, 1) := by decide +kernel
theorem dX9_byteOf_58 : decode cX9_byteOf 58 = .ok (.isub, 1) := by decide +kernel
theorem dX9_byteOf_59 : decode cX9_byteOf 59 = .ok (.ishr, 1) := by decide +kernel
theorem dX9_byteOf_60 : decode cX9_byteOf 60 = .ok (.sipush 255, 3) := by decide +kernel
theorem dX9_byteOf_63 : decode cX9_byteOf 63 = .ok (.iand, 1) := by decide +kernel
theorem dX9_byteOf_64 : decode cX9_byteOf 64 = .ok (.ireturn, 1) := by decide +kernel
theorem mX9_byteOf : gMs yX9_byteOf cX9_byteOf 7 (some .int) 6 := ⟨q917, q10, q918, by decide, by decide, by decide +kernel⟩
set_option maxRecDepth 100000 in
set_option maxHeartbeats 4000000 in
theorem kX9_byteOf (l : Launch) (E : gE) (hE : gDist sh E) (I : gM) (J : gN) (a0 : Int32) (a1 : Int32) (a2 : Int32) (a3 : Int32) (a4 : Int32) : Ct l sh E yX9_byteOf cX9_byteOf 7 (some .int) (gR 0) [.int a0, .int a1, .int a2, .int a3, .int a4, .int 19] I J (fun r I1 J1 => r = some (.int ((a4 >>> 0) &&& 255)) ∧ I1 = I ∧ J1 = J) := by
  refine Ct.of "LeapJoinModel" rfl hE (by decide) (Nat.le_of_ble_eq_true rfl) (fun z F e hl => ?_)
  subst hl
  refine g_iload F 5 dX9_byteOf_0 rfl ?_
  refine g_iconst (v := 4) F dX9_byteOf_2 (by decide) ?_
  refine g_icmp_ge (tgt := 10) F dX9_byteOf_3 (by decide) (fun _ => ?_) (fun h => absurd (by decide) h)
  refine g_iload F 5 dX9_byteOf_10 rfl ?_
  refine g_bipush (v := 8) F dX9_byteOf_12 (by decide) ?_
  refine g_icmp_ge (tgt := 21) F dX9_byteOf_14 (by decide) (fun _ => ?_) (fun h => absurd (by decide) h)
  refine g_iload F 5 dX9_byteOf_21 rfl ?_
  refine g_bipush (v := 12) F dX9_byteOf_23 (by decide) ?_
  refine g_icmp_ge (tgt := 32) F dX9_byteOf_25 (by decide) (fun _ => ?_) (fun h => absurd (by decide) h)
  refine g_iload F 5 dX9_byteOf_32 rfl ?_
  refine g_bipush (v := 16) F dX9_byteOf_34 (by decide) ?_
  refine g_icmp_ge (tgt := 43) F dX9_byteOf_36 (by decide) (fun _ => ?_) (fun h => absurd (by decide) h)
  refine g_iload F 4 dX9_byteOf_43 rfl ?_
  refine g_istore (Ln := [(6, .int a4), (0, .int a0), (1, .int a1), (2, .int a2), (3, .int a3), (4, .int a4), (5, .int 19)]) F dX9_byteOf_45 (by decide) rfl ?_
  refine g_iload F 0 dX9_byteOf_47 rfl ?_
  refine g_bipush (v := 24) F dX9_byteOf_49 (by decide) ?_
  refine g_bipush (v := 8) F dX9_byteOf_51 (by decide) ?_
  refine g_iload F 6 dX9_byteOf_53 rfl ?_
  refine g_iconst (v := 4) F dX9_byteOf_55 (by decide) ?_
  refine g_irem (v := 3) F dX9_byteOf_56 (by decide) (by decide) ?_
  refine g_imul (v := 24) F dX9_byteOf_57 (by decide) ?_
  refine g_isub (v := 0) F dX9_byteOf_58 (by decide) ?_
  refine g_ishr (v := a4 >>> 0) F dX9_byteOf_59 rfl ?_
  refine g_sipush (v := 255) F dX9_byteOf_60 (by decide) ?_
  refine g_iand (v := (a4 >>> 0) &&& 255) F dX9_byteOf_63 rfl ?_
  exact g_iret F e dX9_byteOf_64 ⟨rfl, rfl, rfl⟩
set_option maxRecDepth 100000 in
set_option maxHeartbeats 4000000 in
theorem kX9_byteOf_2 (l : Launch) (E : gE) (hE : gDist sh E) (I : gM) (J : gN) (a0 : Int32) (a1 : Int32) (a2 : Int32) (a3 : Int32) (a4 : Int32) : Ct l sh E yX9_byteOf cX9_byteOf 7 (some .int) (gR 0) [.int a0, .int a1, .int a2, .int a3, .int a4, .int 18] I J (fun r I1 J1 => r = some (.int ((a4 >>> 8) &&& 255)) ∧ I1 = I ∧ J1 = J) := by
  refine Ct.of "LeapJoinModel" rfl hE (by decide) (Nat.le_of_ble_eq_true rfl) (fun z F e hl => ?_)
  subst hl
  refine g_iload F 5 dX9_byteOf_0 rfl ?_
  refine g_iconst (v := 4) F dX9_byteOf_2 (by decide) ?_
  refine g_icmp_ge (tgt := 10) F dX9_byteOf_3 (by decide) (fun _ => ?_) (fun h => absurd (by decide) h)
  refine g_iload F 5 dX9_byteOf_10 rfl ?_
  refine g_bipush (v := 8) F dX9_byteOf_12 (by decide) ?_
  refine g_icmp_ge (tgt := 21) F dX9_byteOf_14 (by decide) (fun _ => ?_) (fun h => absurd (by decide) h)
  refine g_iload F 5 dX9_byteOf_21 rfl ?_
  refine g_bipush (v := 12) F dX9_byteOf_23 (by decide) ?_
  refine g_icmp_ge (tgt := 32) F dX9_byteOf_25 (by decide) (fun _ => ?_) (fun h => absurd (by decide) h)
  refine g_iload F 5 dX9_byteOf_32 rfl ?_
  refine g_bipush (v := 16) F dX9_byteOf_34 (by decide) ?_
  refine g_icmp_ge (tgt := 43) F dX9_byteOf_36 (by decide) (fun _ => ?_) (fun h => absurd (by decide) h)
  refine g_iload F 4 dX9_byteOf_43 rfl ?_
  refine g_istore (Ln := [(6, .int a4), (0, .int a0), (1, .int a1), (2, .int a2), (3, .int a3), (4, .int a4), (5, .int 18)]) F dX9_byteOf_45 (by decide) rfl ?_
  refine g_iload F 0 dX9_byteOf_47 rfl ?_
  refine g_bipush (v := 24) F dX9_byteOf_49 (by decide) ?_
  refine g_bipush (v := 8) F dX9_byteOf_51 (by decide) ?_
  refine g_iload F 6 dX9_byteOf_53 rfl ?_
  refine g_iconst (v := 4) F dX9_byteOf_55 (by decide) ?_
  refine g_irem (v := 2) F dX9_byteOf_56 (by decide) (by decide) ?_
  refine g_imul (v := 16) F dX9_byteOf_57 (by decide) ?_
  refine g_isub (v := 8) F dX9_byteOf_58 (by decide) ?_
  refine g_ishr (v := a4 >>> 8) F dX9_byteOf_59 rfl ?_
  refine g_sipush (v := 255) F dX9_byteOf_60 (by decide) ?_
  refine g_iand (v := (a4 >>> 8) &&& 255) F dX9_byteOf_63 rfl ?_
  exact g_iret F e dX9_byteOf_64 ⟨rfl, rfl, rfl⟩
set_option maxRecDepth 100000 in
set_option maxHeartbeats 4000000 in
theorem kX9_byteOf_3 (l : Launch) (E : gE) (hE : gDist sh E) (I : gM) (J : gN) (a0 : Int32) (a1 : Int32) (a2 : Int32) (a3 : Int32) (a4 : Int32) : Ct l sh E yX9_byteOf cX9_byteOf 7 (some .int) (gR 0) [.int a0, .int a1, .int a2, .int a3, .int a4, .int 17] I J (fun r I1 J1 => r = some (.int ((a4 >>> 16) &&& 255)) ∧ I1 = I ∧ J1 = J) := by
  refine Ct.of "LeapJoinModel" rfl hE (by decide) (Nat.le_of_ble_eq_true rfl) (fun z F e hl => ?_)
  subst hl
  refine g_iload F 5 dX9_byteOf_0 rfl ?_
  refine g_iconst (v := 4) F dX9_byteOf_2 (by decide) ?_
  refine g_icmp_ge (tgt := 10) F dX9_byteOf_3 (by decide) (fun _ => ?_) (fun h => absurd (by decide) h)
  refine g_iload F 5 dX9_byteOf_10 rfl ?_
  refine g_bipush (v := 8) F dX9_byteOf_12 (by decide) ?_
  refine g_icmp_ge (tgt := 21) F dX9_byteOf_14 (by decide) (fun _ => ?_) (fun h => absurd (by decide) h)
  refine g_iload F 5 dX9_byteOf_21 rfl ?_
  refine g_bipush (v := 12) F dX9_byteOf_23 (by decide) ?_
  refine g_icmp_ge (tgt := 32) F dX9_byteOf_25 (by decide) (fun _ => ?_) (fun h => absurd (by decide) h)
  refine g_iload F 5 dX9_byteOf_32 rfl ?_
  refine g_bipush (v := 16) F dX9_byteOf_34 (by decide) ?_
  refine g_icmp_ge (tgt := 43) F dX9_byteOf_36 (by decide) (fun _ => ?_) (fun h => absurd (by decide) h)
  refine g_iload F 4 dX9_byteOf_43 rfl ?_
  refine g_istore (Ln := [(6, .int a4), (0, .int a0), (1, .int a1), (2, .int a2), (3, .int a3), (4, .int a4), (5, .int 17)]) F dX9_byteOf_45 (by decide) rfl ?_
  refine g_iload F 0 dX9_byteOf_47 rfl ?_
  refine g_bipush (v := 24) F dX9_byteOf_49 (by decide) ?_
  refine g_bipush (v := 8) F dX9_byteOf_51 (by decide) ?_
  refine g_iload F 6 dX9_byteOf_53 rfl ?_
  refine g_iconst (v := 4) F dX9_byteOf_55 (by decide) ?_
  refine g_irem (v := 1) F dX9_byteOf_56 (by decide) (by decide) ?_
  refine g_imul (v := 8) F dX9_byteOf_57 (by decide) ?_
  refine g_isub (v := 16) F dX9_byteOf_58 (by decide) ?_
  refine g_ishr (v := a4 >>> 16) F dX9_byteOf_59 rfl ?_
  refine g_sipush (v := 255) F dX9_byteOf_60 (by decide) ?_
  refine g_iand (v := (a4 >>> 16) &&& 255) F dX9_byteOf_63 rfl ?_
  exact g_iret F e dX9_byteOf_64 ⟨rfl, rfl, rfl⟩
set_option maxRecDepth 100000 in
set_option maxHeartbeats 4000000 in
theorem kX9_byteOf_4 (l : Launch) (E : gE) (hE : gDist sh E) (I : gM) (J : gN) (a0 : Int32) (a1 : Int32) (a2 : Int32) (a3 : Int32) (a4 : Int32) : Ct l sh E yX9_byteOf cX9_byteOf 7 (some .int) (gR 0) [.int a0, .int a1, .int a2, .int a3, .int a4, .int 16] I J (fun r I1 J1 => r = some (.int ((a4 >>> 24) &&& 255)) ∧ I1 = I ∧ J1 = J) := by
  refine Ct.of "LeapJoinModel" rfl hE (by decide) (Nat.le_of_ble_eq_true rfl) (fun z F e hl => ?_)
  subst hl
  refine g_iload F 5 dX9_byteOf_0 rfl ?_
  refine g_iconst (v := 4) F dX9_byteOf_2 (by decide) ?_
  refine g_icmp_ge (tgt := 10) F dX9_byteOf_3 (by decide) (fun _ => ?_) (fun h => absurd (by decide) h)
  refine g_iload F 5 dX9_byteOf_10 rfl ?_
  refine g_bipush (v := 8) F dX9_byteOf_12 (by decide) ?_
  refine g_icmp_ge (tgt := 21) F dX9_byteOf_14 (by decide) (fun _ => ?_) (fun h => absurd (by decide) h)
  refine g_iload F 5 dX9_byteOf_21 rfl ?_
  refine g_bipush (v := 12) F dX9_byteOf_23 (by decide) ?_
  refine g_icmp_ge (tgt := 32) F dX9_byteOf_25 (by decide) (fun _ => ?_) (fun h => absurd (by decide) h)
  refine g_iload F 5 dX9_byteOf_32 rfl ?_
  refine g_bipush (v := 16) F dX9_byteOf_34 (by decide) ?_
  refine g_icmp_ge (tgt := 43) F dX9_byteOf_36 (by decide) (fun _ => ?_) (fun h => absurd (by decide) h)
  refine g_iload F 4 dX9_byteOf_43 rfl ?_
  refine g_istore (Ln := [(6, .int a4), (0, .int a0), (1, .int a1), (2, .int a2), (3, .int a3), (4, .int a4), (5, .int 16)]) F dX9_byteOf_45 (by decide) rfl ?_
  refine g_iload F 0 dX9_byteOf_47 rfl ?_
  refine g_bipush (v := 24) F dX9_byteOf_49 (by decide) ?_
  refine g_bipush (v := 8) F dX9_byteOf_51 (by decide) ?_
  refine g_iload F 6 dX9_byteOf_53 rfl ?_
  refine g_iconst (v := 4) F dX9_byteOf_55 (by decide) ?_
  refine g_irem (v := 0) F dX9_byteOf_56 (by decide) (by decide) ?_
  refine g_imul (v := 0) F dX9_byteOf_57 (by decide) ?_
  refine g_isub (v := 24) F dX9_byteOf_58 (by decide) ?_
  refine g_ishr (v := a4 >>> 24) F dX9_byteOf_59 rfl ?_
  refine g_sipush (v := 255) F dX9_byteOf_60 (by decide) ?_
  refine g_iand (v := (a4 >>> 24) &&& 255) F dX9_byteOf_63 rfl ?_
  exact g_iret F e dX9_byteOf_64 ⟨rfl, rfl, rfl⟩
set_option maxRecDepth 100000 in
set_option maxHeartbeats 4000000 in
theorem kX9_byteOf_5 (l : Launch) (E : gE) (hE : gDist sh E) (I : gM) (J : gN) (a0 : Int32) (a1 : Int32) (a2 : Int32) (a3 : Int32) (a4 : Int32) : Ct l sh E yX9_byteOf cX9_byteOf 7 (some .int) (gR 0) [.int a0, .int a1, .int a2, .int a3, .int a4, .int 15] I J (fun r I1 J1 => r = some (.int ((a3 >>> 0) &&& 255)) ∧ I1 = I ∧ J1 = J) := by
  refine Ct.of "LeapJoinModel" rfl hE (by decide) (Nat.le_of_ble_eq_true rfl) (fun z F e hl => ?_)
  subst hl
  refine g_iload F 5 dX9_byteOf_0 rfl ?_
  refine g_iconst (v := 4) F dX9_byteOf_2 (by decide) ?_
  refine g_icmp_ge (tgt := 10) F dX9_byteOf_3 (by decide) (fun _ => ?_) (fun h => absurd (by decide) h)
  refine g_iload F 5 dX9_byteOf_10 rfl ?_
  refine g_bipush (v := 8) F dX9_byteOf_12 (by decide) ?_
  refine g_icmp_ge (tgt := 21) F dX9_byteOf_14 (by decide) (fun _ => ?_) (fun h => absurd (by decide) h)
  refine g_iload F 5 dX9_byteOf_21 rfl ?_
  refine g_bipush (v := 12) F dX9_byteOf_23 (by decide) ?_
  refine g_icmp_ge (tgt := 32) F dX9_byteOf_25 (by decide) (fun _ => ?_) (fun h => absurd (by decide) h)
  refine g_iload F 5 dX9_byteOf_32 rfl ?_
  refine g_bipush (v := 16) F dX9_byteOf_34 (by decide) ?_
  refine g_icmp_ge (tgt := 43) F dX9_byteOf_36 (by decide) (fun h => absurd h (by decide)) (fun _ => ?_)
  refine g_iload_n F 3 dX9_byteOf_39 rfl rfl ?_
  refine g_goto (tgt := 45) F dX9_byteOf_40 (by decide) ?_
  refine g_istore (Ln := [(6, .int a3), (0, .int a0), (1, .int a1), (2, .int a2), (3, .int a3), (4, .int a4), (5, .int 15)]) F dX9_byteOf_45 (by decide) rfl ?_
  refine g_iload F 0 dX9_byteOf_47 rfl ?_
  refine g_bipush (v := 24) F dX9_byteOf_49 (by decide) ?_
  refine g_bipush (v := 8) F dX9_byteOf_51 (by decide) ?_
  refine g_iload F 6 dX9_byteOf_53 rfl ?_
  refine g_iconst (v := 4) F dX9_byteOf_55 (by decide) ?_
  refine g_irem (v := 3) F dX9_byteOf_56 (by decide) (by decide) ?_
  refine g_imul (v := 24) F dX9_byteOf_57 (by decide) ?_
  refine g_isub (v := 0) F dX9_byteOf_58 (by decide) ?_
  refine g_ishr (v := a3 >>> 0) F dX9_byteOf_59 rfl ?_
  refine g_sipush (v := 255) F dX9_byteOf_60 (by decide) ?_
  refine g_iand (v := (a3 >>> 0) &&& 255) F dX9_byteOf_63 rfl ?_
  exact g_iret F e dX9_byteOf_64 ⟨rfl, rfl, rfl⟩
set_option maxRecDepth 100000 in
set_option maxHeartbeats 4000000 in
theorem kX9_byteOf_6 (l : Launch) (E : gE) (hE : gDist sh E) (I : gM) (J : gN) (a0 : Int32) (a1 : Int32) (a2 : Int32) (a3 : Int32) (a4 : Int32) : Ct l sh E yX9_byteOf cX9_byteOf 7 (some .int) (gR 0) [.int a0, .int a1, .int a2, .int a3, .int a4, .int 14] I J (fun r I1 J1 => r = some (.int ((a3 >>> 8) &&& 255)) ∧ I1 = I ∧ J1 = J) := by
  refine Ct.of "LeapJoinModel" rfl hE (by decide) (Nat.le_of_ble_eq_true rfl) (fun z F e hl => ?_)
  subst hl
  refine g_iload F 5 dX9_byteOf_0 rfl ?_
  refine g_iconst (v := 4) F dX9_byteOf_2 (by decide) ?_
  refine g_icmp_ge (tgt := 10) F dX9_byteOf_3 (by decide) (fun _ => ?_) (fun h => absurd (by decide) h)
  refine g_iload F 5 dX9_byteOf_10 rfl ?_
  refine g_bipush (v := 8) F dX9_byteOf_12 (by decide) ?_
  refine g_icmp_ge (tgt := 21) F dX9_byteOf_14 (by decide) (fun _ => ?_) (fun h => absurd (by decide) h)
  refine g_iload F 5 dX9_byteOf_21 rfl ?_
  refine g_bipush (v := 12) F dX9_byteOf_23 (by decide) ?_
  refine g_icmp_ge (tgt := 32) F dX9_byteOf_25 (by decide) (fun _ => ?_) (fun h => absurd (by decide) h)
  refine g_iload F 5 dX9_byteOf_32 rfl ?_
  refine g_bipush (v := 16) F dX9_byteOf_34 (by decide) ?_
  refine g_icmp_ge (tgt := 43) F dX9_byteOf_36 (by decide) (fun h => absurd h (by decide)) (fun _ => ?_)
  refine g_iload_n F 3 dX9_byteOf_39 rfl rfl ?_
  refine g_goto (tgt := 45) F dX9_byteOf_40 (by decide) ?_
  refine g_istore (Ln := [(6, .int a3), (0, .int a0), (1, .int a1), (2, .int a2), (3, .int a3), (4, .int a4), (5, .int 14)]) F dX9_byteOf_45 (by decide) rfl ?_
  refine g_iload F 0 dX9_byteOf_47 rfl ?_
  refine g_bipush (v := 24) F dX9_byteOf_49 (by decide) ?_
  refine g_bipush (v := 8) F dX9_byteOf_51 (by decide) ?_
  refine g_iload F 6 dX9_byteOf_53 rfl ?_
  refine g_iconst (v := 4) F dX9_byteOf_55 (by decide) ?_
  refine g_irem (v := 2) F dX9_byteOf_56 (by decide) (by decide) ?_
  refine g_imul (v := 16) F dX9_byteOf_57 (by decide) ?_
  refine g_isub (v := 8) F dX9_byteOf_58 (by decide) ?_
  refine g_ishr (v := a3 >>> 8) F dX9_byteOf_59 rfl ?_
  refine g_sipush (v := 255) F dX9_byteOf_60 (by decide) ?_
  refine g_iand (v := (a3 >>> 8) &&& 255) F dX9_byteOf_63 rfl ?_
  exact g_iret F e dX9_byteOf_64 ⟨rfl, rfl, rfl⟩
set_option maxRecDepth 100000 in
set_option maxHeartbeats 4000000 in
theorem kX9_byteOf_7 (l : Launch) (E : gE) (hE : gDist sh E) (I : gM) (J : gN) (a0 : Int32) (a1 : Int32) (a2 : Int32) (a3 : Int32) (a4 : Int32) : Ct l sh E yX9_byteOf cX9_byteOf 7 (some .int) (gR 0) [.int a0, .int a1, .int a2, .int a3, .int a4, .int 13] I J (fun r I1 J1 => r = some (.int ((a3 >>> 16) &&& 255)) ∧ I1 = I ∧ J1 = J) := by
  refine Ct.of "LeapJoinModel" rfl hE (by decide) (Nat.le_of_ble_eq_true rfl) (fun z F e hl => ?_)
  subst hl
  refine g_iload F 5 dX9_byteOf_0 rfl ?_
  refine g_iconst (v := 4) F dX9_byteOf_2 (by decide) ?_
  refine g_icmp_ge (tgt := 10) F dX9_byteOf_3 (by decide) (fun _ => ?_) (fun h => absurd (by decide) h)
  refine g_iload F 5 dX9_byteOf_10 rfl ?_
  refine g_bipush (v := 8) F dX9_byteOf_12 (by decide) ?_
  refine g_icmp_ge (tgt := 21) F dX9_byteOf_14 (by decide) (fun _ => ?_) (fun h => absurd (by decide) h)
  refine g_iload F 5 dX9_byteOf_21 rfl ?_
  refine g_bipush (v := 12) F dX9_byteOf_23 (by decide) ?_
  refine g_icmp_ge (tgt := 32) F dX9_byteOf_25 (by decide) (fun _ => ?_) (fun h => absurd (by decide) h)
  refine g_iload F 5 dX9_byteOf_32 rfl ?_
  refine g_bipush (v := 16) F dX9_byteOf_34 (by decide) ?_
  refine g_icmp_ge (tgt := 43) F dX9_byteOf_36 (by decide) (fun h => absurd h (by decide)) (fun _ => ?_)
  refine g_iload_n F 3 dX9_byteOf_39 rfl rfl ?_
  refine g_goto (tgt := 45) F dX9_byteOf_40 (by decide) ?_
  refine g_istore (Ln := [(6, .int a3), (0, .int a0), (1, .int a1), (2, .int a2), (3, .int a3), (4, .int a4), (5, .int 13)]) F dX9_byteOf_45 (by decide) rfl ?_
  refine g_iload F 0 dX9_byteOf_47 rfl ?_
  refine g_bipush (v := 24) F dX9_byteOf_49 (by decide) ?_
  refine g_bipush (v := 8) F dX9_byteOf_51 (by decide) ?_
  refine g_iload F 6 dX9_byteOf_53 rfl ?_
  refine g_iconst (v := 4) F dX9_byteOf_55 (by decide) ?_
  refine g_irem (v := 1) F dX9_byteOf_56 (by decide) (by decide) ?_
  refine g_imul (v := 8) F dX9_byteOf_57 (by decide) ?_
  refine g_isub (v := 16) F dX9_byteOf_58 (by decide) ?_
  refine g_ishr (v := a3 >>> 16) F dX9_byteOf_59 rfl ?_
  refine g_sipush (v := 255) F dX9_byteOf_60 (by decide) ?_
  refine g_iand (v := (a3 >>> 16) &&& 255) F dX9_byteOf_63 rfl ?_
  exact g_iret F e dX9_byteOf_64 ⟨rfl, rfl, rfl⟩
set_option maxRecDepth 100000 in
set_option maxHeartbeats 4000000 in
theorem kX9_byteOf_8 (l : Launch) (E : gE) (hE : gDist sh E) (I : gM) (J : gN) (a0 : Int32) (a1 : Int32) (a2 : Int32) (a3 : Int32) (a4 : Int32) : Ct l sh E yX9_byteOf cX9_byteOf 7 (some .int) (gR 0) [.int a0, .int a1, .int a2, .int a3, .int a4, .int 12] I J (fun r I1 J1 => r = some (.int ((a3 >>> 24) &&& 255)) ∧ I1 = I ∧ J1 = J) := by
  refine Ct.of "LeapJoinModel" rfl hE (by decide) (Nat.le_of_ble_eq_true rfl) (fun z F e hl => ?_)
  subst hl
  refine g_iload F 5 dX9_byteOf_0 rfl ?_
  refine g_iconst (v := 4) F dX9_byteOf_2 (by decide) ?_
  refine g_icmp_ge (tgt := 10) F dX9_byteOf_3 (by decide) (fun _ => ?_) (fun h => absurd (by decide) h)
  refine g_iload F 5 dX9_byteOf_10 rfl ?_
  refine g_bipush (v := 8) F dX9_byteOf_12 (by decide) ?_
  refine g_icmp_ge (tgt := 21) F dX9_byteOf_14 (by decide) (fun _ => ?_) (fun h => absurd (by decide) h)
  refine g_iload F 5 dX9_byteOf_21 rfl ?_
  refine g_bipush (v := 12) F dX9_byteOf_23 (by decide) ?_
  refine g_icmp_ge (tgt := 32) F dX9_byteOf_25 (by decide) (fun _ => ?_) (fun h => absurd (by decide) h)
  refine g_iload F 5 dX9_byteOf_32 rfl ?_
  refine g_bipush (v := 16) F dX9_byteOf_34 (by decide) ?_
  refine g_icmp_ge (tgt := 43) F dX9_byteOf_36 (by decide) (fun h => absurd h (by decide)) (fun _ => ?_)
  refine g_iload_n F 3 dX9_byteOf_39 rfl rfl ?_
  refine g_goto (tgt := 45) F dX9_byteOf_40 (by decide) ?_
  refine g_istore (Ln := [(6, .int a3), (0, .int a0), (1, .int a1), (2, .int a2), (3, .int a3), (4, .int a4), (5, .int 12)]) F dX9_byteOf_45 (by decide) rfl ?_
  refine g_iload F 0 dX9_byteOf_47 rfl ?_
  refine g_bipush (v := 24) F dX9_byteOf_49 (by decide) ?_
  refine g_bipush (v := 8) F dX9_byteOf_51 (by decide) ?_
  refine g_iload F 6 dX9_byteOf_53 rfl ?_
  refine g_iconst (v := 4) F dX9_byteOf_55 (by decide) ?_
  refine g_irem (v := 0) F dX9_byteOf_56 (by decide) (by decide) ?_
  refine g_imul (v := 0) F dX9_byteOf_57 (by decide) ?_
  refine g_isub (v := 24) F dX9_byteOf_58 (by decide) ?_
  refine g_ishr (v := a3 >>> 24) F dX9_byteOf_59 rfl ?_
  refine g_sipush (v := 255) F dX9_byteOf_60 (by decide) ?_
  refine g_iand (v := (a3 >>> 24) &&& 255) F dX9_byteOf_63 rfl ?_
  exact g_iret F e dX9_byteOf_64 ⟨rfl, rfl, rfl⟩
set_option maxRecDepth 100000 in
set_option maxHeartbeats 4000000 in
theorem kX9_byteOf_9 (l : Launch) (E : gE) (hE : gDist sh E) (I : gM) (J : gN) (a0 : Int32) (a1 : Int32) (a2 : Int32) (a3 : Int32) (a4 : Int32) : Ct l sh E yX9_byteOf cX9_byteOf 7 (some .int) (gR 0) [.int a0, .int a1, .int a2, .int a3, .int a4, .int 11] I J (fun r I1 J1 => r = some (.int ((a2 >>> 0) &&& 255)) ∧ I1 = I ∧ J1 = J) := by
  refine Ct.of "LeapJoinModel" rfl hE (by decide) (Nat.le_of_ble_eq_true rfl) (fun z F e hl => ?_)
  subst hl
  refine g_iload F 5 dX9_byteOf_0 rfl ?_
  refine g_iconst (v := 4) F dX9_byteOf_2 (by decide) ?_
  refine g_icmp_ge (tgt := 10) F dX9_byteOf_3 (by decide) (fun _ => ?_) (fun h => absurd (by decide) h)
  refine g_iload F 5 dX9_byteOf_10 rfl ?_
  refine g_bipush (v := 8) F dX9_byteOf_12 (by decide) ?_
  refine g_icmp_ge (tgt := 21) F dX9_byteOf_14 (by decide) (fun _ => ?_) (fun h => absurd (by decide) h)
  refine g_iload F 5 dX9_byteOf_21 rfl ?_
  refine g_bipush (v := 12) F dX9_byteOf_23 (by decide) ?_
  refine g_icmp_ge (tgt := 32) F dX9_byteOf_25 (by decide) (fun h => absurd h (by decide)) (fun _ => ?_)
  refine g_iload_n F 2 dX9_byteOf_28 rfl rfl ?_
  refine g_goto (tgt := 45) F dX9_byteOf_29 (by decide) ?_
  refine g_istore (Ln := [(6, .int a2), (0, .int a0), (1, .int a1), (2, .int a2), (3, .int a3), (4, .int a4), (5, .int 11)]) F dX9_byteOf_45 (by decide) rfl ?_
  refine g_iload F 0 dX9_byteOf_47 rfl ?_
  refine g_bipush (v := 24) F dX9_byteOf_49 (by decide) ?_
  refine g_bipush (v := 8) F dX9_byteOf_51 (by decide) ?_
  refine g_iload F 6 dX9_byteOf_53 rfl ?_
  refine g_iconst (v := 4) F dX9_byteOf_55 (by decide) ?_
  refine g_irem (v := 3) F dX9_byteOf_56 (by decide) (by decide) ?_
  refine g_imul (v := 24) F dX9_byteOf_57 (by decide) ?_
  refine g_isub (v := 0) F dX9_byteOf_58 (by decide) ?_
  refine g_ishr (v := a2 >>> 0) F dX9_byteOf_59 rfl ?_
  refine g_sipush (v := 255) F dX9_byteOf_60 (by decide) ?_
  refine g_iand (v := (a2 >>> 0) &&& 255) F dX9_byteOf_63 rfl ?_
  exact g_iret F e dX9_byteOf_64 ⟨rfl, rfl, rfl⟩
set_option maxRecDepth 100000 in
set_option maxHeartbeats 4000000 in
theorem kX9_byteOf_10 (l : Launch) (E : gE) (hE : gDist sh E) (I : gM) (J : gN) (a0 : Int32) (a1 : Int32) (a2 : Int32) (a3 : Int32) (a4 : Int32) : Ct l sh E yX9_byteOf cX9_byteOf 7 (some .int) (gR 0) [.int a0, .int a1, .int a2, .int a3, .int a4, .int 10] I J (fun r I1 J1 => r = some (.int ((a2 >>> 8) &&& 255)) ∧ I1 = I ∧ J1 = J) := by
  refine Ct.of "LeapJoinModel" rfl hE (by decide) (Nat.le_of_ble_eq_true rfl) (fun z F e hl => ?_)
  subst hl
  refine g_iload F 5 dX9_byteOf_0 rfl ?_
  refine g_iconst (v := 4) F dX9_byteOf_2 (by decide) ?_
  refine g_icmp_ge (tgt := 10) F dX9_byteOf_3 (by decide) (fun _ => ?_) (fun h => absurd (by decide) h)
  refine g_iload F 5 dX9_byteOf_10 rfl ?_
  refine g_bipush (v := 8) F dX9_byteOf_12 (by decide) ?_
  refine g_icmp_ge (tgt := 21) F dX9_byteOf_14 (by decide) (fun _ => ?_) (fun h => absurd (by decide) h)
  refine g_iload F 5 dX9_byteOf_21 rfl ?_
  refine g_bipush (v := 12) F dX9_byteOf_23 (by decide) ?_
  refine g_icmp_ge (tgt := 32) F dX9_byteOf_25 (by decide) (fun h => absurd h (by decide)) (fun _ => ?_)
  refine g_iload_n F 2 dX9_byteOf_28 rfl rfl ?_
  refine g_goto (tgt := 45) F dX9_byteOf_29 (by decide) ?_
  refine g_istore (Ln := [(6, .int a2), (0, .int a0), (1, .int a1), (2, .int a2), (3, .int a3), (4, .int a4), (5, .int 10)]) F dX9_byteOf_45 (by decide) rfl ?_
  refine g_iload F 0 dX9_byteOf_47 rfl ?_
  refine g_bipush (v := 24) F dX9_byteOf_49 (by decide) ?_
  refine g_bipush (v := 8) F dX9_byteOf_51 (by decide) ?_
  refine g_iload F 6 dX9_byteOf_53 rfl ?_
  refine g_iconst (v := 4) F dX9_byteOf_55 (by decide) ?_
  refine g_irem (v := 2) F dX9_byteOf_56 (by decide) (by decide) ?_
  refine g_imul (v := 16) F dX9_byteOf_57 (by decide) ?_
  refine g_isub (v := 8) F dX9_byteOf_58 (by decide) ?_
  refine g_ishr (v := a2 >>> 8) F dX9_byteOf_59 rfl ?_
  refine g_sipush (v := 255) F dX9_byteOf_60 (by decide) ?_
  refine g_iand (v := (a2 >>> 8) &&& 255) F dX9_byteOf_63 rfl ?_
  exact g_iret F e dX9_byteOf_64 ⟨rfl, rfl, rfl⟩
set_option maxRecDepth 100000 in
set_option maxHeartbeats 4000000 in
theorem kX9_byteOf_11 (l : Launch) (E : gE) (hE : gDist sh E) (I : gM) (J : gN) (a0 : Int32) (a1 : Int32) (a2 : Int32) (a3 : Int32) (a4 : Int32) : Ct l sh E yX9_byteOf cX9_byteOf 7 (some .int) (gR 0) [.int a0, .int a1, .int a2, .int a3, .int a4, .int 9] I J (fun r I1 J1 => r = some (.int ((a2 >>> 16) &&& 255)) ∧ I1 = I ∧ J1 = J) := by
  refine Ct.of "LeapJoinModel" rfl hE (by decide) (Nat.le_of_ble_eq_true rfl) (fun z F e hl => ?_)
  subst hl
  refine g_iload F 5 dX9_byteOf_0 rfl ?_
  refine g_iconst (v := 4) F dX9_byteOf_2 (by decide) ?_
  refine g_icmp_ge (tgt := 10) F dX9_byteOf_3 (by decide) (fun _ => ?_) (fun h => absurd (by decide) h)
  refine g_iload F 5 dX9_byteOf_10 rfl ?_
  refine g_bipush (v := 8) F dX9_byteOf_12 (by decide) ?_
  refine g_icmp_ge (tgt := 21) F dX9_byteOf_14 (by decide) (fun _ => ?_) (fun h => absurd (by decide) h)
  refine g_iload F 5 dX9_byteOf_21 rfl ?_
  refine g_bipush (v := 12) F dX9_byteOf_23 (by decide) ?_
  refine g_icmp_ge (tgt := 32) F dX9_byteOf_25 (by decide) (fun h => absurd h (by decide)) (fun _ => ?_)
  refine g_iload_n F 2 dX9_byteOf_28 rfl rfl ?_
  refine g_goto (tgt := 45) F dX9_byteOf_29 (by decide) ?_
  refine g_istore (Ln := [(6, .int a2), (0, .int a0), (1, .int a1), (2, .int a2), (3, .int a3), (4, .int a4), (5, .int 9)]) F dX9_byteOf_45 (by decide) rfl ?_
  refine g_iload F 0 dX9_byteOf_47 rfl ?_
  refine g_bipush (v := 24) F dX9_byteOf_49 (by decide) ?_
  refine g_bipush (v := 8) F dX9_byteOf_51 (by decide) ?_
  refine g_iload F 6 dX9_byteOf_53 rfl ?_
  refine g_iconst (v := 4) F dX9_byteOf_55 (by decide) ?_
  refine g_irem (v := 1) F dX9_byteOf_56 (by decide) (by decide) ?_
  refine g_imul (v := 8) F dX9_byteOf_57 (by decide) ?_
  refine g_isub (v := 16) F dX9_byteOf_58 (by decide) ?_
  refine g_ishr (v := a2 >>> 16) F dX9_byteOf_59 rfl ?_
  refine g_sipush (v := 255) F dX9_byteOf_60 (by decide) ?_
  refine g_iand (v := (a2 >>> 16) &&& 255) F dX9_byteOf_63 rfl ?_
  exact g_iret F e dX9_byteOf_64 ⟨rfl, rfl, rfl⟩
set_option maxRecDepth 100000 in
set_option maxHeartbeats 4000000 in
theorem kX9_byteOf_12 (l : Launch) (E : gE) (hE : gDist sh E) (I : gM) (J : gN) (a0 : Int32) (a1 : Int32) (a2 : Int32) (a3 : Int32) (a4 : Int32) : Ct l sh E yX9_byteOf cX9_byteOf 7 (some .int) (gR 0) [.int a0, .int a1, .int a2, .int a3, .int a4, .int 8] I J (fun r I1 J1 => r = some (.int ((a2 >>> 24) &&& 255)) ∧ I1 = I ∧ J1 = J) := by
  refine Ct.of "LeapJoinModel" rfl hE (by decide) (Nat.le_of_ble_eq_true rfl) (fun z F e hl => ?_)
  subst hl
  refine g_iload F 5 dX9_byteOf_0 rfl ?_
  refine g_iconst (v := 4) F dX9_byteOf_2 (by decide) ?_
  refine g_icmp_ge (tgt := 10) F dX9_byteOf_3 (by decide) (fun _ => ?_) (fun h => absurd (by decide) h)
  refine g_iload F 5 dX9_byteOf_10 rfl ?_
  refine g_bipush (v := 8) F dX9_byteOf_12 (by decide) ?_
  refine g_icmp_ge (tgt := 21) F dX9_byteOf_14 (by decide) (fun _ => ?_) (fun h => absurd (by decide) h)
  refine g_iload F 5 dX9_byteOf_21 rfl ?_
  refine g_bipush (v := 12) F dX9_byteOf_23 (by decide) ?_
  refine g_icmp_ge (tgt := 32) F dX9_byteOf_25 (by decide) (fun h => absurd h (by decide)) (fun _ => ?_)
  refine g_iload_n F 2 dX9_byteOf_28 rfl rfl ?_
  refine g_goto (tgt := 45) F dX9_byteOf_29 (by decide) ?_
  refine g_istore (Ln := [(6, .int a2), (0, .int a0), (1, .int a1), (2, .int a2), (3, .int a3), (4, .int a4), (5, .int 8)]) F dX9_byteOf_45 (by decide) rfl ?_
  refine g_iload F 0 dX9_byteOf_47 rfl ?_
  refine g_bipush (v := 24) F dX9_byteOf_49 (by decide) ?_
  refine g_bipush (v := 8) F dX9_byteOf_51 (by decide) ?_
  refine g_iload F 6 dX9_byteOf_53 rfl ?_
  refine g_iconst (v := 4) F dX9_byteOf_55 (by decide) ?_
  refine g_irem (v := 0) F dX9_byteOf_56 (by decide) (by decide) ?_
  refine g_imul (v := 0) F dX9_byteOf_57 (by decide) ?_
  refine g_isub (v := 24) F dX9_byteOf_58 (by decide) ?_
  refine g_ishr (v := a2 >>> 24) F dX9_byteOf_59 rfl ?_
  refine g_sipush (v := 255) F dX9_byteOf_60 (by decide) ?_
  refine g_iand (v := (a2 >>> 24) &&& 255) F dX9_byteOf_63 rfl ?_
  exact g_iret F e dX9_byteOf_64 ⟨rfl, rfl, rfl⟩
set_option maxRecDepth 100000 in
set_option maxHeartbeats 4000000 in
theorem kX9_byteOf_13 (l : Launch) (E : gE) (hE : gDist sh E) (I : gM) (J : gN) (a0 : Int32) (a1 : Int32) (a2 : Int32) (a3 : Int32) (a4 : Int32) : Ct l sh E yX9_byteOf cX9_byteOf 7 (some .int) (gR 0) [.int a0, .int a1, .int a2, .int a3, .int a4, .int 7] I J (fun r I1 J1 => r = some (.int ((a1 >>> 0) &&& 255)) ∧ I1 = I ∧ J1 = J) := by
  refine Ct.of "LeapJoinModel" rfl hE (by decide) (Nat.le_of_ble_eq_true rfl) (fun z F e hl => ?_)
  subst hl
  refine g_iload F 5 dX9_byteOf_0 rfl ?_
  refine g_iconst (v := 4) F dX9_byteOf_2 (by decide) ?_
  refine g_icmp_ge (tgt := 10) F dX9_byteOf_3 (by decide) (fun _ => ?_) (fun h => absurd (by decide) h)
  refine g_iload F 5 dX9_byteOf_10 rfl ?_
  refine g_bipush (v := 8) F dX9_byteOf_12 (by decide) ?_
  refine g_icmp_ge (tgt := 21) F dX9_byteOf_14 (by decide) (fun h => absurd h (by decide)) (fun _ => ?_)
  refine g_iload_n F 1 dX9_byteOf_17 rfl rfl ?_
  refine g_goto (tgt := 45) F dX9_byteOf_18 (by decide) ?_
  refine g_istore (Ln := [(6, .int a1), (0, .int a0), (1, .int a1), (2, .int a2), (3, .int a3), (4, .int a4), (5, .int 7)]) F dX9_byteOf_45 (by decide) rfl ?_
  refine g_iload F 0 dX9_byteOf_47 rfl ?_
  refine g_bipush (v := 24) F dX9_byteOf_49 (by decide) ?_
  refine g_bipush (v := 8) F dX9_byteOf_51 (by decide) ?_
  refine g_iload F 6 dX9_byteOf_53 rfl ?_
  refine g_iconst (v := 4) F dX9_byteOf_55 (by decide) ?_
  refine g_irem (v := 3) F dX9_byteOf_56 (by decide) (by decide) ?_
  refine g_imul (v := 24) F dX9_byteOf_57 (by decide) ?_
  refine g_isub (v := 0) F dX9_byteOf_58 (by decide) ?_
  refine g_ishr (v := a1 >>> 0) F dX9_byteOf_59 rfl ?_
  refine g_sipush (v := 255) F dX9_byteOf_60 (by decide) ?_
  refine g_iand (v := (a1 >>> 0) &&& 255) F dX9_byteOf_63 rfl ?_
  exact g_iret F e dX9_byteOf_64 ⟨rfl, rfl, rfl⟩
set_option maxRecDepth 100000 in
set_option maxHeartbeats 4000000 in
theorem kX9_byteOf_14 (l : Launch) (E : gE) (hE : gDist sh E) (I : gM) (J : gN) (a0 : Int32) (a1 : Int32) (a2 : Int32) (a3 : Int32) (a4 : Int32) : Ct l sh E yX9_byteOf cX9_byteOf 7 (some .int) (gR 0) [.int a0, .int a1, .int a2, .int a3, .int a4, .int 6] I J (fun r I1 J1 => r = some (.int ((a1 >>> 8) &&& 255)) ∧ I1 = I ∧ J1 = J) := by
  refine Ct.of "LeapJoinModel" rfl hE (by decide) (Nat.le_of_ble_eq_true rfl) (fun z F e hl => ?_)
  subst hl
  refine g_iload F 5 dX9_byteOf_0 rfl ?_
  refine g_iconst (v := 4) F dX9_byteOf_2 (by decide) ?_
  refine g_icmp_ge (tgt := 10) F dX9_byteOf_3 (by decide) (fun _ => ?_) (fun h => absurd (by decide) h)
  refine g_iload F 5 dX9_byteOf_10 rfl ?_
  refine g_bipush (v := 8) F dX9_byteOf_12 (by decide) ?_
  refine g_icmp_ge (tgt := 21) F dX9_byteOf_14 (by decide) (fun h => absurd h (by decide)) (fun _ => ?_)
  refine g_iload_n F 1 dX9_byteOf_17 rfl rfl ?_
  refine g_goto (tgt := 45) F dX9_byteOf_18 (by decide) ?_
  refine g_istore (Ln := [(6, .int a1), (0, .int a0), (1, .int a1), (2, .int a2), (3, .int a3), (4, .int a4), (5, .int 6)]) F dX9_byteOf_45 (by decide) rfl ?_
  refine g_iload F 0 dX9_byteOf_47 rfl ?_
  refine g_bipush (v := 24) F dX9_byteOf_49 (by decide) ?_
  refine g_bipush (v := 8) F dX9_byteOf_51 (by decide) ?_
  refine g_iload F 6 dX9_byteOf_53 rfl ?_
  refine g_iconst (v := 4) F dX9_byteOf_55 (by decide) ?_
  refine g_irem (v := 2) F dX9_byteOf_56 (by decide) (by decide) ?_
  refine g_imul (v := 16) F dX9_byteOf_57 (by decide) ?_
  refine g_isub (v := 8) F dX9_byteOf_58 (by decide) ?_
  refine g_ishr (v := a1 >>> 8) F dX9_byteOf_59 rfl ?_
  refine g_sipush (v := 255) F dX9_byteOf_60 (by decide) ?_
  refine g_iand (v := (a1 >>> 8) &&& 255) F dX9_byteOf_63 rfl ?_
  exact g_iret F e dX9_byteOf_64 ⟨rfl, rfl, rfl⟩
set_option maxRecDepth 100000 in
set_option maxHeartbeats 4000000 in
theorem kX9_byteOf_15 (l : Launch) (E : gE) (hE : gDist sh E) (I : gM) (J : gN) (a0 : Int32) (a1 : Int32) (a2 : Int32) (a3 : Int32) (a4 : Int32) : Ct l sh E yX9_byteOf cX9_byteOf 7 (some .int) (gR 0) [.int a0, .int a1, .int a2, .int a3, .int a4, .int 5] I J (fun r I1 J1 => r = some (.int ((a1 >>> 16) &&& 255)) ∧ I1 = I ∧ J1 = J) := by
  refine Ct.of "LeapJoinModel" rfl hE (by decide) (Nat.le_of_ble_eq_true rfl) (fun z F e hl => ?_)
  subst hl
  refine g_iload F 5 dX9_byteOf_0 rfl ?_
  refine g_iconst (v := 4) F dX9_byteOf_2 (by decide) ?_
  refine g_icmp_ge (tgt := 10) F dX9_byteOf_3 (by decide) (fun _ => ?_) (fun h => absurd (by decide) h)
  refine g_iload F 5 dX9_byteOf_10 rfl ?_
  refine g_bipush (v := 8) F dX9_byteOf_12 (by decide) ?_
  refine g_icmp_ge (tgt := 21) F dX9_byteOf_14 (by decide) (fun h => absurd h (by decide)) (fun _ => ?_)
  refine g_iload_n F 1 dX9_byteOf_17 rfl rfl ?_
  refine g_goto (tgt := 45) F dX9_byteOf_18 (by decide) ?_
  refine g_istore (Ln := [(6, .int a1), (0, .int a0), (1, .int a1), (2, .int a2), (3, .int a3), (4, .int a4), (5, .int 5)]) F dX9_byteOf_45 (by decide) rfl ?_
  refine g_iload F 0 dX9_byteOf_47 rfl ?_
  refine g_bipush (v := 24) F dX9_byteOf_49 (by decide) ?_
  refine g_bipush (v := 8) F dX9_byteOf_51 (by decide) ?_
  refine g_iload F 6 dX9_byteOf_53 rfl ?_
  refine g_iconst (v := 4) F dX9_byteOf_55 (by decide) ?_
  refine g_irem (v := 1) F dX9_byteOf_56 (by decide) (by decide) ?_
  refine g_imul (v := 8) F dX9_byteOf_57 (by decide) ?_
  refine g_isub (v := 16) F dX9_byteOf_58 (by decide) ?_
  refine g_ishr (v := a1 >>> 16) F dX9_byteOf_59 rfl ?_
  refine g_sipush (v := 255) F dX9_byteOf_60 (by decide) ?_
  refine g_iand (v := (a1 >>> 16) &&& 255) F dX9_byteOf_63 rfl ?_
  exact g_iret F e dX9_byteOf_64 ⟨rfl, rfl, rfl⟩
set_option maxRecDepth 100000 in
set_option maxHeartbeats 4000000 in
theorem kX9_byteOf_16 (l : Launch) (E : gE) (hE : gDist sh E) (I : gM) (J : gN) (a0 : Int32) (a1 : Int32) (a2 : Int32) (a3 : Int32) (a4 : Int32) : Ct l sh E yX9_byteOf cX9_byteOf 7 (some .int) (gR 0) [.int a0, .int a1, .int a2, .int a3, .int a4, .int 4] I J (fun r I1 J1 => r = some (.int ((a1 >>> 24) &&& 255)) ∧ I1 = I ∧ J1 = J) := by
  refine Ct.of "LeapJoinModel" rfl hE (by decide) (Nat.le_of_ble_eq_true rfl) (fun z F e hl => ?_)
  subst hl
  refine g_iload F 5 dX9_byteOf_0 rfl ?_
  refine g_iconst (v := 4) F dX9_byteOf_2 (by decide) ?_
  refine g_icmp_ge (tgt := 10) F dX9_byteOf_3 (by decide) (fun _ => ?_) (fun h => absurd (by decide) h)
  refine g_iload F 5 dX9_byteOf_10 rfl ?_
  refine g_bipush (v := 8) F dX9_byteOf_12 (by decide) ?_
  refine g_icmp_ge (tgt := 21) F dX9_byteOf_14 (by decide) (fun h => absurd h (by decide)) (fun _ => ?_)
  refine g_iload_n F 1 dX9_byteOf_17 rfl rfl ?_
  refine g_goto (tgt := 45) F dX9_byteOf_18 (by decide) ?_
  refine g_istore (Ln := [(6, .int a1), (0, .int a0), (1, .int a1), (2, .int a2), (3, .int a3), (4, .int a4), (5, .int 4)]) F dX9_byteOf_45 (by decide) rfl ?_
  refine g_iload F 0 dX9_byteOf_47 rfl ?_
  refine g_bipush (v := 24) F dX9_byteOf_49 (by decide) ?_
  refine g_bipush (v := 8) F dX9_byteOf_51 (by decide) ?_
  refine g_iload F 6 dX9_byteOf_53 rfl ?_
  refine g_iconst (v := 4) F dX9_byteOf_55 (by decide) ?_
  refine g_irem (v := 0) F dX9_byteOf_56 (by decide) (by decide) ?_
  refine g_imul (v := 0) F dX9_byteOf_57 (by decide) ?_
  refine g_isub (v := 24) F dX9_byteOf_58 (by decide) ?_
  refine g_ishr (v := a1 >>> 24) F dX9_byteOf_59 rfl ?_
  refine g_sipush (v := 255) F dX9_byteOf_60 (by decide) ?_
  refine g_iand (v := (a1 >>> 24) &&& 255) F dX9_byteOf_63 rfl ?_
  exact g_iret F e dX9_byteOf_64 ⟨rfl, rfl, rfl⟩
set_option maxRecDepth 100000 in
set_option maxHeartbeats 4000000 in
theorem kX9_byteOf_17 (l : Launch) (E : gE) (hE : gDist sh E) (I : gM) (J : gN) (a0 : Int32) (a1 : Int32) (a2 : Int32) (a3 : Int32) (a4 : Int32) : Ct l sh E yX9_byteOf cX9_byteOf 7 (some .int) (gR 0) [.int a0, .int a1, .int a2, .int a3, .int a4, .int 3] I J (fun r I1 J1 => r = some (.int ((a0 >>> 0) &&& 255)) ∧ I1 = I ∧ J1 = J) := by
  refine Ct.of "LeapJoinModel" rfl hE (by decide) (Nat.le_of_ble_eq_true rfl) (fun z F e hl => ?_)
  subst hl
  refine g_iload F 5 dX9_byteOf_0 rfl ?_
  refine g_iconst (v := 4) F dX9_byteOf_2 (by decide) ?_
  refine g_icmp_ge (tgt := 10) F dX9_byteOf_3 (by decide) (fun h => absurd h (by decide)) (fun _ => ?_)
  refine g_iload_n F 0 dX9_byteOf_6 rfl rfl ?_
  refine g_goto (tgt := 45) F dX9_byteOf_7 (by decide) ?_
  refine g_istore (Ln := [(6, .int a0), (0, .int a0), (1, .int a1), (2, .int a2), (3, .int a3), (4, .int a4), (5, .int 3)]) F dX9_byteOf_45 (by decide) rfl ?_
  refine g_iload F 0 dX9_byteOf_47 rfl ?_
  refine g_bipush (v := 24) F dX9_byteOf_49 (by decide) ?_
  refine g_bipush (v := 8) F dX9_byteOf_51 (by decide) ?_
  refine g_iload F 6 dX9_byteOf_53 rfl ?_
  refine g_iconst (v := 4) F dX9_byteOf_55 (by decide) ?_
  refine g_irem (v := 3) F dX9_byteOf_56 (by decide) (by decide) ?_
  refine g_imul (v := 24) F dX9_byteOf_57 (by decide) ?_
  refine g_isub (v := 0) F dX9_byteOf_58 (by decide) ?_
  refine g_ishr (v := a0 >>> 0) F dX9_byteOf_59 rfl ?_
  refine g_sipush (v := 255) F dX9_byteOf_60 (by decide) ?_
  refine g_iand (v := (a0 >>> 0) &&& 255) F dX9_byteOf_63 rfl ?_
  exact g_iret F e dX9_byteOf_64 ⟨rfl, rfl, rfl⟩
set_option maxRecDepth 100000 in
set_option maxHeartbeats 4000000 in
theorem kX9_byteOf_18 (l : Launch) (E : gE) (hE : gDist sh E) (I : gM) (J : gN) (a0 : Int32) (a1 : Int32) (a2 : Int32) (a3 : Int32) (a4 : Int32) : Ct l sh E yX9_byteOf cX9_byteOf 7 (some .int) (gR 0) [.int a0, .int a1, .int a2, .int a3, .int a4, .int 2] I J (fun r I1 J1 => r = some (.int ((a0 >>> 8) &&& 255)) ∧ I1 = I ∧ J1 = J) := by
  refine Ct.of "LeapJoinModel" rfl hE (by decide) (Nat.le_of_ble_eq_true rfl) (fun z F e hl => ?_)
  subst hl
  refine g_iload F 5 dX9_byteOf_0 rfl ?_
  refine g_iconst (v := 4) F dX9_byteOf_2 (by decide) ?_
  refine g_icmp_ge (tgt := 10) F dX9_byteOf_3 (by decide) (fun h => absurd h (by decide)) (fun _ => ?_)
  refine g_iload_n F 0 dX9_byteOf_6 rfl rfl ?_
  refine g_goto (tgt := 45) F dX9_byteOf_7 (by decide) ?_
  refine g_istore (Ln := [(6, .int a0), (0, .int a0), (1, .int a1), (2, .int a2), (3, .int a3), (4, .int a4), (5, .int 2)]) F dX9_byteOf_45 (by decide) rfl ?_
  refine g_iload F 0 dX9_byteOf_47 rfl ?_
  refine g_bipush (v := 24) F dX9_byteOf_49 (by decide) ?_
  refine g_bipush (v := 8) F dX9_byteOf_51 (by decide) ?_
  refine g_iload F 6 dX9_byteOf_53 rfl ?_
  refine g_iconst (v := 4) F dX9_byteOf_55 (by decide) ?_
  refine g_irem (v := 2) F dX9_byteOf_56 (by decide) (by decide) ?_
  refine g_imul (v := 16) F dX9_byteOf_57 (by decide) ?_
  refine g_isub (v := 8) F dX9_byteOf_58 (by decide) ?_
  refine g_ishr (v := a0 >>> 8) F dX9_byteOf_59 rfl ?_
  refine g_sipush (v := 255) F dX9_byteOf_60 (by decide) ?_
  refine g_iand (v := (a0 >>> 8) &&& 255) F dX9_byteOf_63 rfl ?_
  exact g_iret F e dX9_byteOf_64 ⟨rfl, rfl, rfl⟩
set_option maxRecDepth 100000 in
set_option maxHeartbeats 4000000 in
theorem kX9_byteOf_19 (l : Launch) (E : gE) (hE : gDist sh E) (I : gM) (J : gN) (a0 : Int32) (a1 : Int32) (a2 : Int32) (a3 : Int32) (a4 : Int32) : Ct l sh E yX9_byteOf cX9_byteOf 7 (some .int) (gR 0) [.int a0, .int a1, .int a2, .int a3, .int a4, .int 1] I J (fun r I1 J1 => r = some (.int ((a0 >>> 16) &&& 255)) ∧ I1 = I ∧ J1 = J) := by
  refine Ct.of "LeapJoinModel" rfl hE (by decide) (Nat.le_of_ble_eq_true rfl) (fun z F e hl => ?_)
  subst hl
  refine g_iload F 5 dX9_byteOf_0 rfl ?_
  refine g_iconst (v := 4) F dX9_byteOf_2 (by decide) ?_
  refine g_icmp_ge (tgt := 10) F dX9_byteOf_3 (by decide) (fun h => absurd h (by decide)) (fun _ => ?_)
  refine g_iload_n F 0 dX9_byteOf_6 rfl rfl ?_
  refine g_goto (tgt := 45) F dX9_byteOf_7 (by decide) ?_
  refine g_istore (Ln := [(6, .int a0), (0, .int a0), (1, .int a1), (2, .int a2), (3, .int a3), (4, .int a4), (5, .int 1)]) F dX9_byteOf_45 (by decide) rfl ?_
  refine g_iload F 0 dX9_byteOf_47 rfl ?_
  refine g_bipush (v := 24) F dX9_byteOf_49 (by decide) ?_
  refine g_bipush (v := 8) F dX9_byteOf_51 (by decide) ?_
  refine g_iload F 6 dX9_byteOf_53 rfl ?_
  refine g_iconst (v := 4) F dX9_byteOf_55 (by decide) ?_
  refine g_irem (v := 1) F dX9_byteOf_56 (by decide) (by decide) ?_
  refine g_imul (v := 8) F dX9_byteOf_57 (by decide) ?_
  refine g_isub (v := 16) F dX9_byteOf_58 (by decide) ?_
  refine g_ishr (v := a0 >>> 16) F dX9_byteOf_59 rfl ?_
  refine g_sipush (v := 255) F dX9_byteOf_60 (by decide) ?_
  refine g_iand (v := (a0 >>> 16) &&& 255) F dX9_byteOf_63 rfl ?_
  exact g_iret F e dX9_byteOf_64 ⟨rfl, rfl, rfl⟩
set_option maxRecDepth 100000 in
set_option maxHeartbeats 4000000 in
theorem kX9_byteOf_20 (l : Launch) (E : gE) (hE : gDist sh E) (I : gM) (J : gN) (a0 : Int32) (a1 : Int32) (a2 : Int32) (a3 : Int32) (a4 : Int32) : Ct l sh E yX9_byteOf cX9_byteOf 7 (some .int) (gR 0) [.int a0, .int a1, .int a2, .int a3, .int a4, .int 0] I J (fun r I1 J1 => r = some (.int ((a0 >>> 24) &&& 255)) ∧ I1 = I ∧ J1 = J) := by
  refine Ct.of "LeapJoinModel" rfl hE (by decide) (Nat.le_of_ble_eq_true rfl) (fun z F e hl => ?_)
  subst hl
  refine g_iload F 5 dX9_byteOf_0 rfl ?_
  refine g_iconst (v := 4) F dX9_byteOf_2 (by decide) ?_
  refine g_icmp_ge (tgt := 10) F dX9_byteOf_3 (by decide) (fun h => absurd h (by decide)) (fun _ => ?_)
  refine g_iload_n F 0 dX9_byteOf_6 rfl rfl ?_
  refine g_goto (tgt := 45) F dX9_byteOf_7 (by decide) ?_
  refine g_istore (Ln := [(6, .int a0), (0, .int a0), (1, .int a1), (2, .int a2), (3, .int a3), (4, .int a4), (5, .int 0)]) F dX9_byteOf_45 (by decide) rfl ?_
  refine g_iload F 0 dX9_byteOf_47 rfl ?_
  refine g_bipush (v := 24) F dX9_byteOf_49 (by decide) ?_
  refine g_bipush (v := 8) F dX9_byteOf_51 (by decide) ?_
  refine g_iload F 6 dX9_byteOf_53 rfl ?_
  refine g_iconst (v := 4) F dX9_byteOf_55 (by decide) ?_
  refine g_irem (v := 0) F dX9_byteOf_56 (by decide) (by decide) ?_
  refine g_imul (v := 0) F dX9_byteOf_57 (by decide) ?_
  refine g_isub (v := 24) F dX9_byteOf_58 (by decide) ?_
  refine g_ishr (v := a0 >>> 24) F dX9_byteOf_59 rfl ?_
  refine g_sipush (v := 255) F dX9_byteOf_60 (by decide) ?_
  refine g_iand (v := (a0 >>> 24) &&& 255) F dX9_byteOf_63 rfl ?_
  exact g_iret F e dX9_byteOf_64 ⟨rfl, rfl, rfl⟩
/-- the tape of LeapJoinModel holds the bytes t -/
def TM (t : List Int32) (I : gM) : Prop := t.length ≤ 400 ∧ I 62 2 = iI t.length ∧ ∀ (j : Nat) (h : j < t.length), I 63 j = t[j]
theorem TM_push {t : List Int32} {I : gM} {b : Int32} (h : TM t I) (hl : t.length < 400) : TM (t ++ [b]) (g_up (g_up I 63 ((t.length : Int)).toNat b) 62 2 (iI ((t.length : Int) + 1))) := by
  obtain ⟨h1, h2, h3⟩ := h
  refine ⟨by simp only [List.length_append, List.length_cons, List.length_nil]; omega, ?_, fun j hj => ?_⟩
  · rw [g_up_self]; simp
  · rw [g_up_ne (Or.inl (by decide))]
    by_cases e : j = t.length
    · subst e
      rw [Int.toNat_natCast, g_up_self]; simp
    · have hj2 : j < t.length := by simp only [List.length_append, List.length_cons, List.length_nil] at hj; omega
      rw [g_up_ne (Or.inr (by simpa using e)), h3 j hj2, List.getElem_append_left hj2]
def frM (k j : Nat) : Prop := (k = 62 ∧ j = 2) ∨ k = 63
set_option maxRecDepth 100000 in
set_option maxHeartbeats 4000000 in
theorem kX9_feed (l : Launch) (E : gE) (hE : gDist sh E) (I : gM) (J : gN) (a1 a2 a3 a4 a5 : Int32) (t0 : List Int32) (ht0 : TM t0 I) : Ct l sh E yX9_feed cX9_feed 9 (some .int) (gR 1) [.ref (E.2.1 62), .int a1, .int a2, .int a3, .int a4, .int a5] I J (fun r I1 J1 => ((t0 ++ bl a1 a2 a3 a4 a5).length ≤ 400 ∧ r = some (.int (iI (t0 ++ bl a1 a2 a3 a4 a5).length)) ∧ TM (t0 ++ bl a1 a2 a3 a4 a5) I1 ∧ fr frM I I1 ∧ J1 = J) ∨ (¬ (t0 ++ bl a1 a2 a3 a4 a5).length ≤ 400 ∧ r = some (.int (-1)) ∧ I1 = I ∧ J1 = J)) := by
  refine Ct.of "LeapJoinModel" rfl hE (by decide) (Nat.le_of_ble_eq_true rfl) (fun z F e hl => ?_)
  subst hl
  have hbl : bl a1 a2 a3 a4 a5 = wb1 a1 24 ++ (wb1 a1 16 ++ (wb1 a1 8 ++ (wb1 a1 0 ++ (wb1 a2 24 ++ (wb1 a2 16 ++ (wb1 a2 8 ++ (wb1 a2 0 ++ (wb1 a3 24 ++ (wb1 a3 16 ++ (wb1 a3 8 ++ (wb1 a3 0 ++ (wb1 a4 24 ++ (wb1 a4 16 ++ (wb1 a4 8 ++ (wb1 a4 0 ++ (wb1 a5 24 ++ (wb1 a5 16 ++ (wb1 a5 8 ++ (wb1 a5 0))))))))))))))))))) := by simp only [bl, wb, List.append_assoc]
  have hn0 := ht0.2.1
  have hb0 := ht0.1
  have M20 : (t0 ++ bl a1 a2 a3 a4 a5).length ≤ 400 → ∀ (t : List Int32) (I1 : gM) (s : Int), TM t I1 → t = t0 ++ bl a1 a2 a3 a4 a5 → fr frM I I1 → G z 62 [(0, .ref (E.2.1 62)), (1, .int a1), (2, .int a2), (3, .int a3), (4, .int a4), (5, .int a5), (6, .int (iI s)), (7, .int 20)] [] I1 J := by
    intro hle t I1 s ht hq hf
    have hn1 := ht.2.1
    have hb1 := ht.1
    refine g_iload F 7 dX9_feed_62 rfl ?_
    refine g_bipush (v := 20) F dX9_feed_64 (by decide) ?_
    refine g_icmp_ge (tgt := 115) F dX9_feed_66 (by decide) (fun _ => ?_) (fun h => absurd (by decide) h)
    refine g_aload_n F 0 dX9_feed_115 rfl rfl ?_
    refine g_geti (j := 2) (v := I1 62 2) F s62 rfl rfl uX9 (by decide) q823 rfl dX9_feed_116 ?_
    exact g_iret F e dX9_feed_119 (Or.inl ⟨hle, by rw [hn1, hq], hq ▸ ht, hf, rfl⟩)
  have M19 : (t0 ++ bl a1 a2 a3 a4 a5).length ≤ 400 → ∀ (t : List Int32) (I1 : gM) (s : Int), TM t I1 → t ++ (wb1 a5 0) = t0 ++ bl a1 a2 a3 a4 a5 → fr frM I I1 → G z 62 [(0, .ref (E.2.1 62)), (1, .int a1), (2, .int a2), (3, .int a3), (4, .int a4), (5, .int a5), (6, .int (iI s)), (7, .int 19)] [] I1 J := by
    intro hle t I1 s ht hq hf
    have hn1 := ht.2.1
    have hb1 := ht.1
    have hlen := congrArg List.length hq
    simp only [List.length_append] at hlen hle
    refine g_iload F 7 dX9_feed_62 rfl ?_
    refine g_bipush (v := 20) F dX9_feed_64 (by decide) ?_
    refine g_icmp_ge (tgt := 115) F dX9_feed_66 (by decide) (fun h => absurd h (by decide)) (fun _ => ?_)
    refine g_iload_n F 1 dX9_feed_69 rfl rfl ?_
    refine g_iload_n F 2 dX9_feed_70 rfl rfl ?_
    refine g_iload_n F 3 dX9_feed_71 rfl rfl ?_
    refine g_iload F 4 dX9_feed_72 rfl ?_
    refine g_iload F 5 dX9_feed_74 rfl ?_
    refine g_iload F 7 dX9_feed_76 rfl ?_
    refine g_callS (As := [.int a1, .int a2, .int a3, .int a4, .int a5, .int 19]) (rest := []) F (kX9_byteOf (zl z) E hE _ _ a1 a2 a3 a4 a5) mX9_byteOf q916 rfl rfl rfl (Nat.le_of_ble_eq_true rfl) dX9_feed_78 (fun r I2 J2 h2 => ?_)
    obtain ⟨rfl, eh2, fh2⟩ := h2
    refine g_mem eh2 fh2 ?_
    refine g_st (sn := [.int ((a5 >>> 0) &&& 255)]) rfl ?_
    refine g_istore (Ln := [(8, .int ((a5 >>> 0) &&& 255)), (0, .ref (E.2.1 62)), (1, .int a1), (2, .int a2), (3, .int a3), (4, .int a4), (5, .int a5), (6, .int (iI (s))), (7, .int 19)]) F dX9_feed_81 (by decide) rfl ?_
    refine g_iload F 0 dX9_feed_83 rfl ?_
    refine g_if_eq (tgt := 109) F dX9_feed_85 (by decide) (fun c85 => ?_) (fun c85f => ?_)
    · refine g_iinc (v := 20) (Ln := [(7, .int 20), (8, .int ((a5 >>> 0) &&& 255)), (0, .ref (E.2.1 62)), (1, .int a1), (2, .int a2), (3, .int a3), (4, .int a4), (5, .int a5), (6, .int (iI (s)))]) F 8 dX9_feed_109 rfl (by decide) (by decide) rfl ?_
      refine g_goto (tgt := 62) F dX9_feed_112 (by decide) ?_
      refine g_sub (Ln := [(0, .ref (E.2.1 62)), (1, .int a1), (2, .int a2), (3, .int a3), (4, .int a4), (5, .int a5), (6, .int (iI (s))), (7, .int 20)]) [2, 3, 4, 5, 6, 7, 8, 0] rfl ?_
      exact M20 (by simpa only [List.length_append] using hle) t _ s ht (by simpa only [wb1_0 c85, List.nil_append, List.append_nil] using hq) hf
    · have hlt : t.length < 400 := by rw [wb1_1 c85f] at hlen; simp only [List.length_cons, List.length_nil] at hlen; omega
      refine g_aload_n F 1 dX9_feed_88 rfl rfl ?_
      refine g_getr (j := 1) (nn := 63) F s62 rfl rfl uX9 (by decide) q822 dX9_feed_89 ?_
      refine g_aload_n F 1 dX9_feed_92 rfl rfl ?_
      refine g_geti (j := 2) (v := I1 62 2) F s62 rfl rfl uX9 (by decide) q823 rfl dX9_feed_93 ?_
      refine g_iload F 0 dX9_feed_96 rfl ?_
      refine g_iastI (v := (a5 >>> 0) &&& 255) F (t.length : Int) s63 hn1 (by omega) (by omega) (by decide) rfl dX9_feed_98 ?_
      refine g_aload_n F 1 dX9_feed_99 rfl rfl ?_
      refine g_dup F dX9_feed_100 rfl ?_
      refine g_geti (j := 2) (v := I1 62 2) F s62 rfl rfl uX9 (by decide) q823 rfl dX9_feed_101 ?_
      refine g_iconst (v := 1) F dX9_feed_104 (by decide) ?_
      refine g_iadd (v := iI ((t.length : Int) + 1)) F dX9_feed_105 (iI_add hn1 (by decide)) ?_
      refine g_puti (j := 2) F s62 rfl rfl uX9 (by decide) q823 tyX9_ok nmX9 rfl rfl rfl dX9_feed_106 ?_
      refine g_iinc (v := 20) (Ln := [(7, .int 20), (8, .int ((a5 >>> 0) &&& 255)), (0, .ref (E.2.1 62)), (1, .int a1), (2, .int a2), (3, .int a3), (4, .int a4), (5, .int a5), (6, .int (iI (s)))]) F 8 dX9_feed_109 rfl (by decide) (by decide) rfl ?_
      refine g_goto (tgt := 62) F dX9_feed_112 (by decide) ?_
      refine g_sub (Ln := [(0, .ref (E.2.1 62)), (1, .int a1), (2, .int a2), (3, .int a3), (4, .int a4), (5, .int a5), (6, .int (iI (s))), (7, .int 20)]) [2, 3, 4, 5, 6, 7, 8, 0] rfl ?_
      exact M20 (by simpa only [List.length_append] using hle) (t ++ [(a5 >>> 0) &&& 255]) _ s (TM_push ht (by rw [wb1_1 c85f] at hlen; simp only [List.length_cons, List.length_nil] at hlen; omega)) (by simpa only [wb1_1 c85f, List.append_assoc, List.append_nil] using hq) (fr_up (fr_up hf (Or.inr rfl)) (Or.inl ⟨rfl, rfl⟩))
  have M18 : (t0 ++ bl a1 a2 a3 a4 a5).length ≤ 400 → ∀ (t : List Int32) (I1 : gM) (s : Int), TM t I1 → t ++ (wb1 a5 8 ++ (wb1 a5 0)) = t0 ++ bl a1 a2 a3 a4 a5 → fr frM I I1 → G z 62 [(0, .ref (E.2.1 62)), (1, .int a1), (2, .int a2), (3, .int a3), (4, .int a4), (5, .int a5), (6, .int (iI s)), (7, .int 18)] [] I1 J := by
    intro hle t I1 s ht hq hf
    have hn1 := ht.2.1
    have hb1 := ht.1
    have hlen := congrArg List.length hq
    simp only [List.length_append] at hlen hle
    refine g_iload F 7 dX9_feed_62 rfl ?_
    refine g_bipush (v := 20) F dX9_feed_64 (by decide) ?_
    refine g_icmp_ge (tgt := 115) F dX9_feed_66 (by decide) (fun h => absurd h (by decide)) (fun _ => ?_)
    refine g_iload_n F 1 dX9_feed_69 rfl rfl ?_
    refine g_iload_n F 2 dX9_feed_70 rfl rfl ?_
    refine g_iload_n F 3 dX9_feed_71 rfl rfl ?_
    refine g_iload F 4 dX9_feed_72 rfl ?_
    refine g_iload F 5 dX9_feed_74 rfl ?_
    refine g_iload F 7 dX9_feed_76 rfl ?_
    refine g_callS (As := [.int a1, .int a2, .int a3, .int a4, .int a5, .int 18]) (rest := []) F (kX9_byteOf_2 (zl z) E hE _ _ a1 a2 a3 a4 a5) mX9_byteOf q916 rfl rfl rfl (Nat.le_of_ble_eq_true rfl) dX9_feed_78 (fun r I3 J3 h3 => ?_)
    obtain ⟨rfl, eh3, fh3⟩ := h3
    refine g_mem eh3 fh3 ?_
    refine g_st (sn := [.int ((a5 >>> 8) &&& 255)]) rfl ?_
    refine g_istore (Ln := [(8, .int ((a5 >>> 8) &&& 255)), (0, .ref (E.2.1 62)), (1, .int a1), (2, .int a2), (3, .int a3), (4, .int a4), (5, .int a5), (6, .int (iI (s))), (7, .int 18)]) F dX9_feed_81 (by decide) rfl ?_
    refine g_iload F 0 dX9_feed_83 rfl ?_
    refine g_if_eq (tgt := 109) F dX9_feed_85 (by decide) (fun c85 => ?_) (fun c85f => ?_)
    · refine g_iinc (v := 19) (Ln := [(7, .int 19), (8, .int ((a5 >>> 8) &&& 255)), (0, .ref (E.2.1 62)), (1, .int a1), (2, .int a2), (3, .int a3), (4, .int a4), (5, .int a5), (6, .int (iI (s)))]) F 8 dX9_feed_109 rfl (by decide) (by decide) rfl ?_
      refine g_goto (tgt := 62) F dX9_feed_112 (by decide) ?_
      refine g_sub (Ln := [(0, .ref (E.2.1 62)), (1, .int a1), (2, .int a2), (3, .int a3), (4, .int a4), (5, .int a5), (6, .int (iI (s))), (7, .int 19)]) [2, 3, 4, 5, 6, 7, 8, 0] rfl ?_
      exact M19 (by simpa only [List.length_append] using hle) t _ s ht (by simpa only [wb1_0 c85, List.nil_append, List.append_nil] using hq) hf
    · have hlt : t.length < 400 := by rw [wb1_1 c85f] at hlen; simp only [List.length_cons, List.length_nil] at hlen; omega
      refine g_aload_n F 1 dX9_feed_88 rfl rfl ?_
      refine g_getr (j := 1) (nn := 63) F s62 rfl rfl uX9 (by decide) q822 dX9_feed_89 ?_
      refine g_aload_n F 1 dX9_feed_92 rfl rfl ?_
      refine g_geti (j := 2) (v := I1 62 2) F s62 rfl rfl uX9 (by decide) q823 rfl dX9_feed_93 ?_
      refine g_iload F 0 dX9_feed_96 rfl ?_
      refine g_iastI (v := (a5 >>> 8) &&& 255) F (t.length : Int) s63 hn1 (by omega) (by omega) (by decide) rfl dX9_feed_98 ?_
      refine g_aload_n F 1 dX9_feed_99 rfl rfl ?_
      refine g_dup F dX9_feed_100 rfl ?_
      refine g_geti (j := 2) (v := I1 62 2) F s62 rfl rfl uX9 (by decide) q823 rfl dX9_feed_101 ?_
      refine g_iconst (v := 1) F dX9_feed_104 (by decide) ?_
      refine g_iadd (v := iI ((t.length : Int) + 1)) F dX9_feed_105 (iI_add hn1 (by decide)) ?_
      refine g_puti (j := 2) F s62 rfl rfl uX9 (by decide) q823 tyX9_ok nmX9 rfl rfl rfl dX9_feed_106 ?_
      refine g_iinc (v := 19) (Ln := [(7, .int 19), (8, .int ((a5 >>> 8) &&& 255)), (0, .ref (E.2.1 62)), (1, .int a1), (2, .int a2), (3, .int a3), (4, .int a4), (5, .int a5), (6, .int (iI (s)))]) F 8 dX9_feed_109 rfl (by decide) (by decide) rfl ?_
      refine g_goto (tgt := 62) F dX9_feed_112 (by decide) ?_
      refine g_sub (Ln := [(0, .ref (E.2.1 62)), (1, .int a1), (2, .int a2), (3, .int a3), (4, .int a4), (5, .int a5), (6, .int (iI (s))), (7, .int 19)]) [2, 3, 4, 5, 6, 7, 8, 0] rfl ?_
      exact M19 (by simpa only [List.length_append] using hle) (t ++ [(a5 >>> 8) &&& 255]) _ s (TM_push ht (by rw [wb1_1 c85f] at hlen; simp only [List.length_cons, List.length_nil] at hlen; omega)) (by simpa only [wb1_1 c85f, List.append_assoc, List.append_nil] using hq) (fr_up (fr_up hf (Or.inr rfl)) (Or.inl ⟨rfl, rfl⟩))
  have M17 : (t0 ++ bl a1 a2 a3 a4 a5).length ≤ 400 → ∀ (t : List Int32) (I1 : gM) (s : Int), TM t I1 → t ++ (wb1 a5 16 ++ (wb1 a5 8 ++ (wb1 a5 0))) = t0 ++ bl a1 a2 a3 a4 a5 → fr frM I I1 → G z 62 [(0, .ref (E.2.1 62)), (1, .int a1), (2, .int a2), (3, .int a3), (4, .int a4), (5, .int a5), (6, .int (iI s)), (7, .int 17)] [] I1 J := by
    intro hle t I1 s ht hq hf
    have hn1 := ht.2.1
    have hb1 := ht.1
    have hlen := congrArg List.length hq
    simp only [List.length_append] at hlen hle
    refine g_iload F 7 dX9_feed_62 rfl ?_
    refine g_bipush (v := 20) F dX9_feed_64 (by decide) ?_
    refine g_icmp_ge (tgt := 115) F dX9_feed_66 (by decide) (fun h => absurd h (by decide)) (fun _ => ?_)
    refine g_iload_n F 1 dX9_feed_69 rfl rfl ?_
    refine g_iload_n F 2 dX9_feed_70 rfl rfl ?_
    refine g_iload_n F 3 dX9_feed_71 rfl rfl ?_
    refine g_iload F 4 dX9_feed_72 rfl ?_
    refine g_iload F 5 dX9_feed_74 rfl ?_
    refine g_iload F 7 dX9_feed_76 rfl ?_
    refine g_callS (As := [.int a1, .int a2, .int a3, .int a4, .int a5, .int 17]) (rest := []) F (kX9_byteOf_3 (zl z) E hE _ _ a1 a2 a3 a4 a5) mX9_byteOf q916 rfl rfl rfl (Nat.le_of_ble_eq_true rfl) dX9_feed_78 (fun r I4 J4 h4 => ?_)
    obtain ⟨rfl, eh4, fh4⟩ := h4
    refine g_mem eh4 fh4 ?_
    refine g_st (sn := [.int ((a5 >>> 16) &&& 255)]) rfl ?_
    refine g_istore (Ln := [(8, .int ((a5 >>> 16) &&& 255)), (0, .ref (E.2.1 62)), (1, .int a1), (2, .int a2), (3, .int a3), (4, .int a4), (5, .int a5), (6, .int (iI (s))), (7, .int 17)]) F dX9_feed_81 (by decide) rfl ?_
    refine g_iload F 0 dX9_feed_83 rfl ?_
    refine g_if_eq (tgt := 109) F dX9_feed_85 (by decide) (fun c85 => ?_) (fun c85f => ?_)
    · refine g_iinc (v := 18) (Ln := [(7, .int 18), (8, .int ((a5 >>> 16) &&& 255)), (0, .ref (E.2.1 62)), (1, .int a1), (2, .int a2), (3, .int a3), (4, .int a4), (5, .int a5), (6, .int (iI (s)))]) F 8 dX9_feed_109 rfl (by decide) (by decide) rfl ?_
      refine g_goto (tgt := 62) F dX9_feed_112 (by decide) ?_
      refine g_sub (Ln := [(0, .ref (E.2.1 62)), (1, .int a1), (2, .int a2), (3, .int a3), (4, .int a4), (5, .int a5), (6, .int (iI (s))), (7, .int 18)]) [2, 3, 4, 5, 6, 7, 8, 0] rfl ?_
      exact M18 (by simpa only [List.length_append] using hle) t _ s ht (by simpa only [wb1_0 c85, List.nil_append, List.append_nil] using hq) hf
    · have hlt : t.length < 400 := by rw [wb1_1 c85f] at hlen; simp only [List.length_cons, List.length_nil] at hlen; omega
      refine g_aload_n F 1 dX9_feed_88 rfl rfl ?_
      refine g_getr (j := 1) (nn := 63) F s62 rfl rfl uX9 (by decide) q822 dX9_feed_89 ?_
      refine g_aload_n F 1 dX9_feed_92 rfl rfl ?_
      refine g_geti (j := 2) (v := I1 62 2) F s62 rfl rfl uX9 (by decide) q823 rfl dX9_feed_93 ?_
      refine g_iload F 0 dX9_feed_96 rfl ?_
      refine g_iastI (v := (a5 >>> 16) &&& 255) F (t.length : Int) s63 hn1 (by omega) (by omega) (by decide) rfl dX9_feed_98 ?_
      refine g_aload_n F 1 dX9_feed_99 rfl rfl ?_
      refine g_dup F dX9_feed_100 rfl ?_
      refine g_geti (j := 2) (v := I1 62 2) F s62 rfl rfl uX9 (by decide) q823 rfl dX9_feed_101 ?_
      refine g_iconst (v := 1) F dX9_feed_104 (by decide) ?_
      refine g_iadd (v := iI ((t.length : Int) + 1)) F dX9_feed_105 (iI_add hn1 (by decide)) ?_
      refine g_puti (j := 2) F s62 rfl rfl uX9 (by decide) q823 tyX9_ok nmX9 rfl rfl rfl dX9_feed_106 ?_
      refine g_iinc (v := 18) (Ln := [(7, .int 18), (8, .int ((a5 >>> 16) &&& 255)), (0, .ref (E.2.1 62)), (1, .int a1), (2, .int a2), (3, .int a3), (4, .int a4), (5, .int a5), (6, .int (iI (s)))]) F 8 dX9_feed_109 rfl (by decide) (by decide) rfl ?_
      refine g_goto (tgt := 62) F dX9_feed_112 (by decide) ?_
      refine g_sub (Ln := [(0, .ref (E.2.1 62)), (1, .int a1), (2, .int a2), (3, .int a3), (4, .int a4), (5, .int a5), (6, .int (iI (s))), (7, .int 18)]) [2, 3, 4, 5, 6, 7, 8, 0] rfl ?_
      exact M18 (by simpa only [List.length_append] using hle) (t ++ [(a5 >>> 16) &&& 255]) _ s (TM_push ht (by rw [wb1_1 c85f] at hlen; simp only [List.length_cons, List.length_nil] at hlen; omega)) (by simpa only [wb1_1 c85f, List.append_assoc, List.append_nil] using hq) (fr_up (fr_up hf (Or.inr rfl)) (Or.inl ⟨rfl, rfl⟩))
  have M16 : (t0 ++ bl a1 a2 a3 a4 a5).length ≤ 400 → ∀ (t : List Int32) (I1 : gM) (s : Int), TM t I1 → t ++ (wb1 a5 24 ++ (wb1 a5 16 ++ (wb1 a5 8 ++ (wb1 a5 0)))) = t0 ++ bl a1 a2 a3 a4 a5 → fr frM I I1 → G z 62 [(0, .ref (E.2.1 62)), (1, .int a1), (2, .int a2), (3, .int a3), (4, .int a4), (5, .int a5), (6, .int (iI s)), (7, .int 16)] [] I1 J := by
    intro hle t I1 s ht hq hf
    have hn1 := ht.2.1
    have hb1 := ht.1
    have hlen := congrArg List.length hq
    simp only [List.length_append] at hlen hle
    refine g_iload F 7 dX9_feed_62 rfl ?_
    refine g_bipush (v := 20) F dX9_feed_64 (by decide) ?_
    refine g_icmp_ge (tgt := 115) F dX9_feed_66 (by decide) (fun h => absurd h (by decide)) (fun _ => ?_)
    refine g_iload_n F 1 dX9_feed_69 rfl rfl ?_
    refine g_iload_n F 2 dX9_feed_70 rfl rfl ?_
    refine g_iload_n F 3 dX9_feed_71 rfl rfl ?_
    refine g_iload F 4 dX9_feed_72 rfl ?_
    refine g_iload F 5 dX9_feed_74 rfl ?_
    refine g_iload F 7 dX9_feed_76 rfl ?_
    refine g_callS (As := [.int a1, .int a2, .int a3, .int a4, .int a5, .int 16]) (rest := []) F (kX9_byteOf_4 (zl z) E hE _ _ a1 a2 a3 a4 a5) mX9_byteOf q916 rfl rfl rfl (Nat.le_of_ble_eq_true rfl) dX9_feed_78 (fun r I5 J5 h5 => ?_)
    obtain ⟨rfl, eh5, fh5⟩ := h5
    refine g_mem eh5 fh5 ?_
    refine g_st (sn := [.int ((a5 >>> 24) &&& 255)]) rfl ?_
    refine g_istore (Ln := [(8, .int ((a5 >>> 24) &&& 255)), (0, .ref (E.2.1 62)), (1, .int a1), (2, .int a2), (3, .int a3), (4, .int a4), (5, .int a5), (6, .int (iI (s))), (7, .int 16)]) F dX9_feed_81 (by decide) rfl ?_
    refine g_iload F 0 dX9_feed_83 rfl ?_
    refine g_if_eq (tgt := 109) F dX9_feed_85 (by decide) (fun c85 => ?_) (fun c85f => ?_)
    · refine g_iinc (v := 17) (Ln := [(7, .int 17), (8, .int ((a5 >>> 24) &&& 255)), (0, .ref (E.2.1 62)), (1, .int a1), (2, .int a2), (3, .int a3), (4, .int a4), (5, .int a5), (6, .int (iI (s)))]) F 8 dX9_feed_109 rfl (by decide) (by decide) rfl ?_
      refine g_goto (tgt := 62) F dX9_feed_112 (by decide) ?_
      refine g_sub (Ln := [(0, .ref (E.2.1 62)), (1, .int a1), (2, .int a2), (3, .int a3), (4, .int a4), (5, .int a5), (6, .int (iI (s))), (7, .int 17)]) [2, 3, 4, 5, 6, 7, 8, 0] rfl ?_
      exact M17 (by simpa only [List.length_append] using hle) t _ s ht (by simpa only [wb1_0 c85, List.nil_append, List.append_nil] using hq) hf
    · have hlt : t.length < 400 := by rw [wb1_1 c85f] at hlen; simp only [List.length_cons, List.length_nil] at hlen; omega
      refine g_aload_n F 1 dX9_feed_88 rfl rfl ?_
      refine g_getr (j := 1) (nn := 63) F s62 rfl rfl uX9 (by decide) q822 dX9_feed_89 ?_
      refine g_aload_n F 1 dX9_feed_92 rfl rfl ?_
      refine g_geti (j := 2) (v := I1 62 2) F s62 rfl rfl uX9 (by decide) q823 rfl dX9_feed_93 ?_
      refine g_iload F 0 dX9_feed_96 rfl ?_
      refine g_iastI (v := (a5 >>> 24) &&& 255) F (t.length : Int) s63 hn1 (by omega) (by omega) (by decide) rfl dX9_feed_98 ?_
      refine g_aload_n F 1 dX9_feed_99 rfl rfl ?_
      refine g_dup F dX9_feed_100 rfl ?_
      refine g_geti (j := 2) (v := I1 62 2) F s62 rfl rfl uX9 (by decide) q823 rfl dX9_feed_101 ?_
      refine g_iconst (v := 1) F dX9_feed_104 (by decide) ?_
      refine g_iadd (v := iI ((t.length : Int) + 1)) F dX9_feed_105 (iI_add hn1 (by decide)) ?_
      refine g_puti (j := 2) F s62 rfl rfl uX9 (by decide) q823 tyX9_ok nmX9 rfl rfl rfl dX9_feed_106 ?_
      refine g_iinc (v := 17) (Ln := [(7, .int 17), (8, .int ((a5 >>> 24) &&& 255)), (0, .ref (E.2.1 62)), (1, .int a1), (2, .int a2), (3, .int a3), (4, .int a4), (5, .int a5), (6, .int (iI (s)))]) F 8 dX9_feed_109 rfl (by decide) (by decide) rfl ?_
      refine g_goto (tgt := 62) F dX9_feed_112 (by decide) ?_
      refine g_sub (Ln := [(0, .ref (E.2.1 62)), (1, .int a1), (2, .int a2), (3, .int a3), (4, .int a4), (5, .int a5), (6, .int (iI (s))), (7, .int 17)]) [2, 3, 4, 5, 6, 7, 8, 0] rfl ?_
      exact M17 (by simpa only [List.length_append] using hle) (t ++ [(a5 >>> 24) &&& 255]) _ s (TM_push ht (by rw [wb1_1 c85f] at hlen; simp only [List.length_cons, List.length_nil] at hlen; omega)) (by simpa only [wb1_1 c85f, List.append_assoc, List.append_nil] using hq) (fr_up (fr_up hf (Or.inr rfl)) (Or.inl ⟨rfl, rfl⟩))
  have M15 : (t0 ++ bl a1 a2 a3 a4 a5).length ≤ 400 → ∀ (t : List Int32) (I1 : gM) (s : Int), TM t I1 → t ++ (wb1 a4 0 ++ (wb1 a5 24 ++ (wb1 a5 16 ++ (wb1 a5 8 ++ (wb1 a5 0))))) = t0 ++ bl a1 a2 a3 a4 a5 → fr frM I I1 → G z 62 [(0, .ref (E.2.1 62)), (1, .int a1), (2, .int a2), (3, .int a3), (4, .int a4), (5, .int a5), (6, .int (iI s)), (7, .int 15)] [] I1 J := by
    intro hle t I1 s ht hq hf
    have hn1 := ht.2.1
    have hb1 := ht.1
    have hlen := congrArg List.length hq
    simp only [List.length_append] at hlen hle
    refine g_iload F 7 dX9_feed_62 rfl ?_
    refine g_bipush (v := 20) F dX9_feed_64 (by decide) ?_
    refine g_icmp_ge (tgt := 115) F dX9_feed_66 (by decide) (fun h => absurd h (by decide)) (fun _ => ?_)
    refine g_iload_n F 1 dX9_feed_69 rfl rfl ?_
    refine g_iload_n F 2 dX9_feed_70 rfl rfl ?_
    refine g_iload_n F 3 dX9_feed_71 rfl rfl ?_
    refine g_iload F 4 dX9_feed_72 rfl ?_
    refine g_iload F 5 dX9_feed_74 rfl ?_
    refine g_iload F 7 dX9_feed_76 rfl ?_
    refine g_callS (As := [.int a1, .int a2, .int a3, .int a4, .int a5, .int 15]) (rest := []) F (kX9_byteOf_5 (zl z) E hE _ _ a1 a2 a3 a4 a5) mX9_byteOf q916 rfl rfl rfl (Nat.le_of_ble_eq_true rfl) dX9_feed_78 (fun r I6 J6 h6 => ?_)
    obtain ⟨rfl, eh6, fh6⟩ := h6
    refine g_mem eh6 fh6 ?_
    refine g_st (sn := [.int ((a4 >>> 0) &&& 255)]) rfl ?_
    refine g_istore (Ln := [(8, .int ((a4 >>> 0) &&& 255)), (0, .ref (E.2.1 62)), (1, .int a1), (2, .int a2), (3, .int a3), (4, .int a4), (5, .int a5), (6, .int (iI (s))), (7, .int 15)]) F dX9_feed_81 (by decide) rfl ?_
    refine g_iload F 0 dX9_feed_83 rfl ?_
    refine g_if_eq (tgt := 109) F dX9_feed_85 (by decide) (fun c85 => ?_) (fun c85f => ?_)
    · refine g_iinc (v := 16) (Ln := [(7, .int 16), (8, .int ((a4 >>> 0) &&& 255)), (0, .ref (E.2.1 62)), (1, .int a1), (2, .int a2), (3, .int a3), (4, .int a4), (5, .int a5), (6, .int (iI (s)))]) F 8 dX9_feed_109 rfl (by decide) (by decide) rfl ?_
      refine g_goto (tgt := 62) F dX9_feed_112 (by decide) ?_
      refine g_sub (Ln := [(0, .ref (E.2.1 62)), (1, .int a1), (2, .int a2), (3, .int a3), (4, .int a4), (5, .int a5), (6, .int (iI (s))), (7, .int 16)]) [2, 3, 4, 5, 6, 7, 8, 0] rfl ?_
      exact M16 (by simpa only [List.length_append] using hle) t _ s ht (by simpa only [wb1_0 c85, List.nil_append, List.append_nil] using hq) hf
    · have hlt : t.length < 400 := by rw [wb1_1 c85f] at hlen; simp only [List.length_cons, List.length_nil] at hlen; omega
      refine g_aload_n F 1 dX9_feed_88 rfl rfl ?_
      refine g_getr (j := 1) (nn := 63) F s62 rfl rfl uX9 (by decide) q822 dX9_feed_89 ?_
      refine g_aload_n F 1 dX9_feed_92 rfl rfl ?_
      refine g_geti (j := 2) (v := I1 62 2) F s62 rfl rfl uX9 (by decide) q823 rfl dX9_feed_93 ?_
      refine g_iload F 0 dX9_feed_96 rfl ?_
      refine g_iastI (v := (a4 >>> 0) &&& 255) F (t.length : Int) s63 hn1 (by omega) (by omega) (by decide) rfl dX9_feed_98 ?_
      refine g_aload_n F 1 dX9_feed_99 rfl rfl ?_
      refine g_dup F dX9_feed_100 rfl ?_
      refine g_geti (j := 2) (v := I1 62 2) F s62 rfl rfl uX9 (by decide) q823 rfl dX9_feed_101 ?_
      refine g_iconst (v := 1) F dX9_feed_104 (by decide) ?_
      refine g_iadd (v := iI ((t.length : Int) + 1)) F dX9_feed_105 (iI_add hn1 (by decide)) ?_
      refine g_puti (j := 2) F s62 rfl rfl uX9 (by decide) q823 tyX9_ok nmX9 rfl rfl rfl dX9_feed_106 ?_
      refine g_iinc (v := 16) (Ln := [(7, .int 16), (8, .int ((a4 >>> 0) &&& 255)), (0, .ref (E.2.1 62)), (1, .int a1), (2, .int a2), (3, .int a3), (4, .int a4), (5, .int a5), (6, .int (iI (s)))]) F 8 dX9_feed_109 rfl (by decide) (by decide) rfl ?_
      refine g_goto (tgt := 62) F dX9_feed_112 (by decide) ?_
      refine g_sub (Ln := [(0, .ref (E.2.1 62)), (1, .int a1), (2, .int a2), (3, .int a3), (4, .int a4), (5, .int a5), (6, .int (iI (s))), (7, .int 16)]) [2, 3, 4, 5, 6, 7, 8, 0] rfl ?_
      exact M16 (by simpa only [List.length_append] using hle) (t ++ [(a4 >>> 0) &&& 255]) _ s (TM_push ht (by rw [wb1_1 c85f] at hlen; simp only [List.length_cons, List.length_nil] at hlen; omega)) (by simpa only [wb1_1 c85f, List.append_assoc, List.append_nil] using hq) (fr_up (fr_up hf (Or.inr rfl)) (Or.inl ⟨rfl, rfl⟩))
  have M14 : (t0 ++ bl a1 a2 a3 a4 a5).length ≤ 400 → ∀ (t : List Int32) (I1 : gM) (s : Int), TM t I1 → t ++ (wb1 a4 8 ++ (wb1 a4 0 ++ (wb1 a5 24 ++ (wb1 a5 16 ++ (wb1 a5 8 ++ (wb1 a5 0)))))) = t0 ++ bl a1 a2 a3 a4 a5 → fr frM I I1 → G z 62 [(0, .ref (E.2.1 62)), (1, .int a1), (2, .int a2), (3, .int a3), (4, .int a4), (5, .int a5), (6, .int (iI s)), (7, .int 14)] [] I1 J := by
    intro hle t I1 s ht hq hf
    have hn1 := ht.2.1
    have hb1 := ht.1
    have hlen := congrArg List.length hq
    simp only [List.length_append] at hlen hle
    refine g_iload F 7 dX9_feed_62 rfl ?_
    refine g_bipush (v := 20) F dX9_feed_64 (by decide) ?_
    refine g_icmp_ge (tgt := 115) F dX9_feed_66 (by decide) (fun h => absurd h (by decide)) (fun _ => ?_)
    refine g_iload_n F 1 dX9_feed_69 rfl rfl ?_
    refine g_iload_n F 2 dX9_feed_70 rfl rfl ?_
    refine g_iload_n F 3 dX9_feed_71 rfl rfl ?_
    refine g_iload F 4 dX9_feed_72 rfl ?_
    refine g_iload F 5 dX9_feed_74 rfl ?_
    refine g_iload F 7 dX9_feed_76 rfl ?_
    refine g_callS (As := [.int a1, .int a2, .int a3, .int a4, .int a5, .int 14]) (rest := []) F (kX9_byteOf_6 (zl z) E hE _ _ a1 a2 a3 a4 a5) mX9_byteOf q916 rfl rfl rfl (Nat.le_of_ble_eq_true rfl) dX9_feed_78 (fun r I7 J7 h7 => ?_)
    obtain ⟨rfl, eh7, fh7⟩ := h7
    refine g_mem eh7 fh7 ?_
    refine g_st (sn := [.int ((a4 >>> 8) &&& 255)]) rfl ?_
    refine g_istore (Ln := [(8, .int ((a4 >>> 8) &&& 255)), (0, .ref (E.2.1 62)), (1, .int a1), (2, .int a2), (3, .int a3), (4, .int a4), (5, .int a5), (6, .int (iI (s))), (7, .int 14)]) F dX9_feed_81 (by decide) rfl ?_
    refine g_iload F 0 dX9_feed_83 rfl ?_
    refine g_if_eq (tgt := 109) F dX9_feed_85 (by decide) (fun c85 => ?_) (fun c85f => ?_)
    · refine g_iinc (v := 15) (Ln := [(7, .int 15), (8, .int ((a4 >>> 8) &&& 255)), (0, .ref (E.2.1 62)), (1, .int a1), (2, .int a2), (3, .int a3), (4, .int a4), (5, .int a5), (6, .int (iI (s)))]) F 8 dX9_feed_109 rfl (by decide) (by decide) rfl ?_
      refine g_goto (tgt := 62) F dX9_feed_112 (by decide) ?_
      refine g_sub (Ln := [(0, .ref (E.2.1 62)), (1, .int a1), (2, .int a2), (3, .int a3), (4, .int a4), (5, .int a5), (6, .int (iI (s))), (7, .int 15)]) [2, 3, 4, 5, 6, 7, 8, 0] rfl ?_
      exact M15 (by simpa only [List.length_append] using hle) t _ s ht (by simpa only [wb1_0 c85, List.nil_append, List.append_nil] using hq) hf
    · have hlt : t.length < 400 := by rw [wb1_1 c85f] at hlen; simp only [List.length_cons, List.length_nil] at hlen; omega
      refine g_aload_n F 1 dX9_feed_88 rfl rfl ?_
      refine g_getr (j := 1) (nn := 63) F s62 rfl rfl uX9 (by decide) q822 dX9_feed_89 ?_
      refine g_aload_n F 1 dX9_feed_92 rfl rfl ?_
      refine g_geti (j := 2) (v := I1 62 2) F s62 rfl rfl uX9 (by decide) q823 rfl dX9_feed_93 ?_
      refine g_iload F 0 dX9_feed_96 rfl ?_
      refine g_iastI (v := (a4 >>> 8) &&& 255) F (t.length : Int) s63 hn1 (by omega) (by omega) (by decide) rfl dX9_feed_98 ?_
      refine g_aload_n F 1 dX9_feed_99 rfl rfl ?_
      refine g_dup F dX9_feed_100 rfl ?_
      refine g_geti (j := 2) (v := I1 62 2) F s62 rfl rfl uX9 (by decide) q823 rfl dX9_feed_101 ?_
      refine g_iconst (v := 1) F dX9_feed_104 (by decide) ?_
      refine g_iadd (v := iI ((t.length : Int) + 1)) F dX9_feed_105 (iI_add hn1 (by decide)) ?_
      refine g_puti (j := 2) F s62 rfl rfl uX9 (by decide) q823 tyX9_ok nmX9 rfl rfl rfl dX9_feed_106 ?_
      refine g_iinc (v := 15) (Ln := [(7, .int 15), (8, .int ((a4 >>> 8) &&& 255)), (0, .ref (E.2.1 62)), (1, .int a1), (2, .int a2), (3, .int a3), (4, .int a4), (5, .int a5), (6, .int (iI (s)))]) F 8 dX9_feed_109 rfl (by decide) (by decide) rfl ?_
      refine g_goto (tgt := 62) F dX9_feed_112 (by decide) ?_
      refine g_sub (Ln := [(0, .ref (E.2.1 62)), (1, .int a1), (2, .int a2), (3, .int a3), (4, .int a4), (5, .int a5), (6, .int (iI (s))), (7, .int 15)]) [2, 3, 4, 5, 6, 7, 8, 0] rfl ?_
      exact M15 (by simpa only [List.length_append] using hle) (t ++ [(a4 >>> 8) &&& 255]) _ s (TM_push ht (by rw [wb1_1 c85f] at hlen; simp only [List.length_cons, List.length_nil] at hlen; omega)) (by simpa only [wb1_1 c85f, List.append_assoc, List.append_nil] using hq) (fr_up (fr_up hf (Or.inr rfl)) (Or.inl ⟨rfl, rfl⟩))
  have M13 : (t0 ++ bl a1 a2 a3 a4 a5).length ≤ 400 → ∀ (t : List Int32) (I1 : gM) (s : Int), TM t I1 → t ++ (wb1 a4 16 ++ (wb1 a4 8 ++ (wb1 a4 0 ++ (wb1 a5 24 ++ (wb1 a5 16 ++ (wb1 a5 8 ++ (wb1 a5 0))))))) = t0 ++ bl a1 a2 a3 a4 a5 → fr frM I I1 → G z 62 [(0, .ref (E.2.1 62)), (1, .int a1), (2, .int a2), (3, .int a3), (4, .int a4), (5, .int a5), (6, .int (iI s)), (7, .int 13)] [] I1 J := by
    intro hle t I1 s ht hq hf
    have hn1 := ht.2.1
    have hb1 := ht.1
    have hlen := congrArg List.length hq
    simp only [List.length_append] at hlen hle
    refine g_iload F 7 dX9_feed_62 rfl ?_
    refine g_bipush (v := 20) F dX9_feed_64 (by decide) ?_
    refine g_icmp_ge (tgt := 115) F dX9_feed_66 (by decide) (fun h => absurd h (by decide)) (fun _ => ?_)
    refine g_iload_n F 1 dX9_feed_69 rfl rfl ?_
    refine g_iload_n F 2 dX9_feed_70 rfl rfl ?_
    refine g_iload_n F 3 dX9_feed_71 rfl rfl ?_
    refine g_iload F 4 dX9_feed_72 rfl ?_
    refine g_iload F 5 dX9_feed_74 rfl ?_
    refine g_iload F 7 dX9_feed_76 rfl ?_
    refine g_callS (As := [.int a1, .int a2, .int a3, .int a4, .int a5, .int 13]) (rest := []) F (kX9_byteOf_7 (zl z) E hE _ _ a1 a2 a3 a4 a5) mX9_byteOf q916 rfl rfl rfl (Nat.le_of_ble_eq_true rfl) dX9_feed_78 (fun r I8 J8 h8 => ?_)
    obtain ⟨rfl, eh8, fh8⟩ := h8
    refine g_mem eh8 fh8 ?_
    refine g_st (sn := [.int ((a4 >>> 16) &&& 255)]) rfl ?_
    refine g_istore (Ln := [(8, .int ((a4 >>> 16) &&& 255)), (0, .ref (E.2.1 62)), (1, .int a1), (2, .int a2), (3, .int a3), (4, .int a4), (5, .int a5), (6, .int (iI (s))), (7, .int 13)]) F dX9_feed_81 (by decide) rfl ?_
    refine g_iload F 0 dX9_feed_83 rfl ?_
    refine g_if_eq (tgt := 109) F dX9_feed_85 (by decide) (fun c85 => ?_) (fun c85f => ?_)
    · refine g_iinc (v := 14) (Ln := [(7, .int 14), (8, .int ((a4 >>> 16) &&& 255)), (0, .ref (E.2.1 62)), (1, .int a1), (2, .int a2), (3, .int a3), (4, .int a4), (5, .int a5), (6, .int (iI (s)))]) F 8 dX9_feed_109 rfl (by decide) (by decide) rfl ?_
      refine g_goto (tgt := 62) F dX9_feed_112 (by decide) ?_
      refine g_sub (Ln := [(0, .ref (E.2.1 62)), (1, .int a1), (2, .int a2), (3, .int a3), (4, .int a4), (5, .int a5), (6, .int (iI (s))), (7, .int 14)]) [2, 3, 4, 5, 6, 7, 8, 0] rfl ?_
      exact M14 (by simpa only [List.length_append] using hle) t _ s ht (by simpa only [wb1_0 c85, List.nil_append, List.append_nil] using hq) hf
    · have hlt : t.length < 400 := by rw [wb1_1 c85f] at hlen; simp only [List.length_cons, List.length_nil] at hlen; omega
      refine g_aload_n F 1 dX9_feed_88 rfl rfl ?_
      refine g_getr (j := 1) (nn := 63) F s62 rfl rfl uX9 (by decide) q822 dX9_feed_89 ?_
      refine g_aload_n F 1 dX9_feed_92 rfl rfl ?_
      refine g_geti (j := 2) (v := I1 62 2) F s62 rfl rfl uX9 (by decide) q823 rfl dX9_feed_93 ?_
      refine g_iload F 0 dX9_feed_96 rfl ?_
      refine g_iastI (v := (a4 >>> 16) &&& 255) F (t.length : Int) s63 hn1 (by omega) (by omega) (by decide) rfl dX9_feed_98 ?_
      refine g_aload_n F 1 dX9_feed_99 rfl rfl ?_
      refine g_dup F dX9_feed_100 rfl ?_
      refine g_geti (j := 2) (v := I1 62 2) F s62 rfl rfl uX9 (by decide) q823 rfl dX9_feed_101 ?_
      refine g_iconst (v := 1) F dX9_feed_104 (by decide) ?_
      refine g_iadd (v := iI ((t.length : Int) + 1)) F dX9_feed_105 (iI_add hn1 (by decide)) ?_
      refine g_puti (j := 2) F s62 rfl rfl uX9 (by decide) q823 tyX9_ok nmX9 rfl rfl rfl dX9_feed_106 ?_
      refine g_iinc (v := 14) (Ln := [(7, .int 14), (8, .int ((a4 >>> 16) &&& 255)), (0, .ref (E.2.1 62)), (1, .int a1), (2, .int a2), (3, .int a3), (4, .int a4), (5, .int a5), (6, .int (iI (s)))]) F 8 dX9_feed_109 rfl (by decide) (by decide) rfl ?_
      refine g_goto (tgt := 62) F dX9_feed_112 (by decide) ?_
      refine g_sub (Ln := [(0, .ref (E.2.1 62)), (1, .int a1), (2, .int a2), (3, .int a3), (4, .int a4), (5, .int a5), (6, .int (iI (s))), (7, .int 14)]) [2, 3, 4, 5, 6, 7, 8, 0] rfl ?_
      exact M14 (by simpa only [List.length_append] using hle) (t ++ [(a4 >>> 16) &&& 255]) _ s (TM_push ht (by rw [wb1_1 c85f] at hlen; simp only [List.length_cons, List.length_nil] at hlen; omega)) (by simpa only [wb1_1 c85f, List.append_assoc, List.append_nil] using hq) (fr_up (fr_up hf (Or.inr rfl)) (Or.inl ⟨rfl, rfl⟩))
  have M12 : (t0 ++ bl a1 a2 a3 a4 a5).length ≤ 400 → ∀ (t : List Int32) (I1 : gM) (s : Int), TM t I1 → t ++ (wb1 a4 24 ++ (wb1 a4 16 ++ (wb1 a4 8 ++ (wb1 a4 0 ++ (wb1 a5 24 ++ (wb1 a5 16 ++ (wb1 a5 8 ++ (wb1 a5 0)))))))) = t0 ++ bl a1 a2 a3 a4 a5 → fr frM I I1 → G z 62 [(0, .ref (E.2.1 62)), (1, .int a1), (2, .int a2), (3, .int a3), (4, .int a4), (5, .int a5), (6, .int (iI s)), (7, .int 12)] [] I1 J := by
    intro hle t I1 s ht hq hf
    have hn1 := ht.2.1
    have hb1 := ht.1
    have hlen := congrArg List.length hq
    simp only [List.length_append] at hlen hle
    refine g_iload F 7 dX9_feed_62 rfl ?_
    refine g_bipush (v := 20) F dX9_feed_64 (by decide) ?_
    refine g_icmp_ge (tgt := 115) F dX9_feed_66 (by decide) (fun h => absurd h (by decide)) (fun _ => ?_)
    refine g_iload_n F 1 dX9_feed_69 rfl rfl ?_
    refine g_iload_n F 2 dX9_feed_70 rfl rfl ?_
    refine g_iload_n F 3 dX9_feed_71 rfl rfl ?_
    refine g_iload F 4 dX9_feed_72 rfl ?_
    refine g_iload F 5 dX9_feed_74 rfl ?_
    refine g_iload F 7 dX9_feed_76 rfl ?_
    refine g_callS (As := [.int a1, .int a2, .int a3, .int a4, .int a5, .int 12]) (rest := []) F (kX9_byteOf_8 (zl z) E hE _ _ a1 a2 a3 a4 a5) mX9_byteOf q916 rfl rfl rfl (Nat.le_of_ble_eq_true rfl) dX9_feed_78 (fun r I9 J9 h9 => ?_)
    obtain ⟨rfl, eh9, fh9⟩ := h9
    refine g_mem eh9 fh9 ?_
    refine g_st (sn := [.int ((a4 >>> 24) &&& 255)]) rfl ?_
    refine g_istore (Ln := [(8, .int ((a4 >>> 24) &&& 255)), (0, .ref (E.2.1 62)), (1, .int a1), (2, .int a2), (3, .int a3), (4, .int a4), (5, .int a5), (6, .int (iI (s))), (7, .int 12)]) F dX9_feed_81 (by decide) rfl ?_
    refine g_iload F 0 dX9_feed_83 rfl ?_
    refine g_if_eq (tgt := 109) F dX9_feed_85 (by decide) (fun c85 => ?_) (fun c85f => ?_)
    · refine g_iinc (v := 13) (Ln := [(7, .int 13), (8, .int ((a4 >>> 24) &&& 255)), (0, .ref (E.2.1 62)), (1, .int a1), (2, .int a2), (3, .int a3), (4, .int a4), (5, .int a5), (6, .int (iI (s)))]) F 8 dX9_feed_109 rfl (by decide) (by decide) rfl ?_
      refine g_goto (tgt := 62) F dX9_feed_112 (by decide) ?_
      refine g_sub (Ln := [(0, .ref (E.2.1 62)), (1, .int a1), (2, .int a2), (3, .int a3), (4, .int a4), (5, .int a5), (6, .int (iI (s))), (7, .int 13)]) [2, 3, 4, 5, 6, 7, 8, 0] rfl ?_
      exact M13 (by simpa only [List.length_append] using hle) t _ s ht (by simpa only [wb1_0 c85, List.nil_append, List.append_nil] using hq) hf
    · have hlt : t.length < 400 := by rw [wb1_1 c85f] at hlen; simp only [List.length_cons, List.length_nil] at hlen; omega
      refine g_aload_n F 1 dX9_feed_88 rfl rfl ?_
      refine g_getr (j := 1) (nn := 63) F s62 rfl rfl uX9 (by decide) q822 dX9_feed_89 ?_
      refine g_aload_n F 1 dX9_feed_92 rfl rfl ?_
      refine g_geti (j := 2) (v := I1 62 2) F s62 rfl rfl uX9 (by decide) q823 rfl dX9_feed_93 ?_
      refine g_iload F 0 dX9_feed_96 rfl ?_
      refine g_iastI (v := (a4 >>> 24) &&& 255) F (t.length : Int) s63 hn1 (by omega) (by omega) (by decide) rfl dX9_feed_98 ?_
      refine g_aload_n F 1 dX9_feed_99 rfl rfl ?_
      refine g_dup F dX9_feed_100 rfl ?_
      refine g_geti (j := 2) (v := I1 62 2) F s62 rfl rfl uX9 (by decide) q823 rfl dX9_feed_101 ?_
      refine g_iconst (v := 1) F dX9_feed_104 (by decide) ?_
      refine g_iadd (v := iI ((t.length : Int) + 1)) F dX9_feed_105 (iI_add hn1 (by decide)) ?_
      refine g_puti (j := 2) F s62 rfl rfl uX9 (by decide) q823 tyX9_ok nmX9 rfl rfl rfl dX9_feed_106 ?_
      refine g_iinc (v := 13) (Ln := [(7, .int 13), (8, .int ((a4 >>> 24) &&& 255)), (0, .ref (E.2.1 62)), (1, .int a1), (2, .int a2), (3, .int a3), (4, .int a4), (5, .int a5), (6, .int (iI (s)))]) F 8 dX9_feed_109 rfl (by decide) (by decide) rfl ?_
      refine g_goto (tgt := 62) F dX9_feed_112 (by decide) ?_
      refine g_sub (Ln := [(0, .ref (E.2.1 62)), (1, .int a1), (2, .int a2), (3, .int a3), (4, .int a4), (5, .int a5), (6, .int (iI (s))), (7, .int 13)]) [2, 3, 4, 5, 6, 7, 8, 0] rfl ?_
      exact M13 (by simpa only [List.length_append] using hle) (t ++ [(a4 >>> 24) &&& 255]) _ s (TM_push ht (by rw [wb1_1 c85f] at hlen; simp only [List.length_cons, List.length_nil] at hlen; omega)) (by simpa only [wb1_1 c85f, List.append_assoc, List.append_nil] using hq) (fr_up (fr_up hf (Or.inr rfl)) (Or.inl ⟨rfl, rfl⟩))
  have M11 : (t0 ++ bl a1 a2 a3 a4 a5).length ≤ 400 → ∀ (t : List Int32) (I1 : gM) (s : Int), TM t I1 → t ++ (wb1 a3 0 ++ (wb1 a4 24 ++ (wb1 a4 16 ++ (wb1 a4 8 ++ (wb1 a4 0 ++ (wb1 a5 24 ++ (wb1 a5 16 ++ (wb1 a5 8 ++ (wb1 a5 0))))))))) = t0 ++ bl a1 a2 a3 a4 a5 → fr frM I I1 → G z 62 [(0, .ref (E.2.1 62)), (1, .int a1), (2, .int a2), (3, .int a3), (4, .int a4), (5, .int a5), (6, .int (iI s)), (7, .int 11)] [] I1 J := by
    intro hle t I1 s ht hq hf
    have hn1 := ht.2.1
    have hb1 := ht.1
    have hlen := congrArg List.length hq
    simp only [List.length_append] at hlen hle
    refine g_iload F 7 dX9_feed_62 rfl ?_
    refine g_bipush (v := 20) F dX9_feed_64 (by decide) ?_
    refine g_icmp_ge (tgt := 115) F dX9_feed_66 (by decide) (fun h => absurd h (by decide)) (fun _ => ?_)
    refine g_iload_n F 1 dX9_feed_69 rfl rfl ?_
    refine g_iload_n F 2 dX9_feed_70 rfl rfl ?_
    refine g_iload_n F 3 dX9_feed_71 rfl rfl ?_
    refine g_iload F 4 dX9_feed_72 rfl ?_
    refine g_iload F 5 dX9_feed_74 rfl ?_
    refine g_iload F 7 dX9_feed_76 rfl ?_
    refine g_callS (As := [.int a1, .int a2, .int a3, .int a4, .int a5, .int 11]) (rest := []) F (kX9_byteOf_9 (zl z) E hE _ _ a1 a2 a3 a4 a5) mX9_byteOf q916 rfl rfl rfl (Nat.le_of_ble_eq_true rfl) dX9_feed_78 (fun r I10 J10 h10 => ?_)
    obtain ⟨rfl, eh10, fh10⟩ := h10
    refine g_mem eh10 fh10 ?_
    refine g_st (sn := [.int ((a3 >>> 0) &&& 255)]) rfl ?_
    refine g_istore (Ln := [(8, .int ((a3 >>> 0) &&& 255)), (0, .ref (E.2.1 62)), (1, .int a1), (2, .int a2), (3, .int a3), (4, .int a4), (5, .int a5), (6, .int (iI (s))), (7, .int 11)]) F dX9_feed_81 (by decide) rfl ?_
    refine g_iload F 0 dX9_feed_83 rfl ?_
    refine g_if_eq (tgt := 109) F dX9_feed_85 (by decide) (fun c85 => ?_) (fun c85f => ?_)
    · refine g_iinc (v := 12) (Ln := [(7, .int 12), (8, .int ((a3 >>> 0) &&& 255)), (0, .ref (E.2.1 62)), (1, .int a1), (2, .int a2), (3, .int a3), (4, .int a4), (5, .int a5), (6, .int (iI (s)))]) F 8 dX9_feed_109 rfl (by decide) (by decide) rfl ?_
      refine g_goto (tgt := 62) F dX9_feed_112 (by decide) ?_
      refine g_sub (Ln := [(0, .ref (E.2.1 62)), (1, .int a1), (2, .int a2), (3, .int a3), (4, .int a4), (5, .int a5), (6, .int (iI (s))), (7, .int 12)]) [2, 3, 4, 5, 6, 7, 8, 0] rfl ?_
      exact M12 (by simpa only [List.length_append] using hle) t _ s ht (by simpa only [wb1_0 c85, List.nil_append, List.append_nil] using hq) hf
    · have hlt : t.length < 400 := by rw [wb1_1 c85f] at hlen; simp only [List.length_cons, List.length_nil] at hlen; omega
      refine g_aload_n F 1 dX9_feed_88 rfl rfl ?_
      refine g_getr (j := 1) (nn := 63) F s62 rfl rfl uX9 (by decide) q822 dX9_feed_89 ?_
      refine g_aload_n F 1 dX9_feed_92 rfl rfl ?_
      refine g_geti (j := 2) (v := I1 62 2) F s62 rfl rfl uX9 (by decide) q823 rfl dX9_feed_93 ?_
      refine g_iload F 0 dX9_feed_96 rfl ?_
      refine g_iastI (v := (a3 >>> 0) &&& 255) F (t.length : Int) s63 hn1 (by omega) (by omega) (by decide) rfl dX9_feed_98 ?_
      refine g_aload_n F 1 dX9_feed_99 rfl rfl ?_
      refine g_dup F dX9_feed_100 rfl ?_
      refine g_geti (j := 2) (v := I1 62 2) F s62 rfl rfl uX9 (by decide) q823 rfl dX9_feed_101 ?_
      refine g_iconst (v := 1) F dX9_feed_104 (by decide) ?_
      refine g_iadd (v := iI ((t.length : Int) + 1)) F dX9_feed_105 (iI_add hn1 (by decide)) ?_
      refine g_puti (j := 2) F s62 rfl rfl uX9 (by decide) q823 tyX9_ok nmX9 rfl rfl rfl dX9_feed_106 ?_
      refine g_iinc (v := 12) (Ln := [(7, .int 12), (8, .int ((a3 >>> 0) &&& 255)), (0, .ref (E.2.1 62)), (1, .int a1), (2, .int a2), (3, .int a3), (4, .int a4), (5, .int a5), (6, .int (iI (s)))]) F 8 dX9_feed_109 rfl (by decide) (by decide) rfl ?_
      refine g_goto (tgt := 62) F dX9_feed_112 (by decide) ?_
      refine g_sub (Ln := [(0, .ref (E.2.1 62)), (1, .int a1), (2, .int a2), (3, .int a3), (4, .int a4), (5, .int a5), (6, .int (iI (s))), (7, .int 12)]) [2, 3, 4, 5, 6, 7, 8, 0] rfl ?_
      exact M12 (by simpa only [List.length_append] using hle) (t ++ [(a3 >>> 0) &&& 255]) _ s (TM_push ht (by rw [wb1_1 c85f] at hlen; simp only [List.length_cons, List.length_nil] at hlen; omega)) (by simpa only [wb1_1 c85f, List.append_assoc, List.append_nil] using hq) (fr_up (fr_up hf (Or.inr rfl)) (Or.inl ⟨rfl, rfl⟩))
  have M10 : (t0 ++ bl a1 a2 a3 a4 a5).length ≤ 400 → ∀ (t : List Int32) (I1 : gM) (s : Int), TM t I1 → t ++ (wb1 a3 8 ++ (wb1 a3 0 ++ (wb1 a4 24 ++ (wb1 a4 16 ++ (wb1 a4 8 ++ (wb1 a4 0 ++ (wb1 a5 24 ++ (wb1 a5 16 ++ (wb1 a5 8 ++ (wb1 a5 0)))))))))) = t0 ++ bl a1 a2 a3 a4 a5 → fr frM I I1 → G z 62 [(0, .ref (E.2.1 62)), (1, .int a1), (2, .int a2), (3, .int a3), (4, .int a4), (5, .int a5), (6, .int (iI s)), (7, .int 10)] [] I1 J := by
    intro hle t I1 s ht hq hf
    have hn1 := ht.2.1
    have hb1 := ht.1
    have hlen := congrArg List.length hq
    simp only [List.length_append] at hlen hle
    refine g_iload F 7 dX9_feed_62 rfl ?_
    refine g_bipush (v := 20) F dX9_feed_64 (by decide) ?_
    refine g_icmp_ge (tgt := 115) F dX9_feed_66 (by decide) (fun h => absurd h (by decide)) (fun _ => ?_)
    refine g_iload_n F 1 dX9_feed_69 rfl rfl ?_
    refine g_iload_n F 2 dX9_feed_70 rfl rfl ?_
    refine g_iload_n F 3 dX9_feed_71 rfl rfl ?_
    refine g_iload F 4 dX9_feed_72 rfl ?_
    refine g_iload F 5 dX9_feed_74 rfl ?_
    refine g_iload F 7 dX9_feed_76 rfl ?_
    refine g_callS (As := [.int a1, .int a2, .int a3, .int a4, .int a5, .int 10]) (rest := []) F (kX9_byteOf_10 (zl z) E hE _ _ a1 a2 a3 a4 a5) mX9_byteOf q916 rfl rfl rfl (Nat.le_of_ble_eq_true rfl) dX9_feed_78 (fun r I11 J11 h11 => ?_)
    obtain ⟨rfl, eh11, fh11⟩ := h11
    refine g_mem eh11 fh11 ?_
    refine g_st (sn := [.int ((a3 >>> 8) &&& 255)]) rfl ?_
    refine g_istore (Ln := [(8, .int ((a3 >>> 8) &&& 255)), (0, .ref (E.2.1 62)), (1, .int a1), (2, .int a2), (3, .int a3), (4, .int a4), (5, .int a5), (6, .int (iI (s))), (7, .int 10)]) F dX9_feed_81 (by decide) rfl ?_
    refine g_iload F 0 dX9_feed_83 rfl ?_
    refine g_if_eq (tgt := 109) F dX9_feed_85 (by decide) (fun c85 => ?_) (fun c85f => ?_)
    · refine g_iinc (v := 11) (Ln := [(7, .int 11), (8, .int ((a3 >>> 8) &&& 255)), (0, .ref (E.2.1 62)), (1, .int a1), (2, .int a2), (3, .int a3), (4, .int a4), (5, .int a5), (6, .int (iI (s)))]) F 8 dX9_feed_109 rfl (by decide) (by decide) rfl ?_
      refine g_goto (tgt := 62) F dX9_feed_112 (by decide) ?_
      refine g_sub (Ln := [(0, .ref (E.2.1 62)), (1, .int a1), (2, .int a2), (3, .int a3), (4, .int a4), (5, .int a5), (6, .int (iI (s))), (7, .int 11)]) [2, 3, 4, 5, 6, 7, 8, 0] rfl ?_
      exact M11 (by simpa only [List.length_append] using hle) t _ s ht (by simpa only [wb1_0 c85, List.nil_append, List.append_nil] using hq) hf
    · have hlt : t.length < 400 := by rw [wb1_1 c85f] at hlen; simp only [List.length_cons, List.length_nil] at hlen; omega
      refine g_aload_n F 1 dX9_feed_88 rfl rfl ?_
      refine g_getr (j := 1) (nn := 63) F s62 rfl rfl uX9 (by decide) q822 dX9_feed_89 ?_
      refine g_aload_n F 1 dX9_feed_92 rfl rfl ?_
      refine g_geti (j := 2) (v := I1 62 2) F s62 rfl rfl uX9 (by decide) q823 rfl dX9_feed_93 ?_
      refine g_iload F 0 dX9_feed_96 rfl ?_
      refine g_iastI (v := (a3 >>> 8) &&& 255) F (t.length : Int) s63 hn1 (by omega) (by omega) (by decide) rfl dX9_feed_98 ?_
      refine g_aload_n F 1 dX9_feed_99 rfl rfl ?_
      refine g_dup F dX9_feed_100 rfl ?_
      refine g_geti (j := 2) (v := I1 62 2) F s62 rfl rfl uX9 (by decide) q823 rfl dX9_feed_101 ?_
      refine g_iconst (v := 1) F dX9_feed_104 (by decide) ?_
      refine g_iadd (v := iI ((t.length : Int) + 1)) F dX9_feed_105 (iI_add hn1 (by decide)) ?_
      refine g_puti (j := 2) F s62 rfl rfl uX9 (by decide) q823 tyX9_ok nmX9 rfl rfl rfl dX9_feed_106 ?_
      refine g_iinc (v := 11) (Ln := [(7, .int 11), (8, .int ((a3 >>> 8) &&& 255)), (0, .ref (E.2.1 62)), (1, .int a1), (2, .int a2), (3, .int a3), (4, .int a4), (5, .int a5), (6, .int (iI (s)))]) F 8 dX9_feed_109 rfl (by decide) (by decide) rfl ?_
      refine g_goto (tgt := 62) F dX9_feed_112 (by decide) ?_
      refine g_sub (Ln := [(0, .ref (E.2.1 62)), (1, .int a1), (2, .int a2), (3, .int a3), (4, .int a4), (5, .int a5), (6, .int (iI (s))), (7, .int 11)]) [2, 3, 4, 5, 6, 7, 8, 0] rfl ?_
      exact M11 (by simpa only [List.length_append] using hle) (t ++ [(a3 >>> 8) &&& 255]) _ s (TM_push ht (by rw [wb1_1 c85f] at hlen; simp only [List.length_cons, List.length_nil] at hlen; omega)) (by simpa only [wb1_1 c85f, List.append_assoc, List.append_nil] using hq) (fr_up (fr_up hf (Or.inr rfl)) (Or.inl ⟨rfl, rfl⟩))
  have M9 : (t0 ++ bl a1 a2 a3 a4 a5).length ≤ 400 → ∀ (t : List Int32) (I1 : gM) (s : Int), TM t I1 → t ++ (wb1 a3 16 ++ (wb1 a3 8 ++ (wb1 a3 0 ++ (wb1 a4 24 ++ (wb1 a4 16 ++ (wb1 a4 8 ++ (wb1 a4 0 ++ (wb1 a5 24 ++ (wb1 a5 16 ++ (wb1 a5 8 ++ (wb1 a5 0))))))))))) = t0 ++ bl a1 a2 a3 a4 a5 → fr frM I I1 → G z 62 [(0, .ref (E.2.1 62)), (1, .int a1), (2, .int a2), (3, .int a3), (4, .int a4), (5, .int a5), (6, .int (iI s)), (7, .int 9)] [] I1 J := by
    intro hle t I1 s ht hq hf
    have hn1 := ht.2.1
    have hb1 := ht.1
    have hlen := congrArg List.length hq
    simp only [List.length_append] at hlen hle
    refine g_iload F 7 dX9_feed_62 rfl ?_
    refine g_bipush (v := 20) F dX9_feed_64 (by decide) ?_
    refine g_icmp_ge (tgt := 115) F dX9_feed_66 (by decide) (fun h => absurd h (by decide)) (fun _ => ?_)
    refine g_iload_n F 1 dX9_feed_69 rfl rfl ?_
    refine g_iload_n F 2 dX9_feed_70 rfl rfl ?_
    refine g_iload_n F 3 dX9_feed_71 rfl rfl ?_
    refine g_iload F 4 dX9_feed_72 rfl ?_
    refine g_iload F 5 dX9_feed_74 rfl ?_
    refine g_iload F 7 dX9_feed_76 rfl ?_
    refine g_callS (As := [.int a1, .int a2, .int a3, .int a4, .int a5, .int 9]) (rest := []) F (kX9_byteOf_11 (zl z) E hE _ _ a1 a2 a3 a4 a5) mX9_byteOf q916 rfl rfl rfl (Nat.le_of_ble_eq_true rfl) dX9_feed_78 (fun r I12 J12 h12 => ?_)
    obtain ⟨rfl, eh12, fh12⟩ := h12
    refine g_mem eh12 fh12 ?_
    refine g_st (sn := [.int ((a3 >>> 16) &&& 255)]) rfl ?_
    refine g_istore (Ln := [(8, .int ((a3 >>> 16) &&& 255)), (0, .ref (E.2.1 62)), (1, .int a1), (2, .int a2), (3, .int a3), (4, .int a4), (5, .int a5), (6, .int (iI (s))), (7, .int 9)]) F dX9_feed_81 (by decide) rfl ?_
    refine g_iload F 0 dX9_feed_83 rfl ?_
    refine g_if_eq (tgt := 109) F dX9_feed_85 (by decide) (fun c85 => ?_) (fun c85f => ?_)
    · refine g_iinc (v := 10) (Ln := [(7, .int 10), (8, .int ((a3 >>> 16) &&& 255)), (0, .ref (E.2.1 62)), (1, .int a1), (2, .int a2), (3, .int a3), (4, .int a4), (5, .int a5), (6, .int (iI (s)))]) F 8 dX9_feed_109 rfl (by decide) (by decide) rfl ?_
      refine g_goto (tgt := 62) F dX9_feed_112 (by decide) ?_
      refine g_sub (Ln := [(0, .ref (E.2.1 62)), (1, .int a1), (2, .int a2), (3, .int a3), (4, .int a4), (5, .int a5), (6, .int (iI (s))), (7, .int 10)]) [2, 3, 4, 5, 6, 7, 8, 0] rfl ?_
      exact M10 (by simpa only [List.length_append] using hle) t _ s ht (by simpa only [wb1_0 c85, List.nil_append, List.append_nil] using hq) hf
    · have hlt : t.length < 400 := by rw [wb1_1 c85f] at hlen; simp only [List.length_cons, List.length_nil] at hlen; omega
      refine g_aload_n F 1 dX9_feed_88 rfl rfl ?_
      refine g_getr (j := 1) (nn := 63) F s62 rfl rfl uX9 (by decide) q822 dX9_feed_89 ?_
      refine g_aload_n F 1 dX9_feed_92 rfl rfl ?_
      refine g_geti (j := 2) (v := I1 62 2) F s62 rfl rfl uX9 (by decide) q823 rfl dX9_feed_93 ?_
      refine g_iload F 0 dX9_feed_96 rfl ?_
      refine g_iastI (v := (a3 >>> 16) &&& 255) F (t.length : Int) s63 hn1 (by omega) (by omega) (by decide) rfl dX9_feed_98 ?_
      refine g_aload_n F 1 dX9_feed_99 rfl rfl ?_
      refine g_dup F dX9_feed_100 rfl ?_
      refine g_geti (j := 2) (v := I1 62 2) F s62 rfl rfl uX9 (by decide) q823 rfl dX9_feed_101 ?_
      refine g_iconst (v := 1) F dX9_feed_104 (by decide) ?_
      refine g_iadd (v := iI ((t.length : Int) + 1)) F dX9_feed_105 (iI_add hn1 (by decide)) ?_
      refine g_puti (j := 2) F s62 rfl rfl uX9 (by decide) q823 tyX9_ok nmX9 rfl rfl rfl dX9_feed_106 ?_
      refine g_iinc (v := 10) (Ln := [(7, .int 10), (8, .int ((a3 >>> 16) &&& 255)), (0, .ref (E.2.1 62)), (1, .int a1), (2, .int a2), (3, .int a3), (4, .int a4), (5, .int a5), (6, .int (iI (s)))]) F 8 dX9_feed_109 rfl (by decide) (by decide) rfl ?_
      refine g_goto (tgt := 62) F dX9_feed_112 (by decide) ?_
      refine g_sub (Ln := [(0, .ref (E.2.1 62)), (1, .int a1), (2, .int a2), (3, .int a3), (4, .int a4), (5, .int a5), (6, .int (iI (s))), (7, .int 10)]) [2, 3, 4, 5, 6, 7, 8, 0] rfl ?_
      exact M10 (by simpa only [List.length_append] using hle) (t ++ [(a3 >>> 16) &&& 255]) _ s (TM_push ht (by rw [wb1_1 c85f] at hlen; simp only [List.length_cons, List.length_nil] at hlen; omega)) (by simpa only [wb1_1 c85f, List.append_assoc, List.append_nil] using hq) (fr_up (fr_up hf (Or.inr rfl)) (Or.inl ⟨rfl, rfl⟩))
  have M8 : (t0 ++ bl a1 a2 a3 a4 a5).length ≤ 400 → ∀ (t : List Int32) (I1 : gM) (s : Int), TM t I1 → t ++ (wb1 a3 24 ++ (wb1 a3 16 ++ (wb1 a3 8 ++ (wb1 a3 0 ++ (wb1 a4 24 ++ (wb1 a4 16 ++ (wb1 a4 8 ++ (wb1 a4 0 ++ (wb1 a5 24 ++ (wb1 a5 16 ++ (wb1 a5 8 ++ (wb1 a5 0)))))))))))) = t0 ++ bl a1 a2 a3 a4 a5 → fr frM I I1 → G z 62 [(0, .ref (E.2.1 62)), (1, .int a1), (2, .int a2), (3, .int a3), (4, .int a4), (5, .int a5), (6, .int (iI s)), (7, .int 8)] [] I1 J := by
    intro hle t I1 s ht hq hf
    have hn1 := ht.2.1
    have hb1 := ht.1
    have hlen := congrArg List.length hq
    simp only [List.length_append] at hlen hle
    refine g_iload F 7 dX9_feed_62 rfl ?_
    refine g_bipush (v := 20) F dX9_feed_64 (by decide) ?_
    refine g_icmp_ge (tgt := 115) F dX9_feed_66 (by decide) (fun h => absurd h (by decide)) (fun _ => ?_)
    refine g_iload_n F 1 dX9_feed_69 rfl rfl ?_
    refine g_iload_n F 2 dX9_feed_70 rfl rfl ?_
    refine g_iload_n F 3 dX9_feed_71 rfl rfl ?_
    refine g_iload F 4 dX9_feed_72 rfl ?_
    refine g_iload F 5 dX9_feed_74 rfl ?_
    refine g_iload F 7 dX9_feed_76 rfl ?_
    refine g_callS (As := [.int a1, .int a2, .int a3, .int a4, .int a5, .int 8]) (rest := []) F (kX9_byteOf_12 (zl z) E hE _ _ a1 a2 a3 a4 a5) mX9_byteOf q916 rfl rfl rfl (Nat.le_of_ble_eq_true rfl) dX9_feed_78 (fun r I13 J13 h13 => ?_)
    obtain ⟨rfl, eh13, fh13⟩ := h13
    refine g_mem eh13 fh13 ?_
    refine g_st (sn := [.int ((a3 >>> 24) &&& 255)]) rfl ?_
    refine g_istore (Ln := [(8, .int ((a3 >>> 24) &&& 255)), (0, .ref (E.2.1 62)), (1, .int a1), (2, .int a2), (3, .int a3), (4, .int a4), (5, .int a5), (6, .int (iI (s))), (7, .int 8)]) F dX9_feed_81 (by decide) rfl ?_
    refine g_iload F 0 dX9_feed_83 rfl ?_
    refine g_if_eq (tgt := 109) F dX9_feed_85 (by decide) (fun c85 => ?_) (fun c85f => ?_)
    · refine g_iinc (v := 9) (Ln := [(7, .int 9), (8, .int ((a3 >>> 24) &&& 255)), (0, .ref (E.2.1 62)), (1, .int a1), (2, .int a2), (3, .int a3), (4, .int a4), (5, .int a5), (6, .int (iI (s)))]) F 8 dX9_feed_109 rfl (by decide) (by decide) rfl ?_
      refine g_goto (tgt := 62) F dX9_feed_112 (by decide) ?_
      refine g_sub (Ln := [(0, .ref (E.2.1 62)), (1, .int a1), (2, .int a2), (3, .int a3), (4, .int a4), (5, .int a5), (6, .int (iI (s))), (7, .int 9)]) [2, 3, 4, 5, 6, 7, 8, 0] rfl ?_
      exact M9 (by simpa only [List.length_append] using hle) t _ s ht (by simpa only [wb1_0 c85, List.nil_append, List.append_nil] using hq) hf
    · have hlt : t.length < 400 := by rw [wb1_1 c85f] at hlen; simp only [List.length_cons, List.length_nil] at hlen; omega
      refine g_aload_n F 1 dX9_feed_88 rfl rfl ?_
      refine g_getr (j := 1) (nn := 63) F s62 rfl rfl uX9 (by decide) q822 dX9_feed_89 ?_
      refine g_aload_n F 1 dX9_feed_92 rfl rfl ?_
      refine g_geti (j := 2) (v := I1 62 2) F s62 rfl rfl uX9 (by decide) q823 rfl dX9_feed_93 ?_
      refine g_iload F 0 dX9_feed_96 rfl ?_
      refine g_iastI (v := (a3 >>> 24) &&& 255) F (t.length : Int) s63 hn1 (by omega) (by omega) (by decide) rfl dX9_feed_98 ?_
      refine g_aload_n F 1 dX9_feed_99 rfl rfl ?_
      refine g_dup F dX9_feed_100 rfl ?_
      refine g_geti (j := 2) (v := I1 62 2) F s62 rfl rfl uX9 (by decide) q823 rfl dX9_feed_101 ?_
      refine g_iconst (v := 1) F dX9_feed_104 (by decide) ?_
      refine g_iadd (v := iI ((t.length : Int) + 1)) F dX9_feed_105 (iI_add hn1 (by decide)) ?_
      refine g_puti (j := 2) F s62 rfl rfl uX9 (by decide) q823 tyX9_ok nmX9 rfl rfl rfl dX9_feed_106 ?_
      refine g_iinc (v := 9) (Ln := [(7, .int 9), (8, .int ((a3 >>> 24) &&& 255)), (0, .ref (E.2.1 62)), (1, .int a1), (2, .int a2), (3, .int a3), (4, .int a4), (5, .int a5), (6, .int (iI (s)))]) F 8 dX9_feed_109 rfl (by decide) (by decide) rfl ?_
      refine g_goto (tgt := 62) F dX9_feed_112 (by decide) ?_
      refine g_sub (Ln := [(0, .ref (E.2.1 62)), (1, .int a1), (2, .int a2), (3, .int a3), (4, .int a4), (5, .int a5), (6, .int (iI (s))), (7, .int 9)]) [2, 3, 4, 5, 6, 7, 8, 0] rfl ?_
      exact M9 (by simpa only [List.length_append] using hle) (t ++ [(a3 >>> 24) &&& 255]) _ s (TM_push ht (by rw [wb1_1 c85f] at hlen; simp only [List.length_cons, List.length_nil] at hlen; omega)) (by simpa only [wb1_1 c85f, List.append_assoc, List.append_nil] using hq) (fr_up (fr_up hf (Or.inr rfl)) (Or.inl ⟨rfl, rfl⟩))
  have M7 : (t0 ++ bl a1 a2 a3 a4 a5).length ≤ 400 → ∀ (t : List Int32) (I1 : gM) (s : Int), TM t I1 → t ++ (wb1 a2 0 ++ (wb1 a3 24 ++ (wb1 a3 16 ++ (wb1 a3 8 ++ (wb1 a3 0 ++ (wb1 a4 24 ++ (wb1 a4 16 ++ (wb1 a4 8 ++ (wb1 a4 0 ++ (wb1 a5 24 ++ (wb1 a5 16 ++ (wb1 a5 8 ++ (wb1 a5 0))))))))))))) = t0 ++ bl a1 a2 a3 a4 a5 → fr frM I I1 → G z 62 [(0, .ref (E.2.1 62)), (1, .int a1), (2, .int a2), (3, .int a3), (4, .int a4), (5, .int a5), (6, .int (iI s)), (7, .int 7)] [] I1 J := by
    intro hle t I1 s ht hq hf
    have hn1 := ht.2.1
    have hb1 := ht.1
    have hlen := congrArg List.length hq
    simp only [List.length_append] at hlen hle
    refine g_iload F 7 dX9_feed_62 rfl ?_
    refine g_bipush (v := 20) F dX9_feed_64 (by decide) ?_
    refine g_icmp_ge (tgt := 115) F dX9_feed_66 (by decide) (fun h => absurd h (by decide)) (fun _ => ?_)
    refine g_iload_n F 1 dX9_feed_69 rfl rfl ?_
    refine g_iload_n F 2 dX9_feed_70 rfl rfl ?_
    refine g_iload_n F 3 dX9_feed_71 rfl rfl ?_
    refine g_iload F 4 dX9_feed_72 rfl ?_
    refine g_iload F 5 dX9_feed_74 rfl ?_
    refine g_iload F 7 dX9_feed_76 rfl ?_
    refine g_callS (As := [.int a1, .int a2, .int a3, .int a4, .int a5, .int 7]) (rest := []) F (kX9_byteOf_13 (zl z) E hE _ _ a1 a2 a3 a4 a5) mX9_byteOf q916 rfl rfl rfl (Nat.le_of_ble_eq_true rfl) dX9_feed_78 (fun r I14 J14 h14 => ?_)
    obtain ⟨rfl, eh14, fh14⟩ := h14
    refine g_mem eh14 fh14 ?_
    refine g_st (sn := [.int ((a2 >>> 0) &&& 255)]) rfl ?_
    refine g_istore (Ln := [(8, .int ((a2 >>> 0) &&& 255)), (0, .ref (E.2.1 62)), (1, .int a1), (2, .int a2), (3, .int a3), (4, .int a4), (5, .int a5), (6, .int (iI (s))), (7, .int 7)]) F dX9_feed_81 (by decide) rfl ?_
    refine g_iload F 0 dX9_feed_83 rfl ?_
    refine g_if_eq (tgt := 109) F dX9_feed_85 (by decide) (fun c85 => ?_) (fun c85f => ?_)
    · refine g_iinc (v := 8) (Ln := [(7, .int 8), (8, .int ((a2 >>> 0) &&& 255)), (0, .ref (E.2.1 62)), (1, .int a1), (2, .int a2), (3, .int a3), (4, .int a4), (5, .int a5), (6, .int (iI (s)))]) F 8 dX9_feed_109 rfl (by decide) (by decide) rfl ?_
      refine g_goto (tgt := 62) F dX9_feed_112 (by decide) ?_
      refine g_sub (Ln := [(0, .ref (E.2.1 62)), (1, .int a1), (2, .int a2), (3, .int a3), (4, .int a4), (5, .int a5), (6, .int (iI (s))), (7, .int 8)]) [2, 3, 4, 5, 6, 7, 8, 0] rfl ?_
      exact M8 (by simpa only [List.length_append] using hle) t _ s ht (by simpa only [wb1_0 c85, List.nil_append, List.append_nil] using hq) hf
    · have hlt : t.length < 400 := by rw [wb1_1 c85f] at hlen; simp only [List.length_cons, List.length_nil] at hlen; omega
      refine g_aload_n F 1 dX9_feed_88 rfl rfl ?_
      refine g_getr (j := 1) (nn := 63) F s62 rfl rfl uX9 (by decide) q822 dX9_feed_89 ?_
      refine g_aload_n F 1 dX9_feed_92 rfl rfl ?_
      refine g_geti (j := 2) (v := I1 62 2) F s62 rfl rfl uX9 (by decide) q823 rfl dX9_feed_93 ?_
      refine g_iload F 0 dX9_feed_96 rfl ?_
      refine g_iastI (v := (a2 >>> 0) &&& 255) F (t.length : Int) s63 hn1 (by omega) (by omega) (by decide) rfl dX9_feed_98 ?_
      refine g_aload_n F 1 dX9_feed_99 rfl rfl ?_
      refine g_dup F dX9_feed_100 rfl ?_
      refine g_geti (j := 2) (v := I1 62 2) F s62 rfl rfl uX9 (by decide) q823 rfl dX9_feed_101 ?_
      refine g_iconst (v := 1) F dX9_feed_104 (by decide) ?_
      refine g_iadd (v := iI ((t.length : Int) + 1)) F dX9_feed_105 (iI_add hn1 (by decide)) ?_
      refine g_puti (j := 2) F s62 rfl rfl uX9 (by decide) q823 tyX9_ok nmX9 rfl rfl rfl dX9_feed_106 ?_
      refine g_iinc (v := 8) (Ln := [(7, .int 8), (8, .int ((a2 >>> 0) &&& 255)), (0, .ref (E.2.1 62)), (1, .int a1), (2, .int a2), (3, .int a3), (4, .int a4), (5, .int a5), (6, .int (iI (s)))]) F 8 dX9_feed_109 rfl (by decide) (by decide) rfl ?_
      refine g_goto (tgt := 62) F dX9_feed_112 (by decide) ?_
      refine g_sub (Ln := [(0, .ref (E.2.1 62)), (1, .int a1), (2, .int a2), (3, .int a3), (4, .int a4), (5, .int a5), (6, .int (iI (s))), (7, .int 8)]) [2, 3, 4, 5, 6, 7, 8, 0] rfl ?_
      exact M8 (by simpa only [List.length_append] using hle) (t ++ [(a2 >>> 0) &&& 255]) _ s (TM_push ht (by rw [wb1_1 c85f] at hlen; simp only [List.length_cons, List.length_nil] at hlen; omega)) (by simpa only [wb1_1 c85f, List.append_assoc, List.append_nil] using hq) (fr_up (fr_up hf (Or.inr rfl)) (Or.inl ⟨rfl, rfl⟩))
  have M6 : (t0 ++ bl a1 a2 a3 a4 a5).length ≤ 400 → ∀ (t : List Int32) (I1 : gM) (s : Int), TM t I1 → t ++ (wb1 a2 8 ++ (wb1 a2 0 ++ (wb1 a3 24 ++ (wb1 a3 16 ++ (wb1 a3 8 ++ (wb1 a3 0 ++ (wb1 a4 24 ++ (wb1 a4 16 ++ (wb1 a4 8 ++ (wb1 a4 0 ++ (wb1 a5 24 ++ (wb1 a5 16 ++ (wb1 a5 8 ++ (wb1 a5 0)))))))))))))) = t0 ++ bl a1 a2 a3 a4 a5 → fr frM I I1 → G z 62 [(0, .ref (E.2.1 62)), (1, .int a1), (2, .int a2), (3, .int a3), (4, .int a4), (5, .int a5), (6, .int (iI s)), (7, .int 6)] [] I1 J := by
    intro hle t I1 s ht hq hf
    have hn1 := ht.2.1
    have hb1 := ht.1
    have hlen := congrArg List.length hq
    simp only [List.length_append] at hlen hle
    refine g_iload F 7 dX9_feed_62 rfl ?_
    refine g_bipush (v := 20) F dX9_feed_64 (by decide) ?_
    refine g_icmp_ge (tgt := 115) F dX9_feed_66 (by decide) (fun h => absurd h (by decide)) (fun _ => ?_)
    refine g_iload_n F 1 dX9_feed_69 rfl rfl ?_
    refine g_iload_n F 2 dX9_feed_70 rfl rfl ?_
    refine g_iload_n F 3 dX9_feed_71 rfl rfl ?_
    refine g_iload F 4 dX9_feed_72 rfl ?_
    refine g_iload F 5 dX9_feed_74 rfl ?_
    refine g_iload F 7 dX9_feed_76 rfl ?_
    refine g_callS (As := [.int a1, .int a2, .int a3, .int a4, .int a5, .int 6]) (rest := []) F (kX9_byteOf_14 (zl z) E hE _ _ a1 a2 a3 a4 a5) mX9_byteOf q916 rfl rfl rfl (Nat.le_of_ble_eq_true rfl) dX9_feed_78 (fun r I15 J15 h15 => ?_)
    obtain ⟨rfl, eh15, fh15⟩ := h15
    refine g_mem eh15 fh15 ?_
    refine g_st (sn := [.int ((a2 >>> 8) &&& 255)]) rfl ?_
    refine g_istore (Ln := [(8, .int ((a2 >>> 8) &&& 255)), (0, .ref (E.2.1 62)), (1, .int a1), (2, .int a2), (3, .int a3), (4, .int a4), (5, .int a5), (6, .int (iI (s))), (7, .int 6)]) F dX9_feed_81 (by decide) rfl ?_
    refine g_iload F 0 dX9_feed_83 rfl ?_
    refine g_if_eq (tgt := 109) F dX9_feed_85 (by decide) (fun c85 => ?_) (fun c85f => ?_)
    · refine g_iinc (v := 7) (Ln := [(7, .int 7), (8, .int ((a2 >>> 8) &&& 255)), (0, .ref (E.2.1 62)), (1, .int a1), (2, .int a2), (3, .int a3), (4, .int a4), (5, .int a5), (6, .int (iI (s)))]) F 8 dX9_feed_109 rfl (by decide) (by decide) rfl ?_
      refine g_goto (tgt := 62) F dX9_feed_112 (by decide) ?_
      refine g_sub (Ln := [(0, .ref (E.2.1 62)), (1, .int a1), (2, .int a2), (3, .int a3), (4, .int a4), (5, .int a5), (6, .int (iI (s))), (7, .int 7)]) [2, 3, 4, 5, 6, 7, 8, 0] rfl ?_
      exact M7 (by simpa only [List.length_append] using hle) t _ s ht (by simpa only [wb1_0 c85, List.nil_append, List.append_nil] using hq) hf
    · have hlt : t.length < 400 := by rw [wb1_1 c85f] at hlen; simp only [List.length_cons, List.length_nil] at hlen; omega
      refine g_aload_n F 1 dX9_feed_88 rfl rfl ?_
      refine g_getr (j := 1) (nn := 63) F s62 rfl rfl uX9 (by decide) q822 dX9_feed_89 ?_
      refine g_aload_n F 1 dX9_feed_92 rfl rfl ?_
      refine g_geti (j := 2) (v := I1 62 2) F s62 rfl rfl uX9 (by decide) q823 rfl dX9_feed_93 ?_
      refine g_iload F 0 dX9_feed_96 rfl ?_
      refine g_iastI (v := (a2 >>> 8) &&& 255) F (t.length : Int) s63 hn1 (by omega) (by omega) (by decide) rfl dX9_feed_98 ?_
      refine g_aload_n F 1 dX9_feed_99 rfl rfl ?_
      refine g_dup F dX9_feed_100 rfl ?_
      refine g_geti (j := 2) (v := I1 62 2) F s62 rfl rfl uX9 (by decide) q823 rfl dX9_feed_101 ?_
      refine g_iconst (v := 1) F dX9_feed_104 (by decide) ?_
      refine g_iadd (v := iI ((t.length : Int) + 1)) F dX9_feed_105 (iI_add hn1 (by decide)) ?_
      refine g_puti (j := 2) F s62 rfl rfl uX9 (by decide) q823 tyX9_ok nmX9 rfl rfl rfl dX9_feed_106 ?_
      refine g_iinc (v := 7) (Ln := [(7, .int 7), (8, .int ((a2 >>> 8) &&& 255)), (0, .ref (E.2.1 62)), (1, .int a1), (2, .int a2), (3, .int a3), (4, .int a4), (5, .int a5), (6, .int (iI (s)))]) F 8 dX9_feed_109 rfl (by decide) (by decide) rfl ?_
      refine g_goto (tgt := 62) F dX9_feed_112 (by decide) ?_
      refine g_sub (Ln := [(0, .ref (E.2.1 62)), (1, .int a1), (2, .int a2), (3, .int a3), (4, .int a4), (5, .int a5), (6, .int (iI (s))), (7, .int 7)]) [2, 3, 4, 5, 6, 7, 8, 0] rfl ?_
      exact M7 (by simpa only [List.length_append] using hle) (t ++ [(a2 >>> 8) &&& 255]) _ s (TM_push ht (by rw [wb1_1 c85f] at hlen; simp only [List.length_cons, List.length_nil] at hlen; omega)) (by simpa only [wb1_1 c85f, List.append_assoc, List.append_nil] using hq) (fr_up (fr_up hf (Or.inr rfl)) (Or.inl ⟨rfl, rfl⟩))
  have M5 : (t0 ++ bl a1 a2 a3 a4 a5).length ≤ 400 → ∀ (t : List Int32) (I1 : gM) (s : Int), TM t I1 → t ++ (wb1 a2 16 ++ (wb1 a2 8 ++ (wb1 a2 0 ++ (wb1 a3 24 ++ (wb1 a3 16 ++ (wb1 a3 8 ++ (wb1 a3 0 ++ (wb1 a4 24 ++ (wb1 a4 16 ++ (wb1 a4 8 ++ (wb1 a4 0 ++ (wb1 a5 24 ++ (wb1 a5 16 ++ (wb1 a5 8 ++ (wb1 a5 0))))))))))))))) = t0 ++ bl a1 a2 a3 a4 a5 → fr frM I I1 → G z 62 [(0, .ref (E.2.1 62)), (1, .int a1), (2, .int a2), (3, .int a3), (4, .int a4), (5, .int a5), (6, .int (iI s)), (7, .int 5)] [] I1 J := by
    intro hle t I1 s ht hq hf
    have hn1 := ht.2.1
    have hb1 := ht.1
    have hlen := congrArg List.length hq
    simp only [List.length_append] at hlen hle
    refine g_iload F 7 dX9_feed_62 rfl ?_
    refine g_bipush (v := 20) F dX9_feed_64 (by decide) ?_
    refine g_icmp_ge (tgt := 115) F dX9_feed_66 (by decide) (fun h => absurd h (by decide)) (fun _ => ?_)
    refine g_iload_n F 1 dX9_feed_69 rfl rfl ?_
    refine g_iload_n F 2 dX9_feed_70 rfl rfl ?_
    refine g_iload_n F 3 dX9_feed_71 rfl rfl ?_
    refine g_iload F 4 dX9_feed_72 rfl ?_
    refine g_iload F 5 dX9_feed_74 rfl ?_
    refine g_iload F 7 dX9_feed_76 rfl ?_
    refine g_callS (As := [.int a1, .int a2, .int a3, .int a4, .int a5, .int 5]) (rest := []) F (kX9_byteOf_15 (zl z) E hE _ _ a1 a2 a3 a4 a5) mX9_byteOf q916 rfl rfl rfl (Nat.le_of_ble_eq_true rfl) dX9_feed_78 (fun r I16 J16 h16 => ?_)
    obtain ⟨rfl, eh16, fh16⟩ := h16
    refine g_mem eh16 fh16 ?_
    refine g_st (sn := [.int ((a2 >>> 16) &&& 255)]) rfl ?_
    refine g_istore (Ln := [(8, .int ((a2 >>> 16) &&& 255)), (0, .ref (E.2.1 62)), (1, .int a1), (2, .int a2), (3, .int a3), (4, .int a4), (5, .int a5), (6, .int (iI (s))), (7, .int 5)]) F dX9_feed_81 (by decide) rfl ?_
    refine g_iload F 0 dX9_feed_83 rfl ?_
    refine g_if_eq (tgt := 109) F dX9_feed_85 (by decide) (fun c85 => ?_) (fun c85f => ?_)
    · refine g_iinc (v := 6) (Ln := [(7, .int 6), (8, .int ((a2 >>> 16) &&& 255)), (0, .ref (E.2.1 62)), (1, .int a1), (2, .int a2), (3, .int a3), (4, .int a4), (5, .int a5), (6, .int (iI (s)))]) F 8 dX9_feed_109 rfl (by decide) (by decide) rfl ?_
      refine g_goto (tgt := 62) F dX9_feed_112 (by decide) ?_
      refine g_sub (Ln := [(0, .ref (E.2.1 62)), (1, .int a1), (2, .int a2), (3, .int a3), (4, .int a4), (5, .int a5), (6, .int (iI (s))), (7, .int 6)]) [2, 3, 4, 5, 6, 7, 8, 0] rfl ?_
      exact M6 (by simpa only [List.length_append] using hle) t _ s ht (by simpa only [wb1_0 c85, List.nil_append, List.append_nil] using hq) hf
    · have hlt : t.length < 400 := by rw [wb1_1 c85f] at hlen; simp only [List.length_cons, List.length_nil] at hlen; omega
      refine g_aload_n F 1 dX9_feed_88 rfl rfl ?_
      refine g_getr (j := 1) (nn := 63) F s62 rfl rfl uX9 (by decide) q822 dX9_feed_89 ?_
      refine g_aload_n F 1 dX9_feed_92 rfl rfl ?_
      refine g_geti (j := 2) (v := I1 62 2) F s62 rfl rfl uX9 (by decide) q823 rfl dX9_feed_93 ?_
      refine g_iload F 0 dX9_feed_96 rfl ?_
      refine g_iastI (v := (a2 >>> 16) &&& 255) F (t.length : Int) s63 hn1 (by omega) (by omega) (by decide) rfl dX9_feed_98 ?_
      refine g_aload_n F 1 dX9_feed_99 rfl rfl ?_
      refine g_dup F dX9_feed_100 rfl ?_
      refine g_geti (j := 2) (v := I1 62 2) F s62 rfl rfl uX9 (by decide) q823 rfl dX9_feed_101 ?_
      refine g_iconst (v := 1) F dX9_feed_104 (by decide) ?_
      refine g_iadd (v := iI ((t.length : Int) + 1)) F dX9_feed_105 (iI_add hn1 (by decide)) ?_
      refine g_puti (j := 2) F s62 rfl rfl uX9 (by decide) q823 tyX9_ok nmX9 rfl rfl rfl dX9_feed_106 ?_
      refine g_iinc (v := 6) (Ln := [(7, .int 6), (8, .int ((a2 >>> 16) &&& 255)), (0, .ref (E.2.1 62)), (1, .int a1), (2, .int a2), (3, .int a3), (4, .int a4), (5, .int a5), (6, .int (iI (s)))]) F 8 dX9_feed_109 rfl (by decide) (by decide) rfl ?_
      refine g_goto (tgt := 62) F dX9_feed_112 (by decide) ?_
      refine g_sub (Ln := [(0, .ref (E.2.1 62)), (1, .int a1), (2, .int a2), (3, .int a3), (4, .int a4), (5, .int a5), (6, .int (iI (s))), (7, .int 6)]) [2, 3, 4, 5, 6, 7, 8, 0] rfl ?_
      exact M6 (by simpa only [List.length_append] using hle) (t ++ [(a2 >>> 16) &&& 255]) _ s (TM_push ht (by rw [wb1_1 c85f] at hlen; simp only [List.length_cons, List.length_nil] at hlen; omega)) (by simpa only [wb1_1 c85f, List.append_assoc, List.append_nil] using hq) (fr_up (fr_up hf (Or.inr rfl)) (Or.inl ⟨rfl, rfl⟩))
  have M4 : (t0 ++ bl a1 a2 a3 a4 a5).length ≤ 400 → ∀ (t : List Int32) (I1 : gM) (s : Int), TM t I1 → t ++ (wb1 a2 24 ++ (wb1 a2 16 ++ (wb1 a2 8 ++ (wb1 a2 0 ++ (wb1 a3 24 ++ (wb1 a3 16 ++ (wb1 a3 8 ++ (wb1 a3 0 ++ (wb1 a4 24 ++ (wb1 a4 16 ++ (wb1 a4 8 ++ (wb1 a4 0 ++ (wb1 a5 24 ++ (wb1 a5 16 ++ (wb1 a5 8 ++ (wb1 a5 0)))))))))))))))) = t0 ++ bl a1 a2 a3 a4 a5 → fr frM I I1 → G z 62 [(0, .ref (E.2.1 62)), (1, .int a1), (2, .int a2), (3, .int a3), (4, .int a4), (5, .int a5), (6, .int (iI s)), (7, .int 4)] [] I1 J := by
    intro hle t I1 s ht hq hf
    have hn1 := ht.2.1
    have hb1 := ht.1
    have hlen := congrArg List.length hq
    simp only [List.length_append] at hlen hle
    refine g_iload F 7 dX9_feed_62 rfl ?_
    refine g_bipush (v := 20) F dX9_feed_64 (by decide) ?_
    refine g_icmp_ge (tgt := 115) F dX9_feed_66 (by decide) (fun h => absurd h (by decide)) (fun _ => ?_)
    refine g_iload_n F 1 dX9_feed_69 rfl rfl ?_
    refine g_iload_n F 2 dX9_feed_70 rfl rfl ?_
    refine g_iload_n F 3 dX9_feed_71 rfl rfl ?_
    refine g_iload F 4 dX9_feed_72 rfl ?_
    refine g_iload F 5 dX9_feed_74 rfl ?_
    refine g_iload F 7 dX9_feed_76 rfl ?_
    refine g_callS (As := [.int a1, .int a2, .int a3, .int a4, .int a5, .int 4]) (rest := []) F (kX9_byteOf_16 (zl z) E hE _ _ a1 a2 a3 a4 a5) mX9_byteOf q916 rfl rfl rfl (Nat.le_of_ble_eq_true rfl) dX9_feed_78 (fun r I17 J17 h17 => ?_)
    obtain ⟨rfl, eh17, fh17⟩ := h17
    refine g_mem eh17 fh17 ?_
    refine g_st (sn := [.int ((a2 >>> 24) &&& 255)]) rfl ?_
    refine g_istore (Ln := [(8, .int ((a2 >>> 24) &&& 255)), (0, .ref (E.2.1 62)), (1, .int a1), (2, .int a2), (3, .int a3), (4, .int a4), (5, .int a5), (6, .int (iI (s))), (7, .int 4)]) F dX9_feed_81 (by decide) rfl ?_
    refine g_iload F 0 dX9_feed_83 rfl ?_
    refine g_if_eq (tgt := 109) F dX9_feed_85 (by decide) (fun c85 => ?_) (fun c85f => ?_)
    · refine g_iinc (v := 5) (Ln := [(7, .int 5), (8, .int ((a2 >>> 24) &&& 255)), (0, .ref (E.2.1 62)), (1, .int a1), (2, .int a2), (3, .int a3), (4, .int a4), (5, .int a5), (6, .int (iI (s)))]) F 8 dX9_feed_109 rfl (by decide) (by decide) rfl ?_
      refine g_goto (tgt := 62) F dX9_feed_112 (by decide) ?_
      refine g_sub (Ln := [(0, .ref (E.2.1 62)), (1, .int a1), (2, .int a2), (3, .int a3), (4, .int a4), (5, .int a5), (6, .int (iI (s))), (7, .int 5)]) [2, 3, 4, 5, 6, 7, 8, 0] rfl ?_
      exact M5 (by simpa only [List.length_append] using hle) t _ s ht (by simpa only [wb1_0 c85, List.nil_append, List.append_nil] using hq) hf
    · have hlt : t.length < 400 := by rw [wb1_1 c85f] at hlen; simp only [List.length_cons, List.length_nil] at hlen; omega
      refine g_aload_n F 1 dX9_feed_88 rfl rfl ?_
      refine g_getr (j := 1) (nn := 63) F s62 rfl rfl uX9 (by decide) q822 dX9_feed_89 ?_
      refine g_aload_n F 1 dX9_feed_92 rfl rfl ?_
      refine g_geti (j := 2) (v := I1 62 2) F s62 rfl rfl uX9 (by decide) q823 rfl dX9_feed_93 ?_
      refine g_iload F 0 dX9_feed_96 rfl ?_
      refine g_iastI (v := (a2 >>> 24) &&& 255) F (t.length : Int) s63 hn1 (by omega) (by omega) (by decide) rfl dX9_feed_98 ?_
      refine g_aload_n F 1 dX9_feed_99 rfl rfl ?_
      refine g_dup F dX9_feed_100 rfl ?_
      refine g_geti (j := 2) (v := I1 62 2) F s62 rfl rfl uX9 (by decide) q823 rfl dX9_feed_101 ?_
      refine g_iconst (v := 1) F dX9_feed_104 (by decide) ?_
      refine g_iadd (v := iI ((t.length : Int) + 1)) F dX9_feed_105 (iI_add hn1 (by decide)) ?_
      refine g_puti (j := 2) F s62 rfl rfl uX9 (by decide) q823 tyX9_ok nmX9 rfl rfl rfl dX9_feed_106 ?_
      refine g_iinc (v := 5) (Ln := [(7, .int 5), (8, .int ((a2 >>> 24) &&& 255)), (0, .ref (E.2.1 62)), (1, .int a1), (2, .int a2), (3, .int a3), (4, .int a4), (5, .int a5), (6, .int (iI (s)))]) F 8 dX9_feed_109 rfl (by decide) (by decide) rfl ?_
      refine g_goto (tgt := 62) F dX9_feed_112 (by decide) ?_
      refine g_sub (Ln := [(0, .ref (E.2.1 62)), (1, .int a1), (2, .int a2), (3, .int a3), (4, .int a4), (5, .int a5), (6, .int (iI (s))), (7, .int 5)]) [2, 3, 4, 5, 6, 7, 8, 0] rfl ?_
      exact M5 (by simpa only [List.length_append] using hle) (t ++ [(a2 >>> 24) &&& 255]) _ s (TM_push ht (by rw [wb1_1 c85f] at hlen; simp only [List.length_cons, List.length_nil] at hlen; omega)) (by simpa only [wb1_1 c85f, List.append_assoc, List.append_nil] using hq) (fr_up (fr_up hf (Or.inr rfl)) (Or.inl ⟨rfl, rfl⟩))
  have M3 : (t0 ++ bl a1 a2 a3 a4 a5).length ≤ 400 → ∀ (t : List Int32) (I1 : gM) (s : Int), TM t I1 → t ++ (wb1 a1 0 ++ (wb1 a2 24 ++ (wb1 a2 16 ++ (wb1 a2 8 ++ (wb1 a2 0 ++ (wb1 a3 24 ++ (wb1 a3 16 ++ (wb1 a3 8 ++ (wb1 a3 0 ++ (wb1 a4 24 ++ (wb1 a4 16 ++ (wb1 a4 8 ++ (wb1 a4 0 ++ (wb1 a5 24 ++ (wb1 a5 16 ++ (wb1 a5 8 ++ (wb1 a5 0))))))))))))))))) = t0 ++ bl a1 a2 a3 a4 a5 → fr frM I I1 → G z 62 [(0, .ref (E.2.1 62)), (1, .int a1), (2, .int a2), (3, .int a3), (4, .int a4), (5, .int a5), (6, .int (iI s)), (7, .int 3)] [] I1 J := by
    intro hle t I1 s ht hq hf
    have hn1 := ht.2.1
    have hb1 := ht.1
    have hlen := congrArg List.length hq
    simp only [List.length_append] at hlen hle
    refine g_iload F 7 dX9_feed_62 rfl ?_
    refine g_bipush (v := 20) F dX9_feed_64 (by decide) ?_
    refine g_icmp_ge (tgt := 115) F dX9_feed_66 (by decide) (fun h => absurd h (by decide)) (fun _ => ?_)
    refine g_iload_n F 1 dX9_feed_69 rfl rfl ?_
    refine g_iload_n F 2 dX9_feed_70 rfl rfl ?_
    refine g_iload_n F 3 dX9_feed_71 rfl rfl ?_
    refine g_iload F 4 dX9_feed_72 rfl ?_
    refine g_iload F 5 dX9_feed_74 rfl ?_
    refine g_iload F 7 dX9_feed_76 rfl ?_
    refine g_callS (As := [.int a1, .int a2, .int a3, .int a4, .int a5, .int 3]) (rest := []) F (kX9_byteOf_17 (zl z) E hE _ _ a1 a2 a3 a4 a5) mX9_byteOf q916 rfl rfl rfl (Nat.le_of_ble_eq_true rfl) dX9_feed_78 (fun r I18 J18 h18 => ?_)
    obtain ⟨rfl, eh18, fh18⟩ := h18
    refine g_mem eh18 fh18 ?_
    refine g_st (sn := [.int ((a1 >>> 0) &&& 255)]) rfl ?_
    refine g_istore (Ln := [(8, .int ((a1 >>> 0) &&& 255)), (0, .ref (E.2.1 62)), (1, .int a1), (2, .int a2), (3, .int a3), (4, .int a4), (5, .int a5), (6, .int (iI (s))), (7, .int 3)]) F dX9_feed_81 (by decide) rfl ?_
    refine g_iload F 0 dX9_feed_83 rfl ?_
    refine g_if_eq (tgt := 109) F dX9_feed_85 (by decide) (fun c85 => ?_) (fun c85f => ?_)
    · refine g_iinc (v := 4) (Ln := [(7, .int 4), (8, .int ((a1 >>> 0) &&& 255)), (0, .ref (E.2.1 62)), (1, .int a1), (2, .int a2), (3, .int a3), (4, .int a4), (5, .int a5), (6, .int (iI (s)))]) F 8 dX9_feed_109 rfl (by decide) (by decide) rfl ?_
      refine g_goto (tgt := 62) F dX9_feed_112 (by decide) ?_
      refine g_sub (Ln := [(0, .ref (E.2.1 62)), (1, .int a1), (2, .int a2), (3, .int a3), (4, .int a4), (5, .int a5), (6, .int (iI (s))), (7, .int 4)]) [2, 3, 4, 5, 6, 7, 8, 0] rfl ?_
      exact M4 (by simpa only [List.length_append] using hle) t _ s ht (by simpa only [wb1_0 c85, List.nil_append, List.append_nil] using hq) hf
    · have hlt : t.length < 400 := by rw [wb1_1 c85f] at hlen; simp only [List.length_cons, List.length_nil] at hlen; omega
      refine g_aload_n F 1 dX9_feed_88 rfl rfl ?_
      refine g_getr (j := 1) (nn := 63) F s62 rfl rfl uX9 (by decide) q822 dX9_feed_89 ?_
      refine g_aload_n F 1 dX9_feed_92 rfl rfl ?_
      refine g_geti (j := 2) (v := I1 62 2) F s62 rfl rfl uX9 (by decide) q823 rfl dX9_feed_93 ?_
      refine g_iload F 0 dX9_feed_96 rfl ?_
      refine g_iastI (v := (a1 >>> 0) &&& 255) F (t.length : Int) s63 hn1 (by omega) (by omega) (by decide) rfl dX9_feed_98 ?_
      refine g_aload_n F 1 dX9_feed_99 rfl rfl ?_
      refine g_dup F dX9_feed_100 rfl ?_
      refine g_geti (j := 2) (v := I1 62 2) F s62 rfl rfl uX9 (by decide) q823 rfl dX9_feed_101 ?_
      refine g_iconst (v := 1) F dX9_feed_104 (by decide) ?_
      refine g_iadd (v := iI ((t.length : Int) + 1)) F dX9_feed_105 (iI_add hn1 (by decide)) ?_
      refine g_puti (j := 2) F s62 rfl rfl uX9 (by decide) q823 tyX9_ok nmX9 rfl rfl rfl dX9_feed_106 ?_
      refine g_iinc (v := 4) (Ln := [(7, .int 4), (8, .int ((a1 >>> 0) &&& 255)), (0, .ref (E.2.1 62)), (1, .int a1), (2, .int a2), (3, .int a3), (4, .int a4), (5, .int a5), (6, .int (iI (s)))]) F 8 dX9_feed_109 rfl (by decide) (by decide) rfl ?_
      refine g_goto (tgt := 62) F dX9_feed_112 (by decide) ?_
      refine g_sub (Ln := [(0, .ref (E.2.1 62)), (1, .int a1), (2, .int a2), (3, .int a3), (4, .int a4), (5, .int a5), (6, .int (iI (s))), (7, .int 4)]) [2, 3, 4, 5, 6, 7, 8, 0] rfl ?_
      exact M4 (by simpa only [List.length_append] using hle) (t ++ [(a1 >>> 0) &&& 255]) _ s (TM_push ht (by rw [wb1_1 c85f] at hlen; simp only [List.length_cons, List.length_nil] at hlen; omega)) (by simpa only [wb1_1 c85f, List.append_assoc, List.append_nil] using hq) (fr_up (fr_up hf (Or.inr rfl)) (Or.inl ⟨rfl, rfl⟩))
  have M2 : (t0 ++ bl a1 a2 a3 a4 a5).length ≤ 400 → ∀ (t : List Int32) (I1 : gM) (s : Int), TM t I1 → t ++ (wb1 a1 8 ++ (wb1 a1 0 ++ (wb1 a2 24 ++ (wb1 a2 16 ++ (wb1 a2 8 ++ (wb1 a2 0 ++ (wb1 a3 24 ++ (wb1 a3 16 ++ (wb1 a3 8 ++ (wb1 a3 0 ++ (wb1 a4 24 ++ (wb1 a4 16 ++ (wb1 a4 8 ++ (wb1 a4 0 ++ (wb1 a5 24 ++ (wb1 a5 16 ++ (wb1 a5 8 ++ (wb1 a5 0)))))))))))))))))) = t0 ++ bl a1 a2 a3 a4 a5 → fr frM I I1 → G z 62 [(0, .ref (E.2.1 62)), (1, .int a1), (2, .int a2), (3, .int a3), (4, .int a4), (5, .int a5), (6, .int (iI s)), (7, .int 2)] [] I1 J := by
    intro hle t I1 s ht hq hf
    have hn1 := ht.2.1
    have hb1 := ht.1
    have hlen := congrArg List.length hq
    simp only [List.length_append] at hlen hle
    refine g_iload F 7 dX9_feed_62 rfl ?_
    refine g_bipush (v := 20) F dX9_feed_64 (by decide) ?_
    refine g_icmp_ge (tgt := 115) F dX9_feed_66 (by decide) (fun h => absurd h (by decide)) (fun _ => ?_)
    refine g_iload_n F 1 dX9_feed_69 rfl rfl ?_
    refine g_iload_n F 2 dX9_feed_70 rfl rfl ?_
    refine g_iload_n F 3 dX9_feed_71 rfl rfl ?_
    refine g_iload F 4 dX9_feed_72 rfl ?_
    refine g_iload F 5 dX9_feed_74 rfl ?_
    refine g_iload F 7 dX9_feed_76 rfl ?_
    refine g_callS (As := [.int a1, .int a2, .int a3, .int a4, .int a5, .int 2]) (rest := []) F (kX9_byteOf_18 (zl z) E hE _ _ a1 a2 a3 a4 a5) mX9_byteOf q916 rfl rfl rfl (Nat.le_of_ble_eq_true rfl) dX9_feed_78 (fun r I19 J19 h19 => ?_)
    obtain ⟨rfl, eh19, fh19⟩ := h19
    refine g_mem eh19 fh19 ?_
    refine g_st (sn := [.int ((a1 >>> 8) &&& 255)]) rfl ?_
    refine g_istore (Ln := [(8, .int ((a1 >>> 8) &&& 255)), (0, .ref (E.2.1 62)), (1, .int a1), (2, .int a2), (3, .int a3), (4, .int a4), (5, .int a5), (6, .int (iI (s))), (7, .int 2)]) F dX9_feed_81 (by decide) rfl ?_
    refine g_iload F 0 dX9_feed_83 rfl ?_
    refine g_if_eq (tgt := 109) F dX9_feed_85 (by decide) (fun c85 => ?_) (fun c85f => ?_)
    · refine g_iinc (v := 3) (Ln := [(7, .int 3), (8, .int ((a1 >>> 8) &&& 255)), (0, .ref (E.2.1 62)), (1, .int a1), (2, .int a2), (3, .int a3), (4, .int a4), (5, .int a5), (6, .int (iI (s)))]) F 8 dX9_feed_109 rfl (by decide) (by decide) rfl ?_
      refine g_goto (tgt := 62) F dX9_feed_112 (by decide) ?_
      refine g_sub (Ln := [(0, .ref (E.2.1 62)), (1, .int a1), (2, .int a2), (3, .int a3), (4, .int a4), (5, .int a5), (6, .int (iI (s))), (7, .int 3)]) [2, 3, 4, 5, 6, 7, 8, 0] rfl ?_
      exact M3 (by simpa only [List.length_append] using hle) t _ s ht (by simpa only [wb1_0 c85, List.nil_append, List.append_nil] using hq) hf
    · have hlt : t.length < 400 := by rw [wb1_1 c85f] at hlen; simp only [List.length_cons, List.length_nil] at hlen; omega
      refine g_aload_n F 1 dX9_feed_88 rfl rfl ?_
      refine g_getr (j := 1) (nn := 63) F s62 rfl rfl uX9 (by decide) q822 dX9_feed_89 ?_
      refine g_aload_n F 1 dX9_feed_92 rfl rfl ?_
      refine g_geti (j := 2) (v := I1 62 2) F s62 rfl rfl uX9 (by decide) q823 rfl dX9_feed_93 ?_
      refine g_iload F 0 dX9_feed_96 rfl ?_
      refine g_iastI (v := (a1 >>> 8) &&& 255) F (t.length : Int) s63 hn1 (by omega) (by omega) (by decide) rfl dX9_feed_98 ?_
      refine g_aload_n F 1 dX9_feed_99 rfl rfl ?_
      refine g_dup F dX9_feed_100 rfl ?_
      refine g_geti (j := 2) (v := I1 62 2) F s62 rfl rfl uX9 (by decide) q823 rfl dX9_feed_101 ?_
      refine g_iconst (v := 1) F dX9_feed_104 (by decide) ?_
      refine g_iadd (v := iI ((t.length : Int) + 1)) F dX9_feed_105 (iI_add hn1 (by decide)) ?_
      refine g_puti (j := 2) F s62 rfl rfl uX9 (by decide) q823 tyX9_ok nmX9 rfl rfl rfl dX9_feed_106 ?_
      refine g_iinc (v := 3) (Ln := [(7, .int 3), (8, .int ((a1 >>> 8) &&& 255)), (0, .ref (E.2.1 62)), (1, .int a1), (2, .int a2), (3, .int a3), (4, .int a4), (5, .int a5), (6, .int (iI (s)))]) F 8 dX9_feed_109 rfl (by decide) (by decide) rfl ?_
      refine g_goto (tgt := 62) F dX9_feed_112 (by decide) ?_
      refine g_sub (Ln := [(0, .ref (E.2.1 62)), (1, .int a1), (2, .int a2), (3, .int a3), (4, .int a4), (5, .int a5), (6, .int (iI (s))), (7, .int 3)]) [2, 3, 4, 5, 6, 7, 8, 0] rfl ?_
      exact M3 (by simpa only [List.length_append] using hle) (t ++ [(a1 >>> 8) &&& 255]) _ s (TM_push ht (by rw [wb1_1 c85f] at hlen; simp only [List.length_cons, List.length_nil] at hlen; omega)) (by simpa only [wb1_1 c85f, List.append_assoc, List.append_nil] using hq) (fr_up (fr_up hf (Or.inr rfl)) (Or.inl ⟨rfl, rfl⟩))
  have M1 : (t0 ++ bl a1 a2 a3 a4 a5).length ≤ 400 → ∀ (t : List Int32) (I1 : gM) (s : Int), TM t I1 → t ++ (wb1 a1 16 ++ (wb1 a1 8 ++ (wb1 a1 0 ++ (wb1 a2 24 ++ (wb1 a2 16 ++ (wb1 a2 8 ++ (wb1 a2 0 ++ (wb1 a3 24 ++ (wb1 a3 16 ++ (wb1 a3 8 ++ (wb1 a3 0 ++ (wb1 a4 24 ++ (wb1 a4 16 ++ (wb1 a4 8 ++ (wb1 a4 0 ++ (wb1 a5 24 ++ (wb1 a5 16 ++ (wb1 a5 8 ++ (wb1 a5 0))))))))))))))))))) = t0 ++ bl a1 a2 a3 a4 a5 → fr frM I I1 → G z 62 [(0, .ref (E.2.1 62)), (1, .int a1), (2, .int a2), (3, .int a3), (4, .int a4), (5, .int a5), (6, .int (iI s)), (7, .int 1)] [] I1 J := by
    intro hle t I1 s ht hq hf
    have hn1 := ht.2.1
    have hb1 := ht.1
    have hlen := congrArg List.length hq
    simp only [List.length_append] at hlen hle
    refine g_iload F 7 dX9_feed_62 rfl ?_
    refine g_bipush (v := 20) F dX9_feed_64 (by decide) ?_
    refine g_icmp_ge (tgt := 115) F dX9_feed_66 (by decide) (fun h => absurd h (by decide)) (fun _ => ?_)
    refine g_iload_n F 1 dX9_feed_69 rfl rfl ?_
    refine g_iload_n F 2 dX9_feed_70 rfl rfl ?_
    refine g_iload_n F 3 dX9_feed_71 rfl rfl ?_
    refine g_iload F 4 dX9_feed_72 rfl ?_
    refine g_iload F 5 dX9_feed_74 rfl ?_
    refine g_iload F 7 dX9_feed_76 rfl ?_
    refine g_callS (As := [.int a1, .int a2, .int a3, .int a4, .int a5, .int 1]) (rest := []) F (kX9_byteOf_19 (zl z) E hE _ _ a1 a2 a3 a4 a5) mX9_byteOf q916 rfl rfl rfl (Nat.le_of_ble_eq_true rfl) dX9_feed_78 (fun r I20 J20 h20 => ?_)
    obtain ⟨rfl, eh20, fh20⟩ := h20
    refine g_mem eh20 fh20 ?_
    refine g_st (sn := [.int ((a1 >>> 16) &&& 255)]) rfl ?_
    refine g_istore (Ln := [(8, .int ((a1 >>> 16) &&& 255)), (0, .ref (E.2.1 62)), (1, .int a1), (2, .int a2), (3, .int a3), (4, .int a4), (5, .int a5), (6, .int (iI (s))), (7, .int 1)]) F dX9_feed_81 (by decide) rfl ?_
    refine g_iload F 0 dX9_feed_83 rfl ?_
    refine g_if_eq (tgt := 109) F dX9_feed_85 (by decide) (fun c85 => ?_) (fun c85f => ?_)
    · refine g_iinc (v := 2) (Ln := [(7, .int 2), (8, .int ((a1 >>> 16) &&& 255)), (0, .ref (E.2.1 62)), (1, .int a1), (2, .int a2), (3, .int a3), (4, .int a4), (5, .int a5), (6, .int (iI (s)))]) F 8 dX9_feed_109 rfl (by decide) (by decide) rfl ?_
      refine g_goto (tgt := 62) F dX9_feed_112 (by decide) ?_
      refine g_sub (Ln := [(0, .ref (E.2.1 62)), (1, .int a1), (2, .int a2), (3, .int a3), (4, .int a4), (5, .int a5), (6, .int (iI (s))), (7, .int 2)]) [2, 3, 4, 5, 6, 7, 8, 0] rfl ?_
      exact M2 (by simpa only [List.length_append] using hle) t _ s ht (by simpa only [wb1_0 c85, List.nil_append, List.append_nil] using hq) hf
    · have hlt : t.length < 400 := by rw [wb1_1 c85f] at hlen; simp only [List.length_cons, List.length_nil] at hlen; omega
      refine g_aload_n F 1 dX9_feed_88 rfl rfl ?_
      refine g_getr (j := 1) (nn := 63) F s62 rfl rfl uX9 (by decide) q822 dX9_feed_89 ?_
      refine g_aload_n F 1 dX9_feed_92 rfl rfl ?_
      refine g_geti (j := 2) (v := I1 62 2) F s62 rfl rfl uX9 (by decide) q823 rfl dX9_feed_93 ?_
      refine g_iload F 0 dX9_feed_96 rfl ?_
      refine g_iastI (v := (a1 >>> 16) &&& 255) F (t.length : Int) s63 hn1 (by omega) (by omega) (by decide) rfl dX9_feed_98 ?_
      refine g_aload_n F 1 dX9_feed_99 rfl rfl ?_
      refine g_dup F dX9_feed_100 rfl ?_
      refine g_geti (j := 2) (v := I1 62 2) F s62 rfl rfl uX9 (by decide) q823 rfl dX9_feed_101 ?_
      refine g_iconst (v := 1) F dX9_feed_104 (by decide) ?_
      refine g_iadd (v := iI ((t.length : Int) + 1)) F dX9_feed_105 (iI_add hn1 (by decide)) ?_
      refine g_puti (j := 2) F s62 rfl rfl uX9 (by decide) q823 tyX9_ok nmX9 rfl rfl rfl dX9_feed_106 ?_
      refine g_iinc (v := 2) (Ln := [(7, .int 2), (8, .int ((a1 >>> 16) &&& 255)), (0, .ref (E.2.1 62)), (1, .int a1), (2, .int a2), (3, .int a3), (4, .int a4), (5, .int a5), (6, .int (iI (s)))]) F 8 dX9_feed_109 rfl (by decide) (by decide) rfl ?_
      refine g_goto (tgt := 62) F dX9_feed_112 (by decide) ?_
      refine g_sub (Ln := [(0, .ref (E.2.1 62)), (1, .int a1), (2, .int a2), (3, .int a3), (4, .int a4), (5, .int a5), (6, .int (iI (s))), (7, .int 2)]) [2, 3, 4, 5, 6, 7, 8, 0] rfl ?_
      exact M2 (by simpa only [List.length_append] using hle) (t ++ [(a1 >>> 16) &&& 255]) _ s (TM_push ht (by rw [wb1_1 c85f] at hlen; simp only [List.length_cons, List.length_nil] at hlen; omega)) (by simpa only [wb1_1 c85f, List.append_assoc, List.append_nil] using hq) (fr_up (fr_up hf (Or.inr rfl)) (Or.inl ⟨rfl, rfl⟩))
  have M0 : (t0 ++ bl a1 a2 a3 a4 a5).length ≤ 400 → ∀ (t : List Int32) (I1 : gM) (s : Int), TM t I1 → t ++ (wb1 a1 24 ++ (wb1 a1 16 ++ (wb1 a1 8 ++ (wb1 a1 0 ++ (wb1 a2 24 ++ (wb1 a2 16 ++ (wb1 a2 8 ++ (wb1 a2 0 ++ (wb1 a3 24 ++ (wb1 a3 16 ++ (wb1 a3 8 ++ (wb1 a3 0 ++ (wb1 a4 24 ++ (wb1 a4 16 ++ (wb1 a4 8 ++ (wb1 a4 0 ++ (wb1 a5 24 ++ (wb1 a5 16 ++ (wb1 a5 8 ++ (wb1 a5 0)))))))))))))))))))) = t0 ++ bl a1 a2 a3 a4 a5 → fr frM I I1 → G z 62 [(0, .ref (E.2.1 62)), (1, .int a1), (2, .int a2), (3, .int a3), (4, .int a4), (5, .int a5), (6, .int (iI s)), (7, .int 0)] [] I1 J := by
    intro hle t I1 s ht hq hf
    have hn1 := ht.2.1
    have hb1 := ht.1
    have hlen := congrArg List.length hq
    simp only [List.length_append] at hlen hle
    refine g_iload F 7 dX9_feed_62 rfl ?_
    refine g_bipush (v := 20) F dX9_feed_64 (by decide) ?_
    refine g_icmp_ge (tgt := 115) F dX9_feed_66 (by decide) (fun h => absurd h (by decide)) (fun _ => ?_)
    refine g_iload_n F 1 dX9_feed_69 rfl rfl ?_
    refine g_iload_n F 2 dX9_feed_70 rfl rfl ?_
    refine g_iload_n F 3 dX9_feed_71 rfl rfl ?_
    refine g_iload F 4 dX9_feed_72 rfl ?_
    refine g_iload F 5 dX9_feed_74 rfl ?_
    refine g_iload F 7 dX9_feed_76 rfl ?_
    refine g_callS (As := [.int a1, .int a2, .int a3, .int a4, .int a5, .int 0]) (rest := []) F (kX9_byteOf_20 (zl z) E hE _ _ a1 a2 a3 a4 a5) mX9_byteOf q916 rfl rfl rfl (Nat.le_of_ble_eq_true rfl) dX9_feed_78 (fun r I21 J21 h21 => ?_)
    obtain ⟨rfl, eh21, fh21⟩ := h21
    refine g_mem eh21 fh21 ?_
    refine g_st (sn := [.int ((a1 >>> 24) &&& 255)]) rfl ?_
    refine g_istore (Ln := [(8, .int ((a1 >>> 24) &&& 255)), (0, .ref (E.2.1 62)), (1, .int a1), (2, .int a2), (3, .int a3), (4, .int a4), (5, .int a5), (6, .int (iI (s))), (7, .int 0)]) F dX9_feed_81 (by decide) rfl ?_
    refine g_iload F 0 dX9_feed_83 rfl ?_
    refine g_if_eq (tgt := 109) F dX9_feed_85 (by decide) (fun c85 => ?_) (fun c85f => ?_)
    · refine g_iinc (v := 1) (Ln := [(7, .int 1), (8, .int ((a1 >>> 24) &&& 255)), (0, .ref (E.2.1 62)), (1, .int a1), (2, .int a2), (3, .int a3), (4, .int a4), (5, .int a5), (6, .int (iI (s)))]) F 8 dX9_feed_109 rfl (by decide) (by decide) rfl ?_
      refine g_goto (tgt := 62) F dX9_feed_112 (by decide) ?_
      refine g_sub (Ln := [(0, .ref (E.2.1 62)), (1, .int a1), (2, .int a2), (3, .int a3), (4, .int a4), (5, .int a5), (6, .int (iI (s))), (7, .int 1)]) [2, 3, 4, 5, 6, 7, 8, 0] rfl ?_
      exact M1 (by simpa only [List.length_append] using hle) t _ s ht (by simpa only [wb1_0 c85, List.nil_append, List.append_nil] using hq) hf
    · have hlt : t.length < 400 := by rw [wb1_1 c85f] at hlen; simp only [List.length_cons, List.length_nil] at hlen; omega
      refine g_aload_n F 1 dX9_feed_88 rfl rfl ?_
      refine g_getr (j := 1) (nn := 63) F s62 rfl rfl uX9 (by decide) q822 dX9_feed_89 ?_
      refine g_aload_n F 1 dX9_feed_92 rfl rfl ?_
      refine g_geti (j := 2) (v := I1 62 2) F s62 rfl rfl uX9 (by decide) q823 rfl dX9_feed_93 ?_
      refine g_iload F 0 dX9_feed_96 rfl ?_
      refine g_iastI (v := (a1 >>> 24) &&& 255) F (t.length : Int) s63 hn1 (by omega) (by omega) (by decide) rfl dX9_feed_98 ?_
      refine g_aload_n F 1 dX9_feed_99 rfl rfl ?_
      refine g_dup F dX9_feed_100 rfl ?_
      refine g_geti (j := 2) (v := I1 62 2) F s62 rfl rfl uX9 (by decide) q823 rfl dX9_feed_101 ?_
      refine g_iconst (v := 1) F dX9_feed_104 (by decide) ?_
      refine g_iadd (v := iI ((t.length : Int) + 1)) F dX9_feed_105 (iI_add hn1 (by decide)) ?_
      refine g_puti (j := 2) F s62 rfl rfl uX9 (by decide) q823 tyX9_ok nmX9 rfl rfl rfl dX9_feed_106 ?_
      refine g_iinc (v := 1) (Ln := [(7, .int 1), (8, .int ((a1 >>> 24) &&& 255)), (0, .ref (E.2.1 62)), (1, .int a1), (2, .int a2), (3, .int a3), (4, .int a4), (5, .int a5), (6, .int (iI (s)))]) F 8 dX9_feed_109 rfl (by decide) (by decide) rfl ?_
      refine g_goto (tgt := 62) F dX9_feed_112 (by decide) ?_
      refine g_sub (Ln := [(0, .ref (E.2.1 62)), (1, .int a1), (2, .int a2), (3, .int a3), (4, .int a4), (5, .int a5), (6, .int (iI (s))), (7, .int 1)]) [2, 3, 4, 5, 6, 7, 8, 0] rfl ?_
      exact M1 (by simpa only [List.length_append] using hle) (t ++ [(a1 >>> 24) &&& 255]) _ s (TM_push ht (by rw [wb1_1 c85f] at hlen; simp only [List.length_cons, List.length_nil] at hlen; omega)) (by simpa only [wb1_1 c85f, List.append_assoc, List.append_nil] using hq) (fr_up (fr_up hf (Or.inr rfl)) (Or.inl ⟨rfl, rfl⟩))
  have K20 : ∀ s : Int, s = (bl a1 a2 a3 a4 a5).length → G z 6 [(0, .ref (E.2.1 62)), (1, .int a1), (2, .int a2), (3, .int a3), (4, .int a4), (5, .int a5), (6, .int (iI s)), (7, .int 20)] [] I J := by
    intro s hs
    have hbb : (bl a1 a2 a3 a4 a5).length ≤ 20 := by simp only [bl, List.length_append]; have := wb_le a1; have := wb_le a2; have := wb_le a3; have := wb_le a4; have := wb_le a5; omega
    refine g_iload F 7 dX9_feed_6 rfl ?_
    refine g_bipush (v := 20) F dX9_feed_8 (by decide) ?_
    refine g_icmp_ge (tgt := 44) F dX9_feed_10 (by decide) (fun _ => ?_) (fun h => absurd (by decide) h)
    refine g_aload_n F 0 dX9_feed_44 rfl rfl ?_
    refine g_geti (j := 2) (v := I 62 2) F s62 rfl rfl uX9 (by decide) q823 rfl dX9_feed_45 ?_
    refine g_iload F 6 dX9_feed_48 rfl ?_
    refine g_iadd (v := iI ((t0.length : Int) + s)) F dX9_feed_50 (iI_add hn0 rfl) ?_
    refine g_sipush (v := 400) F dX9_feed_51 (by decide) ?_
    refine g_icmpI_le (tgt := 59) (a := ((t0.length : Int) + s)) (b := 400) F (iI_t (by omega) (by omega)) (by decide) dX9_feed_54 (by decide) (fun c54 => ?_) (fun c54f => ?_)
    · refine g_iconst (v := 0) F dX9_feed_59 (by decide) ?_
      refine g_istore (Ln := [(7, .int 0), (0, .ref (E.2.1 62)), (1, .int a1), (2, .int a2), (3, .int a3), (4, .int a4), (5, .int a5), (6, .int (iI (s)))]) F dX9_feed_60 (by decide) rfl ?_
      refine g_sub (Ln := [(0, .ref (E.2.1 62)), (1, .int a1), (2, .int a2), (3, .int a3), (4, .int a4), (5, .int a5), (6, .int (iI (s))), (7, .int 0)]) [1, 2, 3, 4, 5, 6, 7, 0] rfl ?_
      exact M0 (by simp only [List.length_append]; omega) t0 I _ ht0 (by rw [hbl]) fr_rf
    · refine g_iconst (v := (-1)) F dX9_feed_57 (by decide) ?_
      exact g_iret F e dX9_feed_58 (Or.inr ⟨by simp only [List.length_append]; omega, rfl, rfl, rfl⟩)
  have K19 : ∀ s : Int, s + (wb1 a5 0).length = (bl a1 a2 a3 a4 a5).length → G z 6 [(0, .ref (E.2.1 62)), (1, .int a1), (2, .int a2), (3, .int a3), (4, .int a4), (5, .int a5), (6, .int (iI s)), (7, .int 19)] [] I J := by
    intro s hs
    refine g_iload F 7 dX9_feed_6 rfl ?_
    refine g_bipush (v := 20) F dX9_feed_8 (by decide) ?_
    refine g_icmp_ge (tgt := 44) F dX9_feed_10 (by decide) (fun h => absurd h (by decide)) (fun _ => ?_)
    refine g_iload F 6 dX9_feed_13 rfl ?_
    refine g_iload_n F 1 dX9_feed_15 rfl rfl ?_
    refine g_iload_n F 2 dX9_feed_16 rfl rfl ?_
    refine g_iload_n F 3 dX9_feed_17 rfl rfl ?_
    refine g_iload F 4 dX9_feed_18 rfl ?_
    refine g_iload F 5 dX9_feed_20 rfl ?_
    refine g_iload F 7 dX9_feed_22 rfl ?_
    refine g_callS (As := [.int a1, .int a2, .int a3, .int a4, .int a5, .int 19]) (rest := [.int (iI (s))]) F (kX9_byteOf (zl z) E hE _ _ a1 a2 a3 a4 a5) mX9_byteOf q916 rfl rfl rfl (Nat.le_of_ble_eq_true rfl) dX9_feed_24 (fun r I22 J22 h22 => ?_)
    obtain ⟨rfl, eh22, fh22⟩ := h22
    refine g_mem eh22 fh22 ?_
    refine g_st (sn := [.int ((a5 >>> 0) &&& 255), .int (iI (s))]) rfl ?_
    refine g_if_eq (tgt := 34) F dX9_feed_27 (by decide) (fun c27 => ?_) (fun c27f => ?_)
    · refine g_iconst (v := 0) F dX9_feed_34 (by decide) ?_
      refine g_iadd (v := iI (s + 0)) F dX9_feed_35 (iI_add rfl (by decide)) ?_
      refine g_istore (Ln := [(6, .int (iI (s + 0))), (0, .ref (E.2.1 62)), (1, .int a1), (2, .int a2), (3, .int a3), (4, .int a4), (5, .int a5), (7, .int 19)]) F dX9_feed_36 (by decide) rfl ?_
      refine g_iinc (v := 20) (Ln := [(7, .int 20), (6, .int (iI (s + 0))), (0, .ref (E.2.1 62)), (1, .int a1), (2, .int a2), (3, .int a3), (4, .int a4), (5, .int a5)]) F 7 dX9_feed_38 rfl (by decide) (by decide) rfl ?_
      refine g_goto (tgt := 6) F dX9_feed_41 (by decide) ?_
      refine g_sub (Ln := [(0, .ref (E.2.1 62)), (1, .int a1), (2, .int a2), (3, .int a3), (4, .int a4), (5, .int a5), (6, .int (iI (s + 0))), (7, .int 20)]) [2, 3, 4, 5, 6, 7, 1, 0] rfl ?_
      exact K20 _ (by rw [wb1_0 c27] at hs; simp only [List.length_nil, List.length_cons] at hs; omega)
    · refine g_iconst (v := 1) F dX9_feed_30 (by decide) ?_
      refine g_goto (tgt := 35) F dX9_feed_31 (by decide) ?_
      refine g_iadd (v := iI (s + 1)) F dX9_feed_35 (iI_add rfl (by decide)) ?_
      refine g_istore (Ln := [(6, .int (iI (s + 1))), (0, .ref (E.2.1 62)), (1, .int a1), (2, .int a2), (3, .int a3), (4, .int a4), (5, .int a5), (7, .int 19)]) F dX9_feed_36 (by decide) rfl ?_
      refine g_iinc (v := 20) (Ln := [(7, .int 20), (6, .int (iI (s + 1))), (0, .ref (E.2.1 62)), (1, .int a1), (2, .int a2), (3, .int a3), (4, .int a4), (5, .int a5)]) F 7 dX9_feed_38 rfl (by decide) (by decide) rfl ?_
      refine g_goto (tgt := 6) F dX9_feed_41 (by decide) ?_
      refine g_sub (Ln := [(0, .ref (E.2.1 62)), (1, .int a1), (2, .int a2), (3, .int a3), (4, .int a4), (5, .int a5), (6, .int (iI (s + 1))), (7, .int 20)]) [2, 3, 4, 5, 6, 7, 1, 0] rfl ?_
      exact K20 _ (by rw [wb1_1 c27f] at hs; simp only [List.length_nil, List.length_cons] at hs; omega)
  have K18 : ∀ s : Int, s + (wb1 a5 8).length + (wb1 a5 0).length = (bl a1 a2 a3 a4 a5).length → G z 6 [(0, .ref (E.2.1 62)), (1, .int a1), (2, .int a2), (3, .int a3), (4, .int a4), (5, .int a5), (6, .int (iI s)), (7, .int 18)] [] I J := by
    intro s hs
    refine g_iload F 7 dX9_feed_6 rfl ?_
    refine g_bipush (v := 20) F dX9_feed_8 (by decide) ?_
    refine g_icmp_ge (tgt := 44) F dX9_feed_10 (by decide) (fun h => absurd h (by decide)) (fun _ => ?_)
    refine g_iload F 6 dX9_feed_13 rfl ?_
    refine g_iload_n F 1 dX9_feed_15 rfl rfl ?_
    refine g_iload_n F 2 dX9_feed_16 rfl rfl ?_
    refine g_iload_n F 3 dX9_feed_17 rfl rfl ?_
    refine g_iload F 4 dX9_feed_18 rfl ?_
    refine g_iload F 5 dX9_feed_20 rfl ?_
    refine g_iload F 7 dX9_feed_22 rfl ?_
    refine g_callS (As := [.int a1, .int a2, .int a3, .int a4, .int a5, .int 18]) (rest := [.int (iI (s))]) F (kX9_byteOf_2 (zl z) E hE _ _ a1 a2 a3 a4 a5) mX9_byteOf q916 rfl rfl rfl (Nat.le_of_ble_eq_true rfl) dX9_feed_24 (fun r I23 J23 h23 => ?_)
    obtain ⟨rfl, eh23, fh23⟩ := h23
    refine g_mem eh23 fh23 ?_
    refine g_st (sn := [.int ((a5 >>> 8) &&& 255), .int (iI (s))]) rfl ?_
    refine g_if_eq (tgt := 34) F dX9_feed_27 (by decide) (fun c27 => ?_) (fun c27f => ?_)
    · refine g_iconst (v := 0) F dX9_feed_34 (by decide) ?_
      refine g_iadd (v := iI (s + 0)) F dX9_feed_35 (iI_add rfl (by decide)) ?_
      refine g_istore (Ln := [(6, .int (iI (s + 0))), (0, .ref (E.2.1 62)), (1, .int a1), (2, .int a2), (3, .int a3), (4, .int a4), (5, .int a5), (7, .int 18)]) F dX9_feed_36 (by decide) rfl ?_
      refine g_iinc (v := 19) (Ln := [(7, .int 19), (6, .int (iI (s + 0))), (0, .ref (E.2.1 62)), (1, .int a1), (2, .int a2), (3, .int a3), (4, .int a4), (5, .int a5)]) F 7 dX9_feed_38 rfl (by decide) (by decide) rfl ?_
      refine g_goto (tgt := 6) F dX9_feed_41 (by decide) ?_
      refine g_sub (Ln := [(0, .ref (E.2.1 62)), (1, .int a1), (2, .int a2), (3, .int a3), (4, .int a4), (5, .int a5), (6, .int (iI (s + 0))), (7, .int 19)]) [2, 3, 4, 5, 6, 7, 1, 0] rfl ?_
      exact K19 _ (by rw [wb1_0 c27] at hs; simp only [List.length_nil, List.length_cons] at hs; omega)
    · refine g_iconst (v := 1) F dX9_feed_30 (by decide) ?_
      refine g_goto (tgt := 35) F dX9_feed_31 (by decide) ?_
      refine g_iadd (v := iI (s + 1)) F dX9_feed_35 (iI_add rfl (by decide)) ?_
      refine g_istore (Ln := [(6, .int (iI (s + 1))), (0, .ref (E.2.1 62)), (1, .int a1), (2, .int a2), (3, .int a3), (4, .int a4), (5, .int a5), (7, .int 18)]) F dX9_feed_36 (by decide) rfl ?_
      refine g_iinc (v := 19) (Ln := [(7, .int 19), (6, .int (iI (s + 1))), (0, .ref (E.2.1 62)), (1, .int a1), (2, .int a2), (3, .int a3), (4, .int a4), (5, .int a5)]) F 7 dX9_feed_38 rfl (by decide) (by decide) rfl ?_
      refine g_goto (tgt := 6) F dX9_feed_41 (by decide) ?_
      refine g_sub (Ln := [(0, .ref (E.2.1 62)), (1, .int a1), (2, .int a2), (3, .int a3), (4, .int a4), (5, .int a5), (6, .int (iI (s + 1))), (7, .int 19)]) [2, 3, 4, 5, 6, 7, 1, 0] rfl ?_
      exact K19 _ (by rw [wb1_1 c27f] at hs; simp only [List.length_nil, List.length_cons] at hs; omega)
  have K17 : ∀ s : Int, s + (wb1 a5 16).length + (wb1 a5 8).length + (wb1 a5 0).length = (bl a1 a2 a3 a4 a5).length → G z 6 [(0, .ref (E.2.1 62)), (1, .int a1), (2, .int a2), (3, .int a3), (4, .int a4), (5, .int a5), (6, .int (iI s)), (7, .int 17)] [] I J := by
    intro s hs
    refine g_iload F 7 dX9_feed_6 rfl ?_
    refine g_bipush (v := 20) F dX9_feed_8 (by decide) ?_
    refine g_icmp_ge (tgt := 44) F dX9_feed_10 (by decide) (fun h => absurd h (by decide)) (fun _ => ?_)
    refine g_iload F 6 dX9_feed_13 rfl ?_
    refine g_iload_n F 1 dX9_feed_15 rfl rfl ?_
    refine g_iload_n F 2 dX9_feed_16 rfl rfl ?_
    refine g_iload_n F 3 dX9_feed_17 rfl rfl ?_
    refine g_iload F 4 dX9_feed_18 rfl ?_
    refine g_iload F 5 dX9_feed_20 rfl ?_
    refine g_iload F 7 dX9_feed_22 rfl ?_
    refine g_callS (As := [.int a1, .int a2, .int a3, .int a4, .int a5, .int 17]) (rest := [.int (iI (s))]) F (kX9_byteOf_3 (zl z) E hE _ _ a1 a2 a3 a4 a5) mX9_byteOf q916 rfl rfl rfl (Nat.le_of_ble_eq_true rfl) dX9_feed_24 (fun r I24 J24 h24 => ?_)
    obtain ⟨rfl, eh24, fh24⟩ := h24
    refine g_mem eh24 fh24 ?_
    refine g_st (sn := [.int ((a5 >>> 16) &&& 255), .int (iI (s))]) rfl ?_
    refine g_if_eq (tgt := 34) F dX9_feed_27 (by decide) (fun c27 => ?_) (fun c27f => ?_)
    · refine g_iconst (v := 0) F dX9_feed_34 (by decide) ?_
      refine g_iadd (v := iI (s + 0)) F dX9_feed_35 (iI_add rfl (by decide)) ?_
      refine g_istore (Ln := [(6, .int (iI (s + 0))), (0, .ref (E.2.1 62)), (1, .int a1), (2, .int a2), (3, .int a3), (4, .int a4), (5, .int a5), (7, .int 17)]) F dX9_feed_36 (by decide) rfl ?_
      refine g_iinc (v := 18) (Ln := [(7, .int 18), (6, .int (iI (s + 0))), (0, .ref (E.2.1 62)), (1, .int a1), (2, .int a2), (3, .int a3), (4, .int a4), (5, .int a5)]) F 7 dX9_feed_38 rfl (by decide) (by decide) rfl ?_
      refine g_goto (tgt := 6) F dX9_feed_41 (by decide) ?_
      refine g_sub (Ln := [(0, .ref (E.2.1 62)), (1, .int a1), (2, .int a2), (3, .int a3), (4, .int a4), (5, .int a5), (6, .int (iI (s + 0))), (7, .int 18)]) [2, 3, 4, 5, 6, 7, 1, 0] rfl ?_
      exact K18 _ (by rw [wb1_0 c27] at hs; simp only [List.length_nil, List.length_cons] at hs; omega)
    · refine g_iconst (v := 1) F dX9_feed_30 (by decide) ?_
      refine g_goto (tgt := 35) F dX9_feed_31 (by decide) ?_
      refine g_iadd (v := iI (s + 1)) F dX9_feed_35 (iI_add rfl (by decide)) ?_
      refine g_istore (Ln := [(6, .int (iI (s + 1))), (0, .ref (E.2.1 62)), (1, .int a1), (2, .int a2), (3, .int a3), (4, .int a4), (5, .int a5), (7, .int 17)]) F dX9_feed_36 (by decide) rfl ?_
      refine g_iinc (v := 18) (Ln := [(7, .int 18), (6, .int (iI (s + 1))), (0, .ref (E.2.1 62)), (1, .int a1), (2, .int a2), (3, .int a3), (4, .int a4), (5, .int a5)]) F 7 dX9_feed_38 rfl (by decide) (by decide) rfl ?_
      refine g_goto (tgt := 6) F dX9_feed_41 (by decide) ?_
      refine g_sub (Ln := [(0, .ref (E.2.1 62)), (1, .int a1), (2, .int a2), (3, .int a3), (4, .int a4), (5, .int a5), (6, .int (iI (s + 1))), (7, .int 18)]) [2, 3, 4, 5, 6, 7, 1, 0] rfl ?_
      exact K18 _ (by rw [wb1_1 c27f] at hs; simp only [List.length_nil, List.length_cons] at hs; omega)
  have K16 : ∀ s : Int, s + (wb1 a5 24).length + (wb1 a5 16).length + (wb1 a5 8).length + (wb1 a5 0).length = (bl a1 a2 a3 a4 a5).length → G z 6 [(0, .ref (E.2.1 62)), (1, .int a1), (2, .int a2), (3, .int a3), (4, .int a4), (5, .int a5), (6, .int (iI s)), (7, .int 16)] [] I J := by
    intro s hs
    refine g_iload F 7 dX9_feed_6 rfl ?_
    refine g_bipush (v := 20) F dX9_feed_8 (by decide) ?_
    refine g_icmp_ge (tgt := 44) F dX9_feed_10 (by decide) (fun h => absurd h (by decide)) (fun _ => ?_)
    refine g_iload F 6 dX9_feed_13 rfl ?_
    refine g_iload_n F 1 dX9_feed_15 rfl rfl ?_
    refine g_iload_n F 2 dX9_feed_16 rfl rfl ?_
    refine g_iload_n F 3 dX9_feed_17 rfl rfl ?_
    refine g_iload F 4 dX9_feed_18 rfl ?_
    refine g_iload F 5 dX9_feed_20 rfl ?_
    refine g_iload F 7 dX9_feed_22 rfl ?_
    refine g_callS (As := [.int a1, .int a2, .int a3, .int a4, .int a5, .int 16]) (rest := [.int (iI (s))]) F (kX9_byteOf_4 (zl z) E hE _ _ a1 a2 a3 a4 a5) mX9_byteOf q916 rfl rfl rfl (Nat.le_of_ble_eq_true rfl) dX9_feed_24 (fun r I25 J25 h25 => ?_)
    obtain ⟨rfl, eh25, fh25⟩ := h25
    refine g_mem eh25 fh25 ?_
    refine g_st (sn := [.int ((a5 >>> 24) &&& 255), .int (iI (s))]) rfl ?_
    refine g_if_eq (tgt := 34) F dX9_feed_27 (by decide) (fun c27 => ?_) (fun c27f => ?_)
    · refine g_iconst (v := 0) F dX9_feed_34 (by decide) ?_
      refine g_iadd (v := iI (s + 0)) F dX9_feed_35 (iI_add rfl (by decide)) ?_
      refine g_istore (Ln := [(6, .int (iI (s + 0))), (0, .ref (E.2.1 62)), (1, .int a1), (2, .int a2), (3, .int a3), (4, .int a4), (5, .int a5), (7, .int 16)]) F dX9_feed_36 (by decide) rfl ?_
      refine g_iinc (v := 17) (Ln := [(7, .int 17), (6, .int (iI (s + 0))), (0, .ref (E.2.1 62)), (1, .int a1), (2, .int a2), (3, .int a3), (4, .int a4), (5, .int a5)]) F 7 dX9_feed_38 rfl (by decide) (by decide) rfl ?_
      refine g_goto (tgt := 6) F dX9_feed_41 (by decide) ?_
      refine g_sub (Ln := [(0, .ref (E.2.1 62)), (1, .int a1), (2, .int a2), (3, .int a3), (4, .int a4), (5, .int a5), (6, .int (iI (s + 0))), (7, .int 17)]) [2, 3, 4, 5, 6, 7, 1, 0] rfl ?_
      exact K17 _ (by rw [wb1_0 c27] at hs; simp only [List.length_nil, List.length_cons] at hs; omega)
    · refine g_iconst (v := 1) F dX9_feed_30 (by decide) ?_
      refine g_goto (tgt := 35) F dX9_feed_31 (by decide) ?_
      refine g_iadd (v := iI (s + 1)) F dX9_feed_35 (iI_add rfl (by decide)) ?_
      refine g_istore (Ln := [(6, .int (iI (s + 1))), (0, .ref (E.2.1 62)), (1, .int a1), (2, .int a2), (3, .int a3), (4, .int a4), (5, .int a5), (7, .int 16)]) F dX9_feed_36 (by decide) rfl ?_
      refine g_iinc (v := 17) (Ln := [(7, .int 17), (6, .int (iI (s + 1))), (0, .ref (E.2.1 62)), (1, .int a1), (2, .int a2), (3, .int a3), (4, .int a4), (5, .int a5)]) F 7 dX9_feed_38 rfl (by decide) (by decide) rfl ?_
      refine g_goto (tgt := 6) F dX9_feed_41 (by decide) ?_
      refine g_sub (Ln := [(0, .ref (E.2.1 62)), (1, .int a1), (2, .int a2), (3, .int a3), (4, .int a4), (5, .int a5), (6, .int (iI (s + 1))), (7, .int 17)]) [2, 3, 4, 5, 6, 7, 1, 0] rfl ?_
      exact K17 _ (by rw [wb1_1 c27f] at hs; simp only [List.length_nil, List.length_cons] at hs; omega)
  have K15 : ∀ s : Int, s + (wb1 a4 0).length + (wb1 a5 24).length + (wb1 a5 16).length + (wb1 a5 8).length + (wb1 a5 0).length = (bl a1 a2 a3 a4 a5).length → G z 6 [(0, .ref (E.2.1 62)), (1, .int a1), (2, .int a2), (3, .int a3), (4, .int a4), (5, .int a5), (6, .int (iI s)), (7, .int 15)] [] I J := by
    intro s hs
    refine g_iload F 7 dX9_feed_6 rfl ?_
    refine g_bipush (v := 20) F dX9_feed_8 (by decide) ?_
    refine g_icmp_ge (tgt := 44) F dX9_feed_10 (by decide) (fun h => absurd h (by decide)) (fun _ => ?_)
    refine g_iload F 6 dX9_feed_13 rfl ?_
    refine g_iload_n F 1 dX9_feed_15 rfl rfl ?_
    refine g_iload_n F 2 dX9_feed_16 rfl rfl ?_
    refine g_iload_n F 3 dX9_feed_17 rfl rfl ?_
    refine g_iload F 4 dX9_feed_18 rfl ?_
    refine g_iload F 5 dX9_feed_20 rfl ?_
    refine g_iload F 7 dX9_feed_22 rfl ?_
    refine g_callS (As := [.int a1, .int a2, .int a3, .int a4, .int a5, .int 15]) (rest := [.int (iI (s))]) F (kX9_byteOf_5 (zl z) E hE _ _ a1 a2 a3 a4 a5) mX9_byteOf q916 rfl rfl rfl (Nat.le_of_ble_eq_true rfl) dX9_feed_24 (fun r I26 J26 h26 => ?_)
    obtain ⟨rfl, eh26, fh26⟩ := h26
    refine g_mem eh26 fh26 ?_
    refine g_st (sn := [.int ((a4 >>> 0) &&& 255), .int (iI (s))]) rfl ?_
    refine g_if_eq (tgt := 34) F dX9_feed_27 (by decide) (fun c27 => ?_) (fun c27f => ?_)
    · refine g_iconst (v := 0) F dX9_feed_34 (by decide) ?_
      refine g_iadd (v := iI (s + 0)) F dX9_feed_35 (iI_add rfl (by decide)) ?_
      refine g_istore (Ln := [(6, .int (iI (s + 0))), (0, .ref (E.2.1 62)), (1, .int a1), (2, .int a2), (3, .int a3), (4, .int a4), (5, .int a5), (7, .int 15)]) F dX9_feed_36 (by decide) rfl ?_
      refine g_iinc (v := 16) (Ln := [(7, .int 16), (6, .int (iI (s + 0))), (0, .ref (E.2.1 62)), (1, .int a1), (2, .int a2), (3, .int a3), (4, .int a4), (5, .int a5)]) F 7 dX9_feed_38 rfl (by decide) (by decide) rfl ?_
      refine g_goto (tgt := 6) F dX9_feed_41 (by decide) ?_
      refine g_sub (Ln := [(0, .ref (E.2.1 62)), (1, .int a1), (2, .int a2), (3, .int a3), (4, .int a4), (5, .int a5), (6, .int (iI (s + 0))), (7, .int 16)]) [2, 3, 4, 5, 6, 7, 1, 0] rfl ?_
      exact K16 _ (by rw [wb1_0 c27] at hs; simp only [List.length_nil, List.length_cons] at hs; omega)
    · refine g_iconst (v := 1) F dX9_feed_30 (by decide) ?_
      refine g_goto (tgt := 35) F dX9_feed_31 (by decide) ?_
      refine g_iadd (v := iI (s + 1)) F dX9_feed_35 (iI_add rfl (by decide)) ?_
      refine g_istore (Ln := [(6, .int (iI (s + 1))), (0, .ref (E.2.1 62)), (1, .int a1), (2, .int a2), (3, .int a3), (4, .int a4), (5, .int a5), (7, .int 15)]) F dX9_feed_36 (by decide) rfl ?_
      refine g_iinc (v := 16) (Ln := [(7, .int 16), (6, .int (iI (s + 1))), (0, .ref (E.2.1 62)), (1, .int a1), (2, .int a2), (3, .int a3), (4, .int a4), (5, .int a5)]) F 7 dX9_feed_38 rfl (by decide) (by decide) rfl ?_
      refine g_goto (tgt := 6) F dX9_feed_41 (by decide) ?_
      refine g_sub (Ln := [(0, .ref (E.2.1 62)), (1, .int a1), (2, .int a2), (3, .int a3), (4, .int a4), (5, .int a5), (6, .int (iI (s + 1))), (7, .int 16)]) [2, 3, 4, 5, 6, 7, 1, 0] rfl ?_
      exact K16 _ (by rw [wb1_1 c27f] at hs; simp only [List.length_nil, List.length_cons] at hs; omega)
  have K14 : ∀ s : Int, s + (wb1 a4 8).length + (wb1 a4 0).length + (wb1 a5 24).length + (wb1 a5 16).length + (wb1 a5 8).length + (wb1 a5 0).length = (bl a1 a2 a3 a4 a5).length → G z 6 [(0, .ref (E.2.1 62)), (1, .int a1), (2, .int a2), (3, .int a3), (4, .int a4), (5, .int a5), (6, .int (iI s)), (7, .int 14)] [] I J := by
    intro s hs
    refine g_iload F 7 dX9_feed_6 rfl ?_
    refine g_bipush (v := 20) F dX9_feed_8 (by decide) ?_
    refine g_icmp_ge (tgt := 44) F dX9_feed_10 (by decide) (fun h => absurd h (by decide)) (fun _ => ?_)
    refine g_iload F 6 dX9_feed_13 rfl ?_
    refine g_iload_n F 1 dX9_feed_15 rfl rfl ?_
    refine g_iload_n F 2 dX9_feed_16 rfl rfl ?_
    refine g_iload_n F 3 dX9_feed_17 rfl rfl ?_
    refine g_iload F 4 dX9_feed_18 rfl ?_
    refine g_iload F 5 dX9_feed_20 rfl ?_
    refine g_iload F 7 dX9_feed_22 rfl ?_
    refine g_callS (As := [.int a1, .int a2, .int a3, .int a4, .int a5, .int 14]) (rest := [.int (iI (s))]) F (kX9_byteOf_6 (zl z) E hE _ _ a1 a2 a3 a4 a5) mX9_byteOf q916 rfl rfl rfl (Nat.le_of_ble_eq_true rfl) dX9_feed_24 (fun r I27 J27 h27 => ?_)
    obtain ⟨rfl, eh27, fh27⟩ := h27
    refine g_mem eh27 fh27 ?_
    refine g_st (sn := [.int ((a4 >>> 8) &&& 255), .int (iI (s))]) rfl ?_
    refine g_if_eq (tgt := 34) F dX9_feed_27 (by decide) (fun c27 => ?_) (fun c27f => ?_)
    · refine g_iconst (v := 0) F dX9_feed_34 (by decide) ?_
      refine g_iadd (v := iI (s + 0)) F dX9_feed_35 (iI_add rfl (by decide)) ?_
      refine g_istore (Ln := [(6, .int (iI (s + 0))), (0, .ref (E.2.1 62)), (1, .int a1), (2, .int a2), (3, .int a3), (4, .int a4), (5, .int a5), (7, .int 14)]) F dX9_feed_36 (by decide) rfl ?_
      refine g_iinc (v := 15) (Ln := [(7, .int 15), (6, .int (iI (s + 0))), (0, .ref (E.2.1 62)), (1, .int a1), (2, .int a2), (3, .int a3), (4, .int a4), (5, .int a5)]) F 7 dX9_feed_38 rfl (by decide) (by decide) rfl ?_
      refine g_goto (tgt := 6) F dX9_feed_41 (by decide) ?_
      refine g_sub (Ln := [(0, .ref (E.2.1 62)), (1, .int a1), (2, .int a2), (3, .int a3), (4, .int a4), (5, .int a5), (6, .int (iI (s + 0))), (7, .int 15)]) [2, 3, 4, 5, 6, 7, 1, 0] rfl ?_
      exact K15 _ (by rw [wb1_0 c27] at hs; simp only [List.length_nil, List.length_cons] at hs; omega)
    · refine g_iconst (v := 1) F dX9_feed_30 (by decide) ?_
      refine g_goto (tgt := 35) F dX9_feed_31 (by decide) ?_
      refine g_iadd (v := iI (s + 1)) F dX9_feed_35 (iI_add rfl (by decide)) ?_
      refine g_istore (Ln := [(6, .int (iI (s + 1))), (0, .ref (E.2.1 62)), (1, .int a1), (2, .int a2), (3, .int a3), (4, .int a4), (5, .int a5), (7, .int 14)]) F dX9_feed_36 (by decide) rfl ?_
      refine g_iinc (v := 15) (Ln := [(7, .int 15), (6, .int (iI (s + 1))), (0, .ref (E.2.1 62)), (1, .int a1), (2, .int a2), (3, .int a3), (4, .int a4), (5, .int a5)]) F 7 dX9_feed_38 rfl (by decide) (by decide) rfl ?_
      refine g_goto (tgt := 6) F dX9_feed_41 (by decide) ?_
      refine g_sub (Ln := [(0, .ref (E.2.1 62)), (1, .int a1), (2, .int a2), (3, .int a3), (4, .int a4), (5, .int a5), (6, .int (iI (s + 1))), (7, .int 15)]) [2, 3, 4, 5, 6, 7, 1, 0] rfl ?_
      exact K15 _ (by rw [wb1_1 c27f] at hs; simp only [List.length_nil, List.length_cons] at hs; omega)
  have K13 : ∀ s : Int, s + (wb1 a4 16).length + (wb1 a4 8).length + (wb1 a4 0).length + (wb1 a5 24).length + (wb1 a5 16).length + (wb1 a5 8).length + (wb1 a5 0).length = (bl a1 a2 a3 a4 a5).length → G z 6 [(0, .ref (E.2.1 62)), (1, .int a1), (2, .int a2), (3, .int a3), (4, .int a4), (5, .int a5), (6, .int (iI s)), (7, .int 13)] [] I J := by
    intro s hs
    refine g_iload F 7 dX9_feed_6 rfl ?_
    refine g_bipush (v := 20) F dX9_feed_8 (by decide) ?_
    refine g_icmp_ge (tgt := 44) F dX9_feed_10 (by decide) (fun h => absurd h (by decide)) (fun _ => ?_)
    refine g_iload F 6 dX9_feed_13 rfl ?_
    refine g_iload_n F 1 dX9_feed_15 rfl rfl ?_
    refine g_iload_n F 2 dX9_feed_16 rfl rfl ?_
    refine g_iload_n F 3 dX9_feed_17 rfl rfl ?_
    refine g_iload F 4 dX9_feed_18 rfl ?_
    refine g_iload F 5 dX9_feed_20 rfl ?_
    refine g_iload F 7 dX9_feed_22 rfl ?_
    refine g_callS (As := [.int a1, .int a2, .int a3, .int a4, .int a5, .int 13]) (rest := [.int (iI (s))]) F (kX9_byteOf_7 (zl z) E hE _ _ a1 a2 a3 a4 a5) mX9_byteOf q916 rfl rfl rfl (Nat.le_of_ble_eq_true rfl) dX9_feed_24 (fun r I28 J28 h28 => ?_)
    obtain ⟨rfl, eh28, fh28⟩ := h28
    refine g_mem eh28 fh28 ?_
    refine g_st (sn := [.int ((a4 >>> 16) &&& 255), .int (iI (s))]) rfl ?_
    refine g_if_eq (tgt := 34) F dX9_feed_27 (by decide) (fun c27 => ?_) (fun c27f => ?_)
    · refine g_iconst (v := 0) F dX9_feed_34 (by decide) ?_
      refine g_iadd (v := iI (s + 0)) F dX9_feed_35 (iI_add rfl (by decide)) ?_
      refine g_istore (Ln := [(6, .int (iI (s + 0))), (0, .ref (E.2.1 62)), (1, .int a1), (2, .int a2), (3, .int a3), (4, .int a4), (5, .int a5), (7, .int 13)]) F dX9_feed_36 (by decide) rfl ?_
      refine g_iinc (v := 14) (Ln := [(7, .int 14), (6, .int (iI (s + 0))), (0, .ref (E.2.1 62)), (1, .int a1), (2, .int a2), (3, .int a3), (4, .int a4), (5, .int a5)]) F 7 dX9_feed_38 rfl (by decide) (by decide) rfl ?_
      refine g_goto (tgt := 6) F dX9_feed_41 (by decide) ?_
      refine g_sub (Ln := [(0, .ref (E.2.1 62)), (1, .int a1), (2, .int a2), (3, .int a3), (4, .int a4), (5, .int a5), (6, .int (iI (s + 0))), (7, .int 14)]) [2, 3, 4, 5, 6, 7, 1, 0] rfl ?_
      exact K14 _ (by rw [wb1_0 c27] at hs; simp only [List.length_nil, List.length_cons] at hs; omega)
    · refine g_iconst (v := 1) F dX9_feed_30 (by decide) ?_
      refine g_goto (tgt := 35) F dX9_feed_31 (by decide) ?_
      refine g_iadd (v := iI (s + 1)) F dX9_feed_35 (iI_add rfl (by decide)) ?_
      refine g_istore (Ln := [(6, .int (iI (s + 1))), (0, .ref (E.2.1 62)), (1, .int a1), (2, .int a2), (3, .int a3), (4, .int a4), (5, .int a5), (7, .int 13)]) F dX9_feed_36 (by decide) rfl ?_
      refine g_iinc (v := 14) (Ln := [(7, .int 14), (6, .int (iI (s + 1))), (0, .ref (E.2.1 62)), (1, .int a1), (2, .int a2), (3, .int a3), (4, .int a4), (5, .int a5)]) F 7 dX9_feed_38 rfl (by decide) (by decide) rfl ?_
      refine g_goto (tgt := 6) F dX9_feed_41 (by decide) ?_
      refine g_sub (Ln := [(0, .ref (E.2.1 62)), (1, .int a1), (2, .int a2), (3, .int a3), (4, .int a4), (5, .int a5), (6, .int (iI (s + 1))), (7, .int 14)]) [2, 3, 4, 5, 6, 7, 1, 0] rfl ?_
      exact K14 _ (by rw [wb1_1 c27f] at hs; simp only [List.length_nil, List.length_cons] at hs; omega)
  have K12 : ∀ s : Int, s + (wb1 a4 24).length + (wb1 a4 16).length + (wb1 a4 8).length + (wb1 a4 0).length + (wb1 a5 24).length + (wb1 a5 16).length + (wb1 a5 8).length + (wb1 a5 0).length = (bl a1 a2 a3 a4 a5).length → G z 6 [(0, .ref (E.2.1 62)), (1, .int a1), (2, .int a2), (3, .int a3), (4, .int a4), (5, .int a5), (6, .int (iI s)), (7, .int 12)] [] I J := by
    intro s hs
    refine g_iload F 7 dX9_feed_6 rfl ?_
    refine g_bipush (v := 20) F dX9_feed_8 (by decide) ?_
    refine g_icmp_ge (tgt := 44) F dX9_feed_10 (by decide) (fun h => absurd h (by decide)) (fun _ => ?_)
    refine g_iload F 6 dX9_feed_13 rfl ?_
    refine g_iload_n F 1 dX9_feed_15 rfl rfl ?_
    refine g_iload_n F 2 dX9_feed_16 rfl rfl ?_
    refine g_iload_n F 3 dX9_feed_17 rfl rfl ?_
    refine g_iload F 4 dX9_feed_18 rfl ?_
    refine g_iload F 5 dX9_feed_20 rfl ?_
    refine g_iload F 7 dX9_feed_22 rfl ?_
    refine g_callS (As := [.int a1, .int a2, .int a3, .int a4, .int a5, .int 12]) (rest := [.int (iI (s))]) F (kX9_byteOf_8 (zl z) E hE _ _ a1 a2 a3 a4 a5) mX9_byteOf q916 rfl rfl rfl (Nat.le_of_ble_eq_true rfl) dX9_feed_24 (fun r I29 J29 h29 => ?_)
    obtain ⟨rfl, eh29, fh29⟩ := h29
    refine g_mem eh29 fh29 ?_
    refine g_st (sn := [.int ((a4 >>> 24) &&& 255), .int (iI (s))]) rfl ?_
    refine g_if_eq (tgt := 34) F dX9_feed_27 (by decide) (fun c27 => ?_) (fun c27f => ?_)
    · refine g_iconst (v := 0) F dX9_feed_34 (by decide) ?_
      refine g_iadd (v := iI (s + 0)) F dX9_feed_35 (iI_add rfl (by decide)) ?_
      refine g_istore (Ln := [(6, .int (iI (s + 0))), (0, .ref (E.2.1 62)), (1, .int a1), (2, .int a2), (3, .int a3), (4, .int a4), (5, .int a5), (7, .int 12)]) F dX9_feed_36 (by decide) rfl ?_
      refine g_iinc (v := 13) (Ln := [(7, .int 13), (6, .int (iI (s + 0))), (0, .ref (E.2.1 62)), (1, .int a1), (2, .int a2), (3, .int a3), (4, .int a4), (5, .int a5)]) F 7 dX9_feed_38 rfl (by decide) (by decide) rfl ?_
      refine g_goto (tgt := 6) F dX9_feed_41 (by decide) ?_
      refine g_sub (Ln := [(0, .ref (E.2.1 62)), (1, .int a1), (2, .int a2), (3, .int a3), (4, .int a4), (5, .int a5), (6, .int (iI (s + 0))), (7, .int 13)]) [2, 3, 4, 5, 6, 7, 1, 0] rfl ?_
      exact K13 _ (by rw [wb1_0 c27] at hs; simp only [List.length_nil, List.length_cons] at hs; omega)
    · refine g_iconst (v := 1) F dX9_feed_30 (by decide) ?_
      refine g_goto (tgt := 35) F dX9_feed_31 (by decide) ?_
      refine g_iadd (v := iI (s + 1)) F dX9_feed_35 (iI_add rfl (by decide)) ?_
      refine g_istore (Ln := [(6, .int (iI (s + 1))), (0, .ref (E.2.1 62)), (1, .int a1), (2, .int a2), (3, .int a3), (4, .int a4), (5, .int a5), (7, .int 12)]) F dX9_feed_36 (by decide) rfl ?_
      refine g_iinc (v := 13) (Ln := [(7, .int 13), (6, .int (iI (s + 1))), (0, .ref (E.2.1 62)), (1, .int a1), (2, .int a2), (3, .int a3), (4, .int a4), (5, .int a5)]) F 7 dX9_feed_38 rfl (by decide) (by decide) rfl ?_
      refine g_goto (tgt := 6) F dX9_feed_41 (by decide) ?_
      refine g_sub (Ln := [(0, .ref (E.2.1 62)), (1, .int a1), (2, .int a2), (3, .int a3), (4, .int a4), (5, .int a5), (6, .int (iI (s + 1))), (7, .int 13)]) [2, 3, 4, 5, 6, 7, 1, 0] rfl ?_
      exact K13 _ (by rw [wb1_1 c27f] at hs; simp only [List.length_nil, List.length_cons] at hs; omega)
  have K11 : ∀ s : Int, s + (wb1 a3 0).length + (wb1 a4 24).length + (wb1 a4 16).length + (wb1 a4 8).length + (wb1 a4 0).length + (wb1 a5 24).length + (wb1 a5 16).length + (wb1 a5 8).length + (wb1 a5 0).length = (bl a1 a2 a3 a4 a5).length → G z 6 [(0, .ref (E.2.1 62)), (1, .int a1), (2, .int a2), (3, .int a3), (4, .int a4), (5, .int a5), (6, .int (iI s)), (7, .int 11)] [] I J := by
    intro s hs
    refine g_iload F 7 dX9_feed_6 rfl ?_
    refine g_bipush (v := 20) F dX9_feed_8 (by decide) ?_
    refine g_icmp_ge (tgt := 44) F dX9_feed_10 (by decide) (fun h => absurd h (by decide)) (fun _ => ?_)
    refine g_iload F 6 dX9_feed_13 rfl ?_
    refine g_iload_n F 1 dX9_feed_15 rfl rfl ?_
    refine g_iload_n F 2 dX9_feed_16 rfl rfl ?_
    refine g_iload_n F 3 dX9_feed_17 rfl rfl ?_
    refine g_iload F 4 dX9_feed_18 rfl ?_
    refine g_iload F 5 dX9_feed_20 rfl ?_
    refine g_iload F 7 dX9_feed_22 rfl ?_
    refine g_callS (As := [.int a1, .int a2, .int a3, .int a4, .int a5, .int 11]) (rest := [.int (iI (s))]) F (kX9_byteOf_9 (zl z) E hE _ _ a1 a2 a3 a4 a5) mX9_byteOf q916 rfl rfl rfl (Nat.le_of_ble_eq_true rfl) dX9_feed_24 (fun r I30 J30 h30 => ?_)
    obtain ⟨rfl, eh30, fh30⟩ := h30
    refine g_mem eh30 fh30 ?_
    refine g_st (sn := [.int ((a3 >>> 0) &&& 255), .int (iI (s))]) rfl ?_
    refine g_if_eq (tgt := 34) F dX9_feed_27 (by decide) (fun c27 => ?_) (fun c27f => ?_)
    · refine g_iconst (v := 0) F dX9_feed_34 (by decide) ?_
      refine g_iadd (v := iI (s + 0)) F dX9_feed_35 (iI_add rfl (by decide)) ?_
      refine g_istore (Ln := [(6, .int (iI (s + 0))), (0, .ref (E.2.1 62)), (1, .int a1), (2, .int a2), (3, .int a3), (4, .int a4), (5, .int a5), (7, .int 11)]) F dX9_feed_36 (by decide) rfl ?_
      refine g_iinc (v := 12) (Ln := [(7, .int 12), (6, .int (iI (s + 0))), (0, .ref (E.2.1 62)), (1, .int a1), (2, .int a2), (3, .int a3), (4, .int a4), (5, .int a5)]) F 7 dX9_feed_38 rfl (by decide) (by decide) rfl ?_
      refine g_goto (tgt := 6) F dX9_feed_41 (by decide) ?_
      refine g_sub (Ln := [(0, .ref (E.2.1 62)), (1, .int a1), (2, .int a2), (3, .int a3), (4, .int a4), (5, .int a5), (6, .int (iI (s + 0))), (7, .int 12)]) [2, 3, 4, 5, 6, 7, 1, 0] rfl ?_
      exact K12 _ (by rw [wb1_0 c27] at hs; simp only [List.length_nil, List.length_cons] at hs; omega)
    · refine g_iconst (v := 1) F dX9_feed_30 (by decide) ?_
      refine g_goto (tgt := 35) F dX9_feed_31 (by decide) ?_
      refine g_iadd (v := iI (s + 1)) F dX9_feed_35 (iI_add rfl (by decide)) ?_
      refine g_istore (Ln := [(6, .int (iI (s + 1))), (0, .ref (E.2.1 62)), (1, .int a1), (2, .int a2), (3, .int a3), (4, .int a4), (5, .int a5), (7, .int 11)]) F dX9_feed_36 (by decide) rfl ?_
      refine g_iinc (v := 12) (Ln := [(7, .int 12), (6, .int (iI (s + 1))), (0, .ref (E.2.1 62)), (1, .int a1), (2, .int a2), (3, .int a3), (4, .int a4), (5, .int a5)]) F 7 dX9_feed_38 rfl (by decide) (by decide) rfl ?_
      refine g_goto (tgt := 6) F dX9_feed_41 (by decide) ?_
      refine g_sub (Ln := [(0, .ref (E.2.1 62)), (1, .int a1), (2, .int a2), (3, .int a3), (4, .int a4), (5, .int a5), (6, .int (iI (s + 1))), (7, .int 12)]) [2, 3, 4, 5, 6, 7, 1, 0] rfl ?_
      exact K12 _ (by rw [wb1_1 c27f] at hs; simp only [List.length_nil, List.length_cons] at hs; omega)
  have K10 : ∀ s : Int, s + (wb1 a3 8).length + (wb1 a3 0).length + (wb1 a4 24).length + (wb1 a4 16).length + (wb1 a4 8).length + (wb1 a4 0).length + (wb1 a5 24).length + (wb1 a5 16).length + (wb1 a5 8).length + (wb1 a5 0).length = (bl a1 a2 a3 a4 a5).length → G z 6 [(0, .ref (E.2.1 62)), (1, .int a1), (2, .int a2), (3, .int a3), (4, .int a4), (5, .int a5), (6, .int (iI s)), (7, .int 10)] [] I J := by
    intro s hs
    refine g_iload F 7 dX9_feed_6 rfl ?_
    refine g_bipush (v := 20) F dX9_feed_8 (by decide) ?_
    refine g_icmp_ge (tgt := 44) F dX9_feed_10 (by decide) (fun h => absurd h (by decide)) (fun _ => ?_)
    refine g_iload F 6 dX9_feed_13 rfl ?_
    refine g_iload_n F 1 dX9_feed_15 rfl rfl ?_
    refine g_iload_n F 2 dX9_feed_16 rfl rfl ?_
    refine g_iload_n F 3 dX9_feed_17 rfl rfl ?_
    refine g_iload F 4 dX9_feed_18 rfl ?_
    refine g_iload F 5 dX9_feed_20 rfl ?_
    refine g_iload F 7 dX9_feed_22 rfl ?_
    refine g_callS (As := [.int a1, .int a2, .int a3, .int a4, .int a5, .int 10]) (rest := [.int (iI (s))]) F (kX9_byteOf_10 (zl z) E hE _ _ a1 a2 a3 a4 a5) mX9_byteOf q916 rfl rfl rfl (Nat.le_of_ble_eq_true rfl) dX9_feed_24 (fun r I31 J31 h31 => ?_)
    obtain ⟨rfl, eh31, fh31⟩ := h31
    refine g_mem eh31 fh31 ?_
    refine g_st (sn := [.int ((a3 >>> 8) &&& 255), .int (iI (s))]) rfl ?_
    refine g_if_eq (tgt := 34) F dX9_feed_27 (by decide) (fun c27 => ?_) (fun c27f => ?_)
    · refine g_iconst (v := 0) F dX9_feed_34 (by decide) ?_
      refine g_iadd (v := iI (s + 0)) F dX9_feed_35 (iI_add rfl (by decide)) ?_
      refine g_istore (Ln := [(6, .int (iI (s + 0))), (0, .ref (E.2.1 62)), (1, .int a1), (2, .int a2), (3, .int a3), (4, .int a4), (5, .int a5), (7, .int 10)]) F dX9_feed_36 (by decide) rfl ?_
      refine g_iinc (v := 11) (Ln := [(7, .int 11), (6, .int (iI (s + 0))), (0, .ref (E.2.1 62)), (1, .int a1), (2, .int a2), (3, .int a3), (4, .int a4), (5, .int a5)]) F 7 dX9_feed_38 rfl (by decide) (by decide) rfl ?_
      refine g_goto (tgt := 6) F dX9_feed_41 (by decide) ?_
      refine g_sub (Ln := [(0, .ref (E.2.1 62)), (1, .int a1), (2, .int a2), (3, .int a3), (4, .int a4), (5, .int a5), (6, .int (iI (s + 0))), (7, .int 11)]) [2, 3, 4, 5, 6, 7, 1, 0] rfl ?_
      exact K11 _ (by rw [wb1_0 c27] at hs; simp only [List.length_nil, List.length_cons] at hs; omega)
    · refine g_iconst (v := 1) F dX9_feed_30 (by decide) ?_
      refine g_goto (tgt := 35) F dX9_feed_31 (by decide) ?_
      refine g_iadd (v := iI (s + 1)) F dX9_feed_35 (iI_add rfl (by decide)) ?_
      refine g_istore (Ln := [(6, .int (iI (s + 1))), (0, .ref (E.2.1 62)), (1, .int a1), (2, .int a2), (3, .int a3), (4, .int a4), (5, .int a5), (7, .int 10)]) F dX9_feed_36 (by decide) rfl ?_
      refine g_iinc (v := 11) (Ln := [(7, .int 11), (6, .int (iI (s + 1))), (0, .ref (E.2.1 62)), (1, .int a1), (2, .int a2), (3, .int a3), (4, .int a4), (5, .int a5)]) F 7 dX9_feed_38 rfl (by decide) (by decide) rfl ?_
      refine g_goto (tgt := 6) F dX9_feed_41 (by decide) ?_
      refine g_sub (Ln := [(0, .ref (E.2.1 62)), (1, .int a1), (2, .int a2), (3, .int a3), (4, .int a4), (5, .int a5), (6, .int (iI (s + 1))), (7, .int 11)]) [2, 3, 4, 5, 6, 7, 1, 0] rfl ?_
      exact K11 _ (by rw [wb1_1 c27f] at hs; simp only [List.length_nil, List.length_cons] at hs; omega)
  have K9 : ∀ s : Int, s + (wb1 a3 16).length + (wb1 a3 8).length + (wb1 a3 0).length + (wb1 a4 24).length + (wb1 a4 16).length + (wb1 a4 8).length + (wb1 a4 0).length + (wb1 a5 24).length + (wb1 a5 16).length + (wb1 a5 8).length + (wb1 a5 0).length = (bl a1 a2 a3 a4 a5).length → G z 6 [(0, .ref (E.2.1 62)), (1, .int a1), (2, .int a2), (3, .int a3), (4, .int a4), (5, .int a5), (6, .int (iI s)), (7, .int 9)] [] I J := by
    intro s hs
    refine g_iload F 7 dX9_feed_6 rfl ?_
    refine g_bipush (v := 20) F dX9_feed_8 (by decide) ?_
    refine g_icmp_ge (tgt := 44) F dX9_feed_10 (by decide) (fun h => absurd h (by decide)) (fun _ => ?_)
    refine g_iload F 6 dX9_feed_13 rfl ?_
    refine g_iload_n F 1 dX9_feed_15 rfl rfl ?_
    refine g_iload_n F 2 dX9_feed_16 rfl rfl ?_
    refine g_iload_n F 3 dX9_feed_17 rfl rfl ?_
    refine g_iload F 4 dX9_feed_18 rfl ?_
    refine g_iload F 5 dX9_feed_20 rfl ?_
    refine g_iload F 7 dX9_feed_22 rfl ?_
    refine g_callS (As := [.int a1, .int a2, .int a3, .int a4, .int a5, .int 9]) (rest := [.int (iI (s))]) F (kX9_byteOf_11 (zl z) E hE _ _ a1 a2 a3 a4 a5) mX9_byteOf q916 rfl rfl rfl (Nat.le_of_ble_eq_true rfl) dX9_feed_24 (fun r I32 J32 h32 => ?_)
    obtain ⟨rfl, eh32, fh32⟩ := h32
    refine g_mem eh32 fh32 ?_
    refine g_st (sn := [.int ((a3 >>> 16) &&& 255), .int (iI (s))]) rfl ?_
    refine g_if_eq (tgt := 34) F dX9_feed_27 (by decide) (fun c27 => ?_) (fun c27f => ?_)
    · refine g_iconst (v := 0) F dX9_feed_34 (by decide) ?_
      refine g_iadd (v := iI (s + 0)) F dX9_feed_35 (iI_add rfl (by decide)) ?_
      refine g_istore (Ln := [(6, .int (iI (s + 0))), (0, .ref (E.2.1 62)), (1, .int a1), (2, .int a2), (3, .int a3), (4, .int a4), (5, .int a5), (7, .int 9)]) F dX9_feed_36 (by decide) rfl ?_
      refine g_iinc (v := 10) (Ln := [(7, .int 10), (6, .int (iI (s + 0))), (0, .ref (E.2.1 62)), (1, .int a1), (2, .int a2), (3, .int a3), (4, .int a4), (5, .int a5)]) F 7 dX9_feed_38 rfl (by decide) (by decide) rfl ?_
      refine g_goto (tgt := 6) F dX9_feed_41 (by decide) ?_
      refine g_sub (Ln := [(0, .ref (E.2.1 62)), (1, .int a1), (2, .int a2), (3, .int a3), (4, .int a4), (5, .int a5), (6, .int (iI (s + 0))), (7, .int 10)]) [2, 3, 4, 5, 6, 7, 1, 0] rfl ?_
      exact K10 _ (by rw [wb1_0 c27] at hs; simp only [List.length_nil, List.length_cons] at hs; omega)
    · refine g_iconst (v := 1) F dX9_feed_30 (by decide) ?_
      refine g_goto (tgt := 35) F dX9_feed_31 (by decide) ?_
      refine g_iadd (v := iI (s + 1)) F dX9_feed_35 (iI_add rfl (by decide)) ?_
      refine g_istore (Ln := [(6, .int (iI (s + 1))), (0, .ref (E.2.1 62)), (1, .int a1), (2, .int a2), (3, .int a3), (4, .int a4), (5, .int a5), (7, .int 9)]) F dX9_feed_36 (by decide) rfl ?_
      refine g_iinc (v := 10) (Ln := [(7, .int 10), (6, .int (iI (s + 1))), (0, .ref (E.2.1 62)), (1, .int a1), (2, .int a2), (3, .int a3), (4, .int a4), (5, .int a5)]) F 7 dX9_feed_38 rfl (by decide) (by decide) rfl ?_
      refine g_goto (tgt := 6) F dX9_feed_41 (by decide) ?_
      refine g_sub (Ln := [(0, .ref (E.2.1 62)), (1, .int a1), (2, .int a2), (3, .int a3), (4, .int a4), (5, .int a5), (6, .int (iI (s + 1))), (7, .int 10)]) [2, 3, 4, 5, 6, 7, 1, 0] rfl ?_
      exact K10 _ (by rw [wb1_1 c27f] at hs; simp only [List.length_nil, List.length_cons] at hs; omega)
  have K8 : ∀ s : Int, s + (wb1 a3 24).length + (wb1 a3 16).length + (wb1 a3 8).length + (wb1 a3 0).length + (wb1 a4 24).length + (wb1 a4 16).length + (wb1 a4 8).length + (wb1 a4 0).length + (wb1 a5 24).length + (wb1 a5 16).length + (wb1 a5 8).length + (wb1 a5 0).length = (bl a1 a2 a3 a4 a5).length → G z 6 [(0, .ref (E.2.1 62)), (1, .int a1), (2, .int a2), (3, .int a3), (4, .int a4), (5, .int a5), (6, .int (iI s)), (7, .int 8)] [] I J := by
    intro s hs
    refine g_iload F 7 dX9_feed_6 rfl ?_
    refine g_bipush (v := 20) F dX9_feed_8 (by decide) ?_
    refine g_icmp_ge (tgt := 44) F dX9_feed_10 (by decide) (fun h => absurd h (by decide)) (fun _ => ?_)
    refine g_iload F 6 dX9_feed_13 rfl ?_
    refine g_iload_n F 1 dX9_feed_15 rfl rfl ?_
    refine g_iload_n F 2 dX9_feed_16 rfl rfl ?_
    refine g_iload_n F 3 dX9_feed_17 rfl rfl ?_
    refine g_iload F 4 dX9_feed_18 rfl ?_
    refine g_iload F 5 dX9_feed_20 rfl ?_
    refine g_iload F 7 dX9_feed_22 rfl ?_
    refine g_callS (As := [.int a1, .int a2, .int a3, .int a4, .int a5, .int 8]) (rest := [.int (iI (s))]) F (kX9_byteOf_12 (zl z) E hE _ _ a1 a2 a3 a4 a5) mX9_byteOf q916 rfl rfl rfl (Nat.le_of_ble_eq_true rfl) dX9_feed_24 (fun r I33 J33 h33 => ?_)
    obtain ⟨rfl, eh33, fh33⟩ := h33
    refine g_mem eh33 fh33 ?_
    refine g_st (sn := [.int ((a3 >>> 24) &&& 255), .int (iI (s))]) rfl ?_
    refine g_if_eq (tgt := 34) F dX9_feed_27 (by decide) (fun c27 => ?_) (fun c27f => ?_)
    · refine g_iconst (v := 0) F dX9_feed_34 (by decide) ?_
      refine g_iadd (v := iI (s + 0)) F dX9_feed_35 (iI_add rfl (by decide)) ?_
      refine g_istore (Ln := [(6, .int (iI (s + 0))), (0, .ref (E.2.1 62)), (1, .int a1), (2, .int a2), (3, .int a3), (4, .int a4), (5, .int a5), (7, .int 8)]) F dX9_feed_36 (by decide) rfl ?_
      refine g_iinc (v := 9) (Ln := [(7, .int 9), (6, .int (iI (s + 0))), (0, .ref (E.2.1 62)), (1, .int a1), (2, .int a2), (3, .int a3), (4, .int a4), (5, .int a5)]) F 7 dX9_feed_38 rfl (by decide) (by decide) rfl ?_
      refine g_goto (tgt := 6) F dX9_feed_41 (by decide) ?_
      refine g_sub (Ln := [(0, .ref (E.2.1 62)), (1, .int a1), (2, .int a2), (3, .int a3), (4, .int a4), (5, .int a5), (6, .int (iI (s + 0))), (7, .int 9)]) [2, 3, 4, 5, 6, 7, 1, 0] rfl ?_
      exact K9 _ (by rw [wb1_0 c27] at hs; simp only [List.length_nil, List.length_cons] at hs; omega)
    · refine g_iconst (v := 1) F dX9_feed_30 (by decide) ?_
      refine g_goto (tgt := 35) F dX9_feed_31 (by decide) ?_
      refine g_iadd (v := iI (s + 1)) F dX9_feed_35 (iI_add rfl (by decide)) ?_
      refine g_istore (Ln := [(6, .int (iI (s + 1))), (0, .ref (E.2.1 62)), (1, .int a1), (2, .int a2), (3, .int a3), (4, .int a4), (5, .int a5), (7, .int 8)]) F dX9_feed_36 (by decide) rfl ?_
      refine g_iinc (v := 9) (Ln := [(7, .int 9), (6, .int (iI (s + 1))), (0, .ref (E.2.1 62)), (1, .int a1), (2, .int a2), (3, .int a3), (4, .int a4), (5, .int a5)]) F 7 dX9_feed_38 rfl (by decide) (by decide) rfl ?_
      refine g_goto (tgt := 6) F dX9_feed_41 (by decide) ?_
      refine g_sub (Ln := [(0, .ref (E.2.1 62)), (1, .int a1), (2, .int a2), (3, .int a3), (4, .int a4), (5, .int a5), (6, .int (iI (s + 1))), (7, .int 9)]) [2, 3, 4, 5, 6, 7, 1, 0] rfl ?_
      exact K9 _ (by rw [wb1_1 c27f] at hs; simp only [List.length_nil, List.length_cons] at hs; omega)
  have K7 : ∀ s : Int, s + (wb1 a2 0).length + (wb1 a3 24).length + (wb1 a3 16).length + (wb1 a3 8).length + (wb1 a3 0).length + (wb1 a4 24).length + (wb1 a4 16).length + (wb1 a4 8).length + (wb1 a4 0).length + (wb1 a5 24).length + (wb1 a5 16).length + (wb1 a5 8).length + (wb1 a5 0).length = (bl a1 a2 a3 a4 a5).length → G z 6 [(0, .ref (E.2.1 62)), (1, .int a1), (2, .int a2), (3, .int a3), (4, .int a4), (5, .int a5), (6, .int (iI s)), (7, .int 7)] [] I J := by
    intro s hs
    refine g_iload F 7 dX9_feed_6 rfl ?_
    refine g_bipush (v := 20) F dX9_feed_8 (by decide) ?_
    refine g_icmp_ge (tgt := 44) F dX9_feed_10 (by decide) (fun h => absurd h (by decide)) (fun _ => ?_)
    refine g_iload F 6 dX9_feed_13 rfl ?_
    refine g_iload_n F 1 dX9_feed_15 rfl rfl ?_
    refine g_iload_n F 2 dX9_feed_16 rfl rfl ?_
    refine g_iload_n F 3 dX9_feed_17 rfl rfl ?_
    refine g_iload F 4 dX9_feed_18 rfl ?_
    refine g_iload F 5 dX9_feed_20 rfl ?_
    refine g_iload F 7 dX9_feed_22 rfl ?_
    refine g_callS (As := [.int a1, .int a2, .int a3, .int a4, .int a5, .int 7]) (rest := [.int (iI (s))]) F (kX9_byteOf_13 (zl z) E hE _ _ a1 a2 a3 a4 a5) mX9_byteOf q916 rfl rfl rfl (Nat.le_of_ble_eq_true rfl) dX9_feed_24 (fun r I34 J34 h34 => ?_)
    obtain ⟨rfl, eh34, fh34⟩ := h34
    refine g_mem eh34 fh34 ?_
    refine g_st (sn := [.int ((a2 >>> 0) &&& 255), .int (iI (s))]) rfl ?_
    refine g_if_eq (tgt := 34) F dX9_feed_27 (by decide) (fun c27 => ?_) (fun c27f => ?_)
    · refine g_iconst (v := 0) F dX9_feed_34 (by decide) ?_
      refine g_iadd (v := iI (s + 0)) F dX9_feed_35 (iI_add rfl (by decide)) ?_
      refine g_istore (Ln := [(6, .int (iI (s + 0))), (0, .ref (E.2.1 62)), (1, .int a1), (2, .int a2), (3, .int a3), (4, .int a4), (5, .int a5), (7, .int 7)]) F dX9_feed_36 (by decide) rfl ?_
      refine g_iinc (v := 8) (Ln := [(7, .int 8), (6, .int (iI (s + 0))), (0, .ref (E.2.1 62)), (1, .int a1), (2, .int a2), (3, .int a3), (4, .int a4), (5, .int a5)]) F 7 dX9_feed_38 rfl (by decide) (by decide) rfl ?_
      refine g_goto (tgt := 6) F dX9_feed_41 (by decide) ?_
      refine g_sub (Ln := [(0, .ref (E.2.1 62)), (1, .int a1), (2, .int a2), (3, .int a3), (4, .int a4), (5, .int a5), (6, .int (iI (s + 0))), (7, .int 8)]) [2, 3, 4, 5, 6, 7, 1, 0] rfl ?_
      exact K8 _ (by rw [wb1_0 c27] at hs; simp only [List.length_nil, List.length_cons] at hs; omega)
    · refine g_iconst (v := 1) F dX9_feed_30 (by decide) ?_
      refine g_goto (tgt := 35) F dX9_feed_31 (by decide) ?_
      refine g_iadd (v := iI (s + 1)) F dX9_feed_35 (iI_add rfl (by decide)) ?_
      refine g_istore (Ln := [(6, .int (iI (s + 1))), (0, .ref (E.2.1 62)), (1, .int a1), (2, .int a2), (3, .int a3), (4, .int a4), (5, .int a5), (7, .int 7)]) F dX9_feed_36 (by decide) rfl ?_
      refine g_iinc (v := 8) (Ln := [(7, .int 8), (6, .int (iI (s + 1))), (0, .ref (E.2.1 62)), (1, .int a1), (2, .int a2), (3, .int a3), (4, .int a4), (5, .int a5)]) F 7 dX9_feed_38 rfl (by decide) (by decide) rfl ?_
      refine g_goto (tgt := 6) F dX9_feed_41 (by decide) ?_
      refine g_sub (Ln := [(0, .ref (E.2.1 62)), (1, .int a1), (2, .int a2), (3, .int a3), (4, .int a4), (5, .int a5), (6, .int (iI (s + 1))), (7, .int 8)]) [2, 3, 4, 5, 6, 7, 1, 0] rfl ?_
      exact K8 _ (by rw [wb1_1 c27f] at hs; simp only [List.length_nil, List.length_cons] at hs; omega)
  have K6 : ∀ s : Int, s + (wb1 a2 8).length + (wb1 a2 0).length + (wb1 a3 24).length + (wb1 a3 16).length + (wb1 a3 8).length + (wb1 a3 0).length + (wb1 a4 24).length + (wb1 a4 16).length + (wb1 a4 8).length + (wb1 a4 0).length + (wb1 a5 24).length + (wb1 a5 16).length + (wb1 a5 8).length + (wb1 a5 0).length = (bl a1 a2 a3 a4 a5).length → G z 6 [(0, .ref (E.2.1 62)), (1, .int a1), (2, .int a2), (3, .int a3), (4, .int a4), (5, .int a5), (6, .int (iI s)), (7, .int 6)] [] I J := by
    intro s hs
    refine g_iload F 7 dX9_feed_6 rfl ?_
    refine g_bipush (v := 20) F dX9_feed_8 (by decide) ?_
    refine g_icmp_ge (tgt := 44) F dX9_feed_10 (by decide) (fun h => absurd h (by decide)) (fun _ => ?_)
    refine g_iload F 6 dX9_feed_13 rfl ?_
    refine g_iload_n F 1 dX9_feed_15 rfl rfl ?_
    refine g_iload_n F 2 dX9_feed_16 rfl rfl ?_
    refine g_iload_n F 3 dX9_feed_17 rfl rfl ?_
    refine g_iload F 4 dX9_feed_18 rfl ?_
    refine g_iload F 5 dX9_feed_20 rfl ?_
    refine g_iload F 7 dX9_feed_22 rfl ?_
    refine g_callS (As := [.int a1, .int a2, .int a3, .int a4, .int a5, .int 6]) (rest := [.int (iI (s))]) F (kX9_byteOf_14 (zl z) E hE _ _ a1 a2 a3 a4 a5) mX9_byteOf q916 rfl rfl rfl (Nat.le_of_ble_eq_true rfl) dX9_feed_24 (fun r I35 J35 h35 => ?_)
    obtain ⟨rfl, eh35, fh35⟩ := h35
    refine g_mem eh35 fh35 ?_
    refine g_st (sn := [.int ((a2 >>> 8) &&& 255), .int (iI (s))]) rfl ?_
    refine g_if_eq (tgt := 34) F dX9_feed_27 (by decide) (fun c27 => ?_) (fun c27f => ?_)
    · refine g_iconst (v := 0) F dX9_feed_34 (by decide) ?_
      refine g_iadd (v := iI (s + 0)) F dX9_feed_35 (iI_add rfl (by decide)) ?_
      refine g_istore (Ln := [(6, .int (iI (s + 0))), (0, .ref (E.2.1 62)), (1, .int a1), (2, .int a2), (3, .int a3), (4, .int a4), (5, .int a5), (7, .int 6)]) F dX9_feed_36 (by decide) rfl ?_
      refine g_iinc (v := 7) (Ln := [(7, .int 7), (6, .int (iI (s + 0))), (0, .ref (E.2.1 62)), (1, .int a1), (2, .int a2), (3, .int a3), (4, .int a4), (5, .int a5)]) F 7 dX9_feed_38 rfl (by decide) (by decide) rfl ?_
      refine g_goto (tgt := 6) F dX9_feed_41 (by decide) ?_
      refine g_sub (Ln := [(0, .ref (E.2.1 62)), (1, .int a1), (2, .int a2), (3, .int a3), (4, .int a4), (5, .int a5), (6, .int (iI (s + 0))), (7, .int 7)]) [2, 3, 4, 5, 6, 7, 1, 0] rfl ?_
      exact K7 _ (by rw [wb1_0 c27] at hs; simp only [List.length_nil, List.length_cons] at hs; omega)
    · refine g_iconst (v := 1) F dX9_feed_30 (by decide) ?_
      refine g_goto (tgt := 35) F dX9_feed_31 (by decide) ?_
      refine g_iadd (v := iI (s + 1)) F dX9_feed_35 (iI_add rfl (by decide)) ?_
      refine g_istore (Ln := [(6, .int (iI (s + 1))), (0, .ref (E.2.1 62)), (1, .int a1), (2, .int a2), (3, .int a3), (4, .int a4), (5, .int a5), (7, .int 6)]) F dX9_feed_36 (by decide) rfl ?_
      refine g_iinc (v := 7) (Ln := [(7, .int 7), (6, .int (iI (s + 1))), (0, .ref (E.2.1 62)), (1, .int a1), (2, .int a2), (3, .int a3), (4, .int a4), (5, .int a5)]) F 7 dX9_feed_38 rfl (by decide) (by decide) rfl ?_
      refine g_goto (tgt := 6) F dX9_feed_41 (by decide) ?_
      refine g_sub (Ln := [(0, .ref (E.2.1 62)), (1, .int a1), (2, .int a2), (3, .int a3), (4, .int a4), (5, .int a5), (6, .int (iI (s + 1))), (7, .int 7)]) [2, 3, 4, 5, 6, 7, 1, 0] rfl ?_
      exact K7 _ (by rw [wb1_1 c27f] at hs; simp only [List.length_nil, List.length_cons] at hs; omega)
  have K5 : ∀ s : Int, s + (wb1 a2 16).length + (wb1 a2 8).length + (wb1 a2 0).length + (wb1 a3 24).length + (wb1 a3 16).length + (wb1 a3 8).length + (wb1 a3 0).length + (wb1 a4 24).length + (wb1 a4 16).length + (wb1 a4 8).length + (wb1 a4 0).length + (wb1 a5 24).length + (wb1 a5 16).length + (wb1 a5 8).length + (wb1 a5 0).length = (bl a1 a2 a3 a4 a5).length → G z 6 [(0, .ref (E.2.1 62)), (1, .int a1), (2, .int a2), (3, .int a3), (4, .int a4), (5, .int a5), (6, .int (iI s)), (7, .int 5)] [] I J := by
    intro s hs
    refine g_iload F 7 dX9_feed_6 rfl ?_
    refine g_bipush (v := 20) F dX9_feed_8 (by decide) ?_
    refine g_icmp_ge (tgt := 44) F dX9_feed_10 (by decide) (fun h => absurd h (by decide)) (fun _ => ?_)
    refine g_iload F 6 dX9_feed_13 rfl ?_
    refine g_iload_n F 1 dX9_feed_15 rfl rfl ?_
    refine g_iload_n F 2 dX9_feed_16 rfl rfl ?_
    refine g_iload_n F 3 dX9_feed_17 rfl rfl ?_
    refine g_iload F 4 dX9_feed_18 rfl ?_
    refine g_iload F 5 dX9_feed_20 rfl ?_
    refine g_iload F 7 dX9_feed_22 rfl ?_
    refine g_callS (As := [.int a1, .int a2, .int a3, .int a4, .int a5, .int 5]) (rest := [.int (iI (s))]) F (kX9_byteOf_15 (zl z) E hE _ _ a1 a2 a3 a4 a5) mX9_byteOf q916 rfl rfl rfl (Nat.le_of_ble_eq_true rfl) dX9_feed_24 (fun r I36 J36 h36 => ?_)
    obtain ⟨rfl, eh36, fh36⟩ := h36
    refine g_mem eh36 fh36 ?_
    refine g_st (sn := [.int ((a2 >>> 16) &&& 255), .int (iI (s))]) rfl ?_
    refine g_if_eq (tgt := 34) F dX9_feed_27 (by decide) (fun c27 => ?_) (fun c27f => ?_)
    · refine g_iconst (v := 0) F dX9_feed_34 (by decide) ?_
      refine g_iadd (v := iI (s + 0)) F dX9_feed_35 (iI_add rfl (by decide)) ?_
      refine g_istore (Ln := [(6, .int (iI (s + 0))), (0, .ref (E.2.1 62)), (1, .int a1), (2, .int a2), (3, .int a3), (4, .int a4), (5, .int a5), (7, .int 5)]) F dX9_feed_36 (by decide) rfl ?_
      refine g_iinc (v := 6) (Ln := [(7, .int 6), (6, .int (iI (s + 0))), (0, .ref (E.2.1 62)), (1, .int a1), (2, .int a2), (3, .int a3), (4, .int a4), (5, .int a5)]) F 7 dX9_feed_38 rfl (by decide) (by decide) rfl ?_
      refine g_goto (tgt := 6) F dX9_feed_41 (by decide) ?_
      refine g_sub (Ln := [(0, .ref (E.2.1 62)), (1, .int a1), (2, .int a2), (3, .int a3), (4, .int a4), (5, .int a5), (6, .int (iI (s + 0))), (7, .int 6)]) [2, 3, 4, 5, 6, 7, 1, 0] rfl ?_
      exact K6 _ (by rw [wb1_0 c27] at hs; simp only [List.length_nil, List.length_cons] at hs; omega)
    · refine g_iconst (v := 1) F dX9_feed_30 (by decide) ?_
      refine g_goto (tgt := 35) F dX9_feed_31 (by decide) ?_
      refine g_iadd (v := iI (s + 1)) F dX9_feed_35 (iI_add rfl (by decide)) ?_
      refine g_istore (Ln := [(6, .int (iI (s + 1))), (0, .ref (E.2.1 62)), (1, .int a1), (2, .int a2), (3, .int a3), (4, .int a4), (5, .int a5), (7, .int 5)]) F dX9_feed_36 (by decide) rfl ?_
      refine g_iinc (v := 6) (Ln := [(7, .int 6), (6, .int (iI (s + 1))), (0, .ref (E.2.1 62)), (1, .int a1), (2, .int a2), (3, .int a3), (4, .int a4), (5, .int a5)]) F 7 dX9_feed_38 rfl (by decide) (by decide) rfl ?_
      refine g_goto (tgt := 6) F dX9_feed_41 (by decide) ?_
      refine g_sub (Ln := [(0, .ref (E.2.1 62)), (1, .int a1), (2, .int a2), (3, .int a3), (4, .int a4), (5, .int a5), (6, .int (iI (s + 1))), (7, .int 6)]) [2, 3, 4, 5, 6, 7, 1, 0] rfl ?_
      exact K6 _ (by rw [wb1_1 c27f] at hs; simp only [List.length_nil, List.length_cons] at hs; omega)
  have K4 : ∀ s : Int, s + (wb1 a2 24).length + (wb1 a2 16).length + (wb1 a2 8).length + (wb1 a2 0).length + (wb1 a3 24).length + (wb1 a3 16).length + (wb1 a3 8).length + (wb1 a3 0).length + (wb1 a4 24).length + (wb1 a4 16).length + (wb1 a4 8).length + (wb1 a4 0).length + (wb1 a5 24).length + (wb1 a5 16).length + (wb1 a5 8).length + (wb1 a5 0).length = (bl a1 a2 a3 a4 a5).length → G z 6 [(0, .ref (E.2.1 62)), (1, .int a1), (2, .int a2), (3, .int a3), (4, .int a4), (5, .int a5), (6, .int (iI s)), (7, .int 4)] [] I J := by
    intro s hs
    refine g_iload F 7 dX9_feed_6 rfl ?_
    refine g_bipush (v := 20) F dX9_feed_8 (by decide) ?_
    refine g_icmp_ge (tgt := 44) F dX9_feed_10 (by decide) (fun h => absurd h (by decide)) (fun _ => ?_)
    refine g_iload F 6 dX9_feed_13 rfl ?_
    refine g_iload_n F 1 dX9_feed_15 rfl rfl ?_
    refine g_iload_n F 2 dX9_feed_16 rfl rfl ?_
    refine g_iload_n F 3 dX9_feed_17 rfl rfl ?_
    refine g_iload F 4 dX9_feed_18 rfl ?_
    refine g_iload F 5 dX9_feed_20 rfl ?_
    refine g_iload F 7 dX9_feed_22 rfl ?_
    refine g_callS (As := [.int a1, .int a2, .int a3, .int a4, .int a5, .int 4]) (rest := [.int (iI (s))]) F (kX9_byteOf_16 (zl z) E hE _ _ a1 a2 a3 a4 a5) mX9_byteOf q916 rfl rfl rfl (Nat.le_of_ble_eq_true rfl) dX9_feed_24 (fun r I37 J37 h37 => ?_)
    obtain ⟨rfl, eh37, fh37⟩ := h37
    refine g_mem eh37 fh37 ?_
    refine g_st (sn := [.int ((a2 >>> 24) &&& 255), .int (iI (s))]) rfl ?_
    refine g_if_eq (tgt := 34) F dX9_feed_27 (by decide) (fun c27 => ?_) (fun c27f => ?_)
    · refine g_iconst (v := 0) F dX9_feed_34 (by decide) ?_
      refine g_iadd (v := iI (s + 0)) F dX9_feed_35 (iI_add rfl (by decide)) ?_
      refine g_istore (Ln := [(6, .int (iI (s + 0))), (0, .ref (E.2.1 62)), (1, .int a1), (2, .int a2), (3, .int a3), (4, .int a4), (5, .int a5), (7, .int 4)]) F dX9_feed_36 (by decide) rfl ?_
      refine g_iinc (v := 5) (Ln := [(7, .int 5), (6, .int (iI (s + 0))), (0, .ref (E.2.1 62)), (1, .int a1), (2, .int a2), (3, .int a3), (4, .int a4), (5, .int a5)]) F 7 dX9_feed_38 rfl (by decide) (by decide) rfl ?_
      refine g_goto (tgt := 6) F dX9_feed_41 (by decide) ?_
      refine g_sub (Ln := [(0, .ref (E.2.1 62)), (1, .int a1), (2, .int a2), (3, .int a3), (4, .int a4), (5, .int a5), (6, .int (iI (s + 0))), (7, .int 5)]) [2, 3, 4, 5, 6, 7, 1, 0] rfl ?_
      exact K5 _ (by rw [wb1_0 c27] at hs; simp only [List.length_nil, List.length_cons] at hs; omega)
    · refine g_iconst (v := 1) F dX9_feed_30 (by decide) ?_
      refine g_goto (tgt := 35) F dX9_feed_31 (by decide) ?_
      refine g_iadd (v := iI (s + 1)) F dX9_feed_35 (iI_add rfl (by decide)) ?_
      refine g_istore (Ln := [(6, .int (iI (s + 1))), (0, .ref (E.2.1 62)), (1, .int a1), (2, .int a2), (3, .int a3), (4, .int a4), (5, .int a5), (7, .int 4)]) F dX9_feed_36 (by decide) rfl ?_
      refine g_iinc (v := 5) (Ln := [(7, .int 5), (6, .int (iI (s + 1))), (0, .ref (E.2.1 62)), (1, .int a1), (2, .int a2), (3, .int a3), (4, .int a4), (5, .int a5)]) F 7 dX9_feed_38 rfl (by decide) (by decide) rfl ?_
      refine g_goto (tgt := 6) F dX9_feed_41 (by decide) ?_
      refine g_sub (Ln := [(0, .ref (E.2.1 62)), (1, .int a1), (2, .int a2), (3, .int a3), (4, .int a4), (5, .int a5), (6, .int (iI (s + 1))), (7, .int 5)]) [2, 3, 4, 5, 6, 7, 1, 0] rfl ?_
      exact K5 _ (by rw [wb1_1 c27f] at hs; simp only [List.length_nil, List.length_cons] at hs; omega)
  have K3 : ∀ s : Int, s + (wb1 a1 0).length + (wb1 a2 24).length + (wb1 a2 16).length + (wb1 a2 8).length + (wb1 a2 0).length + (wb1 a3 24).length + (wb1 a3 16).length + (wb1 a3 8).length + (wb1 a3 0).length + (wb1 a4 24).length + (wb1 a4 16).length + (wb1 a4 8).length + (wb1 a4 0).length + (wb1 a5 24).length + (wb1 a5 16).length + (wb1 a5 8).length + (wb1 a5 0).length = (bl a1 a2 a3 a4 a5).length → G z 6 [(0, .ref (E.2.1 62)), (1, .int a1), (2, .int a2), (3, .int a3), (4, .int a4), (5, .int a5), (6, .int (iI s)), (7, .int 3)] [] I J := by
    intro s hs
    refine g_iload F 7 dX9_feed_6 rfl ?_
    refine g_bipush (v := 20) F dX9_feed_8 (by decide) ?_
    refine g_icmp_ge (tgt := 44) F dX9_feed_10 (by decide) (fun h => absurd h (by decide)) (fun _ => ?_)
    refine g_iload F 6 dX9_feed_13 rfl ?_
    refine g_iload_n F 1 dX9_feed_15 rfl rfl ?_
    refine g_iload_n F 2 dX9_feed_16 rfl rfl ?_
    refine g_iload_n F 3 dX9_feed_17 rfl rfl ?_
    refine g_iload F 4 dX9_feed_18 rfl ?_
    refine g_iload F 5 dX9_feed_20 rfl ?_
    refine g_iload F 7 dX9_feed_22 rfl ?_
    refine g_callS (As := [.int a1, .int a2, .int a3, .int a4, .int a5, .int 3]) (rest := [.int (iI (s))]) F (kX9_byteOf_17 (zl z) E hE _ _ a1 a2 a3 a4 a5) mX9_byteOf q916 rfl rfl rfl (Nat.le_of_ble_eq_true rfl) dX9_feed_24 (fun r I38 J38 h38 => ?_)
    obtain ⟨rfl, eh38, fh38⟩ := h38
    refine g_mem eh38 fh38 ?_
    refine g_st (sn := [.int ((a1 >>> 0) &&& 255), .int (iI (s))]) rfl ?_
    refine g_if_eq (tgt := 34) F dX9_feed_27 (by decide) (fun c27 => ?_) (fun c27f => ?_)
    · refine g_iconst (v := 0) F dX9_feed_34 (by decide) ?_
      refine g_iadd (v := iI (s + 0)) F dX9_feed_35 (iI_add rfl (by decide)) ?_
      refine g_istore (Ln := [(6, .int (iI (s + 0))), (0, .ref (E.2.1 62)), (1, .int a1), (2, .int a2), (3, .int a3), (4, .int a4), (5, .int a5), (7, .int 3)]) F dX9_feed_36 (by decide) rfl ?_
      refine g_iinc (v := 4) (Ln := [(7, .int 4), (6, .int (iI (s + 0))), (0, .ref (E.2.1 62)), (1, .int a1), (2, .int a2), (3, .int a3), (4, .int a4), (5, .int a5)]) F 7 dX9_feed_38 rfl (by decide) (by decide) rfl ?_
      refine g_goto (tgt := 6) F dX9_feed_41 (by decide) ?_
      refine g_sub (Ln := [(0, .ref (E.2.1 62)), (1, .int a1), (2, .int a2), (3, .int a3), (4, .int a4), (5, .int a5), (6, .int (iI (s + 0))), (7, .int 4)]) [2, 3, 4, 5, 6, 7, 1, 0] rfl ?_
      exact K4 _ (by rw [wb1_0 c27] at hs; simp only [List.length_nil, List.length_cons] at hs; omega)
    · refine g_iconst (v := 1) F dX9_feed_30 (by decide) ?_
      refine g_goto (tgt := 35) F dX9_feed_31 (by decide) ?_
      refine g_iadd (v := iI (s + 1)) F dX9_feed_35 (iI_add rfl (by decide)) ?_
      refine g_istore (Ln := [(6, .int (iI (s + 1))), (0, .ref (E.2.1 62)), (1, .int a1), (2, .int a2), (3, .int a3), (4, .int a4), (5, .int a5), (7, .int 3)]) F dX9_feed_36 (by decide) rfl ?_
      refine g_iinc (v := 4) (Ln := [(7, .int 4), (6, .int (iI (s + 1))), (0, .ref (E.2.1 62)), (1, .int a1), (2, .int a2), (3, .int a3), (4, .int a4), (5, .int a5)]) F 7 dX9_feed_38 rfl (by decide) (by decide) rfl ?_
      refine g_goto (tgt := 6) F dX9_feed_41 (by decide) ?_
      refine g_sub (Ln := [(0, .ref (E.2.1 62)), (1, .int a1), (2, .int a2), (3, .int a3), (4, .int a4), (5, .int a5), (6, .int (iI (s + 1))), (7, .int 4)]) [2, 3, 4, 5, 6, 7, 1, 0] rfl ?_
      exact K4 _ (by rw [wb1_1 c27f] at hs; simp only [List.length_nil, List.length_cons] at hs; omega)
  have K2 : ∀ s : Int, s + (wb1 a1 8).length + (wb1 a1 0).length + (wb1 a2 24).length + (wb1 a2 16).length + (wb1 a2 8).length + (wb1 a2 0).length + (wb1 a3 24).length + (wb1 a3 16).length + (wb1 a3 8).length + (wb1 a3 0).length + (wb1 a4 24).length + (wb1 a4 16).length + (wb1 a4 8).length + (wb1 a4 0).length + (wb1 a5 24).length + (wb1 a5 16).length + (wb1 a5 8).length + (wb1 a5 0).length = (bl a1 a2 a3 a4 a5).length → G z 6 [(0, .ref (E.2.1 62)), (1, .int a1), (2, .int a2), (3, .int a3), (4, .int a4), (5, .int a5), (6, .int (iI s)), (7, .int 2)] [] I J := by
    intro s hs
    refine g_iload F 7 dX9_feed_6 rfl ?_
    refine g_bipush (v := 20) F dX9_feed_8 (by decide) ?_
    refine g_icmp_ge (tgt := 44) F dX9_feed_10 (by decide) (fun h => absurd h (by decide)) (fun _ => ?_)
    refine g_iload F 6 dX9_feed_13 rfl ?_
    refine g_iload_n F 1 dX9_feed_15 rfl rfl ?_
    refine g_iload_n F 2 dX9_feed_16 rfl rfl ?_
    refine g_iload_n F 3 dX9_feed_17 rfl rfl ?_
    refine g_iload F 4 dX9_feed_18 rfl ?_
    refine g_iload F 5 dX9_feed_20 rfl ?_
    refine g_iload F 7 dX9_feed_22 rfl ?_
    refine g_callS (As := [.int a1, .int a2, .int a3, .int a4, .int a5, .int 2]) (rest := [.int (iI (s))]) F (kX9_byteOf_18 (zl z) E hE _ _ a1 a2 a3 a4 a5) mX9_byteOf q916 rfl rfl rfl (Nat.le_of_ble_eq_true rfl) dX9_feed_24 (fun r I39 J39 h39 => ?_)
    obtain ⟨rfl, eh39, fh39⟩ := h39
    refine g_mem eh39 fh39 ?_
    refine g_st (sn := [.int ((a1 >>> 8) &&& 255), .int (iI (s))]) rfl ?_
    refine g_if_eq (tgt := 34) F dX9_feed_27 (by decide) (fun c27 => ?_) (fun c27f => ?_)
    · refine g_iconst (v := 0) F dX9_feed_34 (by decide) ?_
      refine g_iadd (v := iI (s + 0)) F dX9_feed_35 (iI_add rfl (by decide)) ?_
      refine g_istore (Ln := [(6, .int (iI (s + 0))), (0, .ref (E.2.1 62)), (1, .int a1), (2, .int a2), (3, .int a3), (4, .int a4), (5, .int a5), (7, .int 2)]) F dX9_feed_36 (by decide) rfl ?_
      refine g_iinc (v := 3) (Ln := [(7, .int 3), (6, .int (iI (s + 0))), (0, .ref (E.2.1 62)), (1, .int a1), (2, .int a2), (3, .int a3), (4, .int a4), (5, .int a5)]) F 7 dX9_feed_38 rfl (by decide) (by decide) rfl ?_
      refine g_goto (tgt := 6) F dX9_feed_41 (by decide) ?_
      refine g_sub (Ln := [(0, .ref (E.2.1 62)), (1, .int a1), (2, .int a2), (3, .int a3), (4, .int a4), (5, .int a5), (6, .int (iI (s + 0))), (7, .int 3)]) [2, 3, 4, 5, 6, 7, 1, 0] rfl ?_
      exact K3 _ (by rw [wb1_0 c27] at hs; simp only [List.length_nil, List.length_cons] at hs; omega)
    · refine g_iconst (v := 1) F dX9_feed_30 (by decide) ?_
      refine g_goto (tgt := 35) F dX9_feed_31 (by decide) ?_
      refine g_iadd (v := iI (s + 1)) F dX9_feed_35 (iI_add rfl (by decide)) ?_
      refine g_istore (Ln := [(6, .int (iI (s + 1))), (0, .ref (E.2.1 62)), (1, .int a1), (2, .int a2), (3, .int a3), (4, .int a4), (5, .int a5), (7, .int 2)]) F dX9_feed_36 (by decide) rfl ?_
      refine g_iinc (v := 3) (Ln := [(7, .int 3), (6, .int (iI (s + 1))), (0, .ref (E.2.1 62)), (1, .int a1), (2, .int a2), (3, .int a3), (4, .int a4), (5, .int a5)]) F 7 dX9_feed_38 rfl (by decide) (by decide) rfl ?_
      refine g_goto (tgt := 6) F dX9_feed_41 (by decide) ?_
      refine g_sub (Ln := [(0, .ref (E.2.1 62)), (1, .int a1), (2, .int a2), (3, .int a3), (4, .int a4), (5, .int a5), (6, .int (iI (s + 1))), (7, .int 3)]) [2, 3, 4, 5, 6, 7, 1, 0] rfl ?_
      exact K3 _ (by rw [wb1_1 c27f] at hs; simp only [List.length_nil, List.length_cons] at hs; omega)
  have K1 : ∀ s : Int, s + (wb1 a1 16).length + (wb1 a1 8).length + (wb1 a1 0).length + (wb1 a2 24).length + (wb1 a2 16).length + (wb1 a2 8).length + (wb1 a2 0).length + (wb1 a3 24).length + (wb1 a3 16).length + (wb1 a3 8).length + (wb1 a3 0).length + (wb1 a4 24).length + (wb1 a4 16).length + (wb1 a4 8).length + (wb1 a4 0).length + (wb1 a5 24).length + (wb1 a5 16).length + (wb1 a5 8).length + (wb1 a5 0).length = (bl a1 a2 a3 a4 a5).length → G z 6 [(0, .ref (E.2.1 62)), (1, .int a1), (2, .int a2), (3, .int a3), (4, .int a4), (5, .int a5), (6, .int (iI s)), (7, .int 1)] [] I J := by
    intro s hs
    refine g_iload F 7 dX9_feed_6 rfl ?_
    refine g_bipush (v := 20) F dX9_feed_8 (by decide) ?_
    refine g_icmp_ge (tgt := 44) F dX9_feed_10 (by decide) (fun h => absurd h (by decide)) (fun _ => ?_)
    refine g_iload F 6 dX9_feed_13 rfl ?_
    refine g_iload_n F 1 dX9_feed_15 rfl rfl ?_
    refine g_iload_n F 2 dX9_feed_16 rfl rfl ?_
    refine g_iload_n F 3 dX9_feed_17 rfl rfl ?_
    refine g_iload F 4 dX9_feed_18 rfl ?_
    refine g_iload F 5 dX9_feed_20 rfl ?_
    refine g_iload F 7 dX9_feed_22 rfl ?_
    refine g_callS (As := [.int a1, .int a2, .int a3, .int a4, .int a5, .int 1]) (rest := [.int (iI (s))]) F (kX9_byteOf_19 (zl z) E hE _ _ a1 a2 a3 a4 a5) mX9_byteOf q916 rfl rfl rfl (Nat.le_of_ble_eq_true rfl) dX9_feed_24 (fun r I40 J40 h40 => ?_)
    obtain ⟨rfl, eh40, fh40⟩ := h40
    refine g_mem eh40 fh40 ?_
    refine g_st (sn := [.int ((a1 >>> 16) &&& 255), .int (iI (s))]) rfl ?_
    refine g_if_eq (tgt := 34) F dX9_feed_27 (by decide) (fun c27 => ?_) (fun c27f => ?_)
    · refine g_iconst (v := 0) F dX9_feed_34 (by decide) ?_
      refine g_iadd (v := iI (s + 0)) F dX9_feed_35 (iI_add rfl (by decide)) ?_
      refine g_istore (Ln := [(6, .int (iI (s + 0))), (0, .ref (E.2.1 62)), (1, .int a1), (2, .int a2), (3, .int a3), (4, .int a4), (5, .int a5), (7, .int 1)]) F dX9_feed_36 (by decide) rfl ?_
      refine g_iinc (v := 2) (Ln := [(7, .int 2), (6, .int (iI (s + 0))), (0, .ref (E.2.1 62)), (1, .int a1), (2, .int a2), (3, .int a3), (4, .int a4), (5, .int a5)]) F 7 dX9_feed_38 rfl (by decide) (by decide) rfl ?_
      refine g_goto (tgt := 6) F dX9_feed_41 (by decide) ?_
      refine g_sub (Ln := [(0, .ref (E.2.1 62)), (1, .int a1), (2, .int a2), (3, .int a3), (4, .int a4), (5, .int a5), (6, .int (iI (s + 0))), (7, .int 2)]) [2, 3, 4, 5, 6, 7, 1, 0] rfl ?_
      exact K2 _ (by rw [wb1_0 c27] at hs; simp only [List.length_nil, List.length_cons] at hs; omega)
    · refine g_iconst (v := 1) F dX9_feed_30 (by decide) ?_
      refine g_goto (tgt := 35) F dX9_feed_31 (by decide) ?_
      refine g_iadd (v := iI (s + 1)) F dX9_feed_35 (iI_add rfl (by decide)) ?_
      refine g_istore (Ln := [(6, .int (iI (s + 1))), (0, .ref (E.2.1 62)), (1, .int a1), (2, .int a2), (3, .int a3), (4, .int a4), (5, .int a5), (7, .int 1)]) F dX9_feed_36 (by decide) rfl ?_
      refine g_iinc (v := 2) (Ln := [(7, .int 2), (6, .int (iI (s + 1))), (0, .ref (E.2.1 62)), (1, .int a1), (2, .int a2), (3, .int a3), (4, .int a4), (5, .int a5)]) F 7 dX9_feed_38 rfl (by decide) (by decide) rfl ?_
      refine g_goto (tgt := 6) F dX9_feed_41 (by decide) ?_
      refine g_sub (Ln := [(0, .ref (E.2.1 62)), (1, .int a1), (2, .int a2), (3, .int a3), (4, .int a4), (5, .int a5), (6, .int (iI (s + 1))), (7, .int 2)]) [2, 3, 4, 5, 6, 7, 1, 0] rfl ?_
      exact K2 _ (by rw [wb1_1 c27f] at hs; simp only [List.length_nil, List.length_cons] at hs; omega)
  have K0 : ∀ s : Int, s + (wb1 a1 24).length + (wb1 a1 16).length + (wb1 a1 8).length + (wb1 a1 0).length + (wb1 a2 24).length + (wb1 a2 16).length + (wb1 a2 8).length + (wb1 a2 0).length + (wb1 a3 24).length + (wb1 a3 16).length + (wb1 a3 8).length + (wb1 a3 0).length + (wb1 a4 24).length + (wb1 a4 16).length + (wb1 a4 8).length + (wb1 a4 0).length + (wb1 a5 24).length + (wb1 a5 16).length + (wb1 a5 8).length + (wb1 a5 0).length = (bl a1 a2 a3 a4 a5).length → G z 6 [(0, .ref (E.2.1 62)), (1, .int a1), (2, .int a2), (3, .int a3), (4, .int a4), (5, .int a5), (6, .int (iI s)), (7, .int 0)] [] I J := by
    intro s hs
    refine g_iload F 7 dX9_feed_6 rfl ?_
    refine g_bipush (v := 20) F dX9_feed_8 (by decide) ?_
    refine g_icmp_ge (tgt := 44) F dX9_feed_10 (by decide) (fun h => absurd h (by decide)) (fun _ => ?_)
    refine g_iload F 6 dX9_feed_13 rfl ?_
    refine g_iload_n F 1 dX9_feed_15 rfl rfl ?_
    refine g_iload_n F 2 dX9_feed_16 rfl rfl ?_
    refine g_iload_n F 3 dX9_feed_17 rfl rfl ?_
    refine g_iload F 4 dX9_feed_18 rfl ?_
    refine g_iload F 5 dX9_feed_20 rfl ?_
    refine g_iload F 7 dX9_feed_22 rfl ?_
    refine g_callS (As := [.int a1, .int a2, .int a3, .int a4, .int a5, .int 0]) (rest := [.int (iI (s))]) F (kX9_byteOf_20 (zl z) E hE _ _ a1 a2 a3 a4 a5) mX9_byteOf q916 rfl rfl rfl (Nat.le_of_ble_eq_true rfl) dX9_feed_24 (fun r I41 J41 h41 => ?_)
    obtain ⟨rfl, eh41, fh41⟩ := h41
    refine g_mem eh41 fh41 ?_
    refine g_st (sn := [.int ((a1 >>> 24) &&& 255), .int (iI (s))]) rfl ?_
    refine g_if_eq (tgt := 34) F dX9_feed_27 (by decide) (fun c27 => ?_) (fun c27f => ?_)
    · refine g_iconst (v := 0) F dX9_feed_34 (by decide) ?_
      refine g_iadd (v := iI (s + 0)) F dX9_feed_35 (iI_add rfl (by decide)) ?_
      refine g_istore (Ln := [(6, .int (iI (s + 0))), (0, .ref (E.2.1 62)), (1, .int a1), (2, .int a2), (3, .int a3), (4, .int a4), (5, .int a5), (7, .int 0)]) F dX9_feed_36 (by decide) rfl ?_
      refine g_iinc (v := 1) (Ln := [(7, .int 1), (6, .int (iI (s + 0))), (0, .ref (E.2.1 62)), (1, .int a1), (2, .int a2), (3, .int a3), (4, .int a4), (5, .int a5)]) F 7 dX9_feed_38 rfl (by decide) (by decide) rfl ?_
      refine g_goto (tgt := 6) F dX9_feed_41 (by decide) ?_
      refine g_sub (Ln := [(0, .ref (E.2.1 62)), (1, .int a1), (2, .int a2), (3, .int a3), (4, .int a4), (5, .int a5), (6, .int (iI (s + 0))), (7, .int 1)]) [2, 3, 4, 5, 6, 7, 1, 0] rfl ?_
      exact K1 _ (by rw [wb1_0 c27] at hs; simp only [List.length_nil, List.length_cons] at hs; omega)
    · refine g_iconst (v := 1) F dX9_feed_30 (by decide) ?_
      refine g_goto (tgt := 35) F dX9_feed_31 (by decide) ?_
      refine g_iadd (v := iI (s + 1)) F dX9_feed_35 (iI_add rfl (by decide)) ?_
      refine g_istore (Ln := [(6, .int (iI (s + 1))), (0, .ref (E.2.1 62)), (1, .int a1), (2, .int a2), (3, .int a3), (4, .int a4), (5, .int a5), (7, .int 0)]) F dX9_feed_36 (by decide) rfl ?_
      refine g_iinc (v := 1) (Ln := [(7, .int 1), (6, .int (iI (s + 1))), (0, .ref (E.2.1 62)), (1, .int a1), (2, .int a2), (3, .int a3), (4, .int a4), (5, .int a5)]) F 7 dX9_feed_38 rfl (by decide) (by decide) rfl ?_
      refine g_goto (tgt := 6) F dX9_feed_41 (by decide) ?_
      refine g_sub (Ln := [(0, .ref (E.2.1 62)), (1, .int a1), (2, .int a2), (3, .int a3), (4, .int a4), (5, .int a5), (6, .int (iI (s + 1))), (7, .int 1)]) [2, 3, 4, 5, 6, 7, 1, 0] rfl ?_
      exact K1 _ (by rw [wb1_1 c27f] at hs; simp only [List.length_nil, List.length_cons] at hs; omega)
  refine g_iconst (v := 0) F dX9_feed_0 (by decide) ?_
  refine g_istore (Ln := [(6, .int 0), (0, .ref (E.2.1 62)), (1, .int a1), (2, .int a2), (3, .int a3), (4, .int a4), (5, .int a5)]) F dX9_feed_1 (by decide) rfl ?_
  refine g_iconst (v := 0) F dX9_feed_3 (by decide) ?_
  refine g_istore (Ln := [(7, .int 0), (6, .int 0), (0, .ref (E.2.1 62)), (1, .int a1), (2, .int a2), (3, .int a3), (4, .int a4), (5, .int a5)]) F dX9_feed_4 (by decide) rfl ?_
  refine g_sub (Ln := [(0, .ref (E.2.1 62)), (1, .int a1), (2, .int a2), (3, .int a3), (4, .int a4), (5, .int a5), (6, .int 0), (7, .int 0)]) [2, 3, 4, 5, 6, 7, 1, 0] rfl ?_
  exact K0 0 (by rw [hbl]; simp only [List.length_append]; omega)
