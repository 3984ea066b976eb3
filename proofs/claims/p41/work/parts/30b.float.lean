theorem DX0_meanOf_0 : dAre cX0_meanOf [(0, .dconst 0, 1), (1, .dstore_n 3, 1), (2, .iconst 0, 1), (3, .istore 5, 2), (5, .iload 5, 2), (7, .aload_n 1, 1), (8, .getfield 24, 3), (11, .if_icmp .ge 20, 3), (14, .dload_n 3, 1), (15, .aload_n 1, 1), (16, .iload 5, 2), (18, .iload_n 2, 1), (19, .invokevirtual 30, 3), (22, .i2d, 1), (23, .dadd, 1), (24, .dstore_n 3, 1)] := dAre0 (by decide +kernel)
theorem dX0_meanOf_0 : decode cX0_meanOf 0 = .ok (.dconst 0, 1) := DX0_meanOf_0.1
theorem dX0_meanOf_1 : decode cX0_meanOf 1 = .ok (.dstore_n 3, 1) := DX0_meanOf_0.2.1
theorem dX0_meanOf_2 : decode cX0_meanOf 2 = .ok (.iconst 0, 1) := DX0_meanOf_0.2.2.1
theorem dX0_meanOf_3 : decode cX0_meanOf 3 = .ok (.istore 5, 2) := DX0_meanOf_0.2.2.2.1
theorem dX0_meanOf_5 : decode cX0_meanOf 5 = .ok (.iload 5, 2) := DX0_meanOf_0.2.2.2.2.1
theorem dX0_meanOf_7 : decode cX0_meanOf 7 = .ok (.aload_n 1, 1) := DX0_meanOf_0.2.2.2.2.2.1
theorem dX0_meanOf_8 : decode cX0_meanOf 8 = .ok (.getfield 24, 3) := DX0_meanOf_0.2.2.2.2.2.2.1
theorem dX0_meanOf_11 : decode cX0_meanOf 11 = .ok (.if_icmp .ge 20, 3) := DX0_meanOf_0.2.2.2.2.2.2.2.1
theorem dX0_meanOf_14 : decode cX0_meanOf 14 = .ok (.dload_n 3, 1) := DX0_meanOf_0.2.2.2.2.2.2.2.2.1
theorem dX0_meanOf_15 : decode cX0_meanOf 15 = .ok (.aload_n 1, 1) := DX0_meanOf_0.2.2.2.2.2.2.2.2.2.1
theorem dX0_meanOf_16 : decode cX0_meanOf 16 = .ok (.iload 5, 2) := DX0_meanOf_0.2.2.2.2.2.2.2.2.2.2.1
theorem dX0_meanOf_18 : decode cX0_meanOf 18 = .ok (.iload_n 2, 1) := DX0_meanOf_0.2.2.2.2.2.2.2.2.2.2.2.1
theorem dX0_meanOf_19 : decode cX0_meanOf 19 = .ok (.invokevirtual 30, 3) := DX0_meanOf_0.2.2.2.2.2.2.2.2.2.2.2.2.1
theorem dX0_meanOf_22 : decode cX0_meanOf 22 = .ok (.i2d, 1) := DX0_meanOf_0.2.2.2.2.2.2.2.2.2.2.2.2.2.1
theorem dX0_meanOf_23 : decode cX0_meanOf 23 = .ok (.dadd, 1) := DX0_meanOf_0.2.2.2.2.2.2.2.2.2.2.2.2.2.2.1
theorem dX0_meanOf_24 : decode cX0_meanOf 24 = .ok (.dstore_n 3, 1) := DX0_meanOf_0.2.2.2.2.2.2.2.2.2.2.2.2.2.2.2.1
theorem DX0_meanOf_25 : dAre cX0_meanOf [(25, .iinc 5 1, 3), (28, .goto (-23), 3), (31, .aload_n 1, 1), (32, .getfield 24, 3), (35, .ifCond .le 13, 3), (38, .dload_n 3, 1), (39, .aload_n 1, 1), (40, .getfield 24, 3), (43, .i2d, 1), (44, .ddiv, 1), (45, .goto 4, 3), (48, .dconst 0, 1), (49, .dreturn, 1)] := dAre0 (by decide +kernel)
theorem dX0_meanOf_25 : decode cX0_meanOf 25 = .ok (.iinc 5 1, 3) := DX0_meanOf_25.1
theorem dX0_meanOf_28 : decode cX0_meanOf 28 = .ok (.goto (-23), 3) := DX0_meanOf_25.2.1
theorem dX0_meanOf_31 : decode cX0_meanOf 31 = .ok (.aload_n 1, 1) := DX0_meanOf_25.2.2.1
theorem dX0_meanOf_32 : decode cX0_meanOf 32 = .ok (.getfield 24, 3) := DX0_meanOf_25.2.2.2.1
theorem dX0_meanOf_35 : decode cX0_meanOf 35 = .ok (.ifCond .le 13, 3) := DX0_meanOf_25.2.2.2.2.1
theorem dX0_meanOf_38 : decode cX0_meanOf 38 = .ok (.dload_n 3, 1) := DX0_meanOf_25.2.2.2.2.2.1
theorem dX0_meanOf_39 : decode cX0_meanOf 39 = .ok (.aload_n 1, 1) := DX0_meanOf_25.2.2.2.2.2.2.1
theorem dX0_meanOf_40 : decode cX0_meanOf 40 = .ok (.getfield 24, 3) := DX0_meanOf_25.2.2.2.2.2.2.2.1
theorem dX0_meanOf_43 : decode cX0_meanOf 43 = .ok (.i2d, 1) := DX0_meanOf_25.2.2.2.2.2.2.2.2.1
theorem dX0_meanOf_44 : decode cX0_meanOf 44 = .ok (.ddiv, 1) := DX0_meanOf_25.2.2.2.2.2.2.2.2.2.1
theorem dX0_meanOf_45 : decode cX0_meanOf 45 = .ok (.goto 4, 3) := DX0_meanOf_25.2.2.2.2.2.2.2.2.2.2.1
theorem dX0_meanOf_48 : decode cX0_meanOf 48 = .ok (.dconst 0, 1) := DX0_meanOf_25.2.2.2.2.2.2.2.2.2.2.2.1
theorem dX0_meanOf_49 : decode cX0_meanOf 49 = .ok (.dreturn, 1) := DX0_meanOf_25.2.2.2.2.2.2.2.2.2.2.2.2.1
theorem mX0_meanOf : gMv yX0_meanOf cX0_meanOf 6 (some .double) RX0 2 := ⟨q543, q544, q5, q545, rfl, by decide, by decide, by decide +kernel⟩
noncomputable def lX0_meanOf_5 (k1 : Nat) (v2 : Int32) (I : gM) : (UInt64 × Int32) → Option (UInt64) :=
  itO fun s =>
    if (I k1 0) ≤ s.2 then
      some (.inr s.1)
    else
      (fX1_numberAt k1 s.2 v2 I).bind fun r1 =>
      (gD (FP.dadd s.1 (FP.i2d r1))).bind fun u2 =>
      some (.inl (u2, s.2 + 1))
set_option maxRecDepth 100000 in
set_option maxHeartbeats 4000000 in
theorem wlX0_meanOf_5 {z : gZ} {E : gE} {bk : Nat} (F : Fx z sh E "LeapJoin$Figures" cX0_meanOf (gR 2) 6) (B : bZ z bk) (hE : gDist sh E) (k1 : Nat) (v2 : Int32) (hk1 : shX1 k1) (I : gM) (J : gN) {r : UInt64} : ∀ s : UInt64 × Int32, lX0_meanOf_5 k1 v2 I s = some r → (G z 31 [(1, .ref (E.2.1 k1)), (3, .double r)] [] I J) → G z 5 [(1, .ref (E.2.1 k1)), (2, .int v2), (3, .double s.1), (5, .int s.2)] [] I J := by
  intro s h X0
  unfold lX0_meanOf_5 at h
  revert s
  refine itO_ind (P := fun s : UInt64 × Int32 => G z 5 [(1, .ref (E.2.1 k1)), (2, .int v2), (3, .double s.1), (5, .int s.2)] [] I J) (fun s y h hl hr => ?_)
  have K5_0 : ∀ x : UInt64, y = .inr x → (G z 31 [(1, .ref (E.2.1 k1)), (3, .double x)] [] I J) := fun x q => by have q2 := hr _ q; subst q2; exact X0
  refine g_iload F 3 dX0_meanOf_5 rfl ?_
  refine g_aload_n F 0 dX0_meanOf_7 rfl rfl ?_
  refine g_geti (j := 0) (v := I k1 0) F hk1.1 rfl rfl uX1 (by decide) q78 rfl dX0_meanOf_8 ?_
  refine u_icmp_ge (tgt := 31) F dX0_meanOf_11 (by decide) h (fun h => ?_) (fun h => ?_)
  · obtain rfl := Option.some.inj h
    refine g_sub (Ln := [(1, .ref (E.2.1 k1)), (3, .double s.1)]) [0, 2] rfl ?_
    exact K5_0 s.1 rfl
  · refine g_dload_n F 2 dX0_meanOf_14 rfl rfl ?_
    refine g_aload_n F 0 dX0_meanOf_15 rfl rfl ?_
    refine g_iload F 3 dX0_meanOf_16 rfl ?_
    refine g_iload_n F 1 dX0_meanOf_18 rfl rfl ?_
    refine u_callV (k := k1) (As := [.int s.2, .int v2]) (rest := [.double s.1]) (sn := fun r1 => [.int r1, .double s.1]) F B (fun _ => wX1_numberAt (zl z) E hE bk k1 s.2 v2 hk1 I J) mX1_numberAt q495 rfl hk1.1 rfl rfl rfl (Nat.le_of_ble_eq_true rfl) dX0_meanOf_19 (fun _ => rfl) h (fun r1 h => ?_)
    refine g_i2d F dX0_meanOf_22 ?_
    refine u_dadd F dX0_meanOf_23 h (fun u2 h => ?_)
    refine g_dstore_n (Ln := [(3, .double u2), (1, .ref (E.2.1 k1)), (2, .int v2), (5, .int s.2)]) F dX0_meanOf_24 rfl (by decide) rfl ?_
    refine g_iinc (v := s.2 + 1) (Ln := [(5, .int (s.2 + 1)), (3, .double u2), (1, .ref (E.2.1 k1)), (2, .int v2)]) F 3 dX0_meanOf_25 rfl (add_c (by decide)) (by decide) rfl ?_
    refine g_goto (tgt := 5) F dX0_meanOf_28 (by decide) ?_
    obtain rfl := Option.some.inj h
    refine g_sub (Ln := [(1, .ref (E.2.1 k1)), (2, .int v2), (3, .double u2), (5, .int (s.2 + 1))]) [2, 3, 1, 0] rfl ?_
    exact hl (u2, s.2 + 1) rfl
noncomputable def fX0_meanOf (k1 : Nat) (v2 : Int32) (I : gM) : Option (UInt64) :=
  (lX0_meanOf_5 k1 v2 I (FP.dconst0, (0 : Int32))).bind fun w3 =>
  if (I k1 0) ≤ 0 then
    some FP.dconst0
  else
    (gD (FP.ddiv w3 (FP.i2d (I k1 0)))).bind fun u4 =>
    some u4
set_option maxRecDepth 100000 in
set_option maxHeartbeats 4000000 in
theorem wX0_meanOf (l : Launch) (E : gE) (hE : gDist sh E) (bk : Nat) (k1 : Nat) (v2 : Int32) (hk1 : shX1 k1) (I : gM) (J : gN) {r : UInt64} (h : fX0_meanOf k1 v2 I = some r) : Cu l sh E bk yX0_meanOf cX0_meanOf 6 (some .double) (gR 2) [.ref (E.2.1 40), .ref (E.2.1 k1), .int v2] I J (fun r1 I1 J1 => r1 = some (.double r) ∧ I1 = I ∧ J1 = J) := by
  refine Cu.of "LeapJoin$Figures" rfl hE (by decide) (Nat.le_of_ble_eq_true rfl) (fun z F B e hl => ?_)
  subst hl
  unfold fX0_meanOf at h
  refine g_dconst0 F dX0_meanOf_0 ?_
  refine g_dstore_n (Ln := [(3, .double FP.dconst0), (0, .ref (E.2.1 40)), (1, .ref (E.2.1 k1)), (2, .int v2)]) F dX0_meanOf_1 rfl (by decide) rfl ?_
  refine g_iconst (v := 0) F dX0_meanOf_2 (by decide) ?_
  refine g_istore (Ln := [(5, .int 0), (3, .double FP.dconst0), (0, .ref (E.2.1 40)), (1, .ref (E.2.1 k1)), (2, .int v2)]) F dX0_meanOf_3 (by decide) rfl ?_
  obtain ⟨w3, ew3, h⟩ := ob h
  refine g_sub (Ln := [(1, .ref (E.2.1 k1)), (2, .int v2), (3, .double FP.dconst0), (5, .int 0)]) [3, 4, 1, 0] rfl ?_
  refine wlX0_meanOf_5 F B hE k1 v2 hk1 I J _ ew3 ?_
  refine g_aload_n F 0 dX0_meanOf_31 rfl rfl ?_
  refine g_geti (j := 0) (v := I k1 0) F hk1.1 rfl rfl uX1 (by decide) q78 rfl dX0_meanOf_32 ?_
  refine u_if_le (tgt := 48) F dX0_meanOf_35 (by decide) h (fun h => ?_) (fun h => ?_)
  · refine g_dconst0 F dX0_meanOf_48 ?_
    obtain rfl := Option.some.inj h
    exact g_dret F e dX0_meanOf_49 ⟨rfl, rfl, rfl⟩
  · refine g_dload_n F 1 dX0_meanOf_38 rfl rfl ?_
    refine g_aload_n F 0 dX0_meanOf_39 rfl rfl ?_
    refine g_geti (j := 0) (v := I k1 0) F hk1.1 rfl rfl uX1 (by decide) q78 rfl dX0_meanOf_40 ?_
    refine g_i2d F dX0_meanOf_43 ?_
    refine u_ddiv F dX0_meanOf_44 h (fun u4 h => ?_)
    refine g_goto (tgt := 49) F dX0_meanOf_45 (by decide) ?_
    obtain rfl := Option.some.inj h
    exact g_dret F e dX0_meanOf_49 ⟨rfl, rfl, rfl⟩
theorem DX0_spreadOf_0 : dAre cX0_spreadOf [(0, .aload_n 0, 1), (1, .aload_n 1, 1), (2, .iload_n 2, 1), (3, .invokevirtual 53, 3), (6, .dstore_n 3, 1), (7, .dconst 0, 1), (8, .dstore 5, 2), (10, .iconst 0, 1), (11, .istore 7, 2), (13, .iload 7, 2), (15, .aload_n 1, 1), (16, .getfield 24, 3), (19, .if_icmp .ge 41, 3), (22, .aload_n 1, 1), (23, .iload 7, 2), (25, .iload_n 2, 1)] := dAre0 (by decide +kernel)
theorem dX0_spreadOf_0 : decode cX0_spreadOf 0 = .ok (.aload_n 0, 1) := DX0_spreadOf_0.1
theorem dX0_spreadOf_1 : decode cX0_spreadOf 1 = .ok (.aload_n 1, 1) := DX0_spreadOf_0.2.1
theorem dX0_spreadOf_2 : decode cX0_spreadOf 2 = .ok (.iload_n 2, 1) := DX0_spreadOf_0.2.2.1
theorem dX0_spreadOf_3 : decode cX0_spreadOf 3 = .ok (.invokevirtual 53, 3) := DX0_spreadOf_0.2.2.2.1
theorem dX0_spreadOf_6 : decode cX0_spreadOf 6 = .ok (.dstore_n 3, 1) := DX0_spreadOf_0.2.2.2.2.1
theorem dX0_spreadOf_7 : decode cX0_spreadOf 7 = .ok (.dconst 0, 1) := DX0_spreadOf_0.2.2.2.2.2.1
theorem dX0_spreadOf_8 : decode cX0_spreadOf 8 = .ok (.dstore 5, 2) := DX0_spreadOf_0.2.2.2.2.2.2.1
theorem dX0_spreadOf_10 : decode cX0_spreadOf 10 = .ok (.iconst 0, 1) := DX0_spreadOf_0.2.2.2.2.2.2.2.1
theorem dX0_spreadOf_11 : decode cX0_spreadOf 11 = .ok (.istore 7, 2) := DX0_spreadOf_0.2.2.2.2.2.2.2.2.1
theorem dX0_spreadOf_13 : decode cX0_spreadOf 13 = .ok (.iload 7, 2) := DX0_spreadOf_0.2.2.2.2.2.2.2.2.2.1
theorem dX0_spreadOf_15 : decode cX0_spreadOf 15 = .ok (.aload_n 1, 1) := DX0_spreadOf_0.2.2.2.2.2.2.2.2.2.2.1
theorem dX0_spreadOf_16 : decode cX0_spreadOf 16 = .ok (.getfield 24, 3) := DX0_spreadOf_0.2.2.2.2.2.2.2.2.2.2.2.1
theorem dX0_spreadOf_19 : decode cX0_spreadOf 19 = .ok (.if_icmp .ge 41, 3) := DX0_spreadOf_0.2.2.2.2.2.2.2.2.2.2.2.2.1
theorem dX0_spreadOf_22 : decode cX0_spreadOf 22 = .ok (.aload_n 1, 1) := DX0_spreadOf_0.2.2.2.2.2.2.2.2.2.2.2.2.2.1
theorem dX0_spreadOf_23 : decode cX0_spreadOf 23 = .ok (.iload 7, 2) := DX0_spreadOf_0.2.2.2.2.2.2.2.2.2.2.2.2.2.2.1
theorem dX0_spreadOf_25 : decode cX0_spreadOf 25 = .ok (.iload_n 2, 1) := DX0_spreadOf_0.2.2.2.2.2.2.2.2.2.2.2.2.2.2.2.1
theorem DX0_spreadOf_26 : dAre cX0_spreadOf [(26, .invokevirtual 30, 3), (29, .i2d, 1), (30, .dload_n 3, 1), (31, .dsub, 1), (32, .dstore 8, 2), (34, .dload 5, 2), (36, .dload 8, 2), (38, .dconst 0, 1), (39, .dcmp .g, 1), (40, .ifCond .ge 9, 3), (43, .dload 8, 2), (45, .dneg, 1), (46, .goto 5, 3), (49, .dload 8, 2), (51, .dadd, 1), (52, .dstore 5, 2)] := dAre0 (by decide +kernel)
theorem dX0_spreadOf_26 : decode cX0_spreadOf 26 = .ok (.invokevirtual 30, 3) := DX0_spreadOf_26.1
theorem dX0_spreadOf_29 : decode cX0_spreadOf 29 = .ok (.i2d, 1) := DX0_spreadOf_26.2.1
theorem dX0_spreadOf_30 : decode cX0_spreadOf 30 = .ok (.dload_n 3, 1) := DX0_spreadOf_26.2.2.1
theorem dX0_spreadOf_31 : decode cX0_spreadOf 31 = .ok (.dsub, 1) := DX0_spreadOf_26.2.2.2.1
theorem dX0_spreadOf_32 : decode cX0_spreadOf 32 = .ok (.dstore 8, 2) := DX0_spreadOf_26.2.2.2.2.1
theorem dX0_spreadOf_34 : decode cX0_spreadOf 34 = .ok (.dload 5, 2) := DX0_spreadOf_26.2.2.2.2.2.1
theorem dX0_spreadOf_36 : decode cX0_spreadOf 36 = .ok (.dload 8, 2) := DX0_spreadOf_26.2.2.2.2.2.2.1
theorem dX0_spreadOf_38 : decode cX0_spreadOf 38 = .ok (.dconst 0, 1) := DX0_spreadOf_26.2.2.2.2.2.2.2.1
theorem dX0_spreadOf_39 : decode cX0_spreadOf 39 = .ok (.dcmp .g, 1) := DX0_spreadOf_26.2.2.2.2.2.2.2.2.1
theorem dX0_spreadOf_40 : decode cX0_spreadOf 40 = .ok (.ifCond .ge 9, 3) := DX0_spreadOf_26.2.2.2.2.2.2.2.2.2.1
theorem dX0_spreadOf_43 : decode cX0_spreadOf 43 = .ok (.dload 8, 2) := DX0_spreadOf_26.2.2.2.2.2.2.2.2.2.2.1
theorem dX0_spreadOf_45 : decode cX0_spreadOf 45 = .ok (.dneg, 1) := DX0_spreadOf_26.2.2.2.2.2.2.2.2.2.2.2.1
theorem dX0_spreadOf_46 : decode cX0_spreadOf 46 = .ok (.goto 5, 3) := DX0_spreadOf_26.2.2.2.2.2.2.2.2.2.2.2.2.1
theorem dX0_spreadOf_49 : decode cX0_spreadOf 49 = .ok (.dload 8, 2) := DX0_spreadOf_26.2.2.2.2.2.2.2.2.2.2.2.2.2.1
theorem dX0_spreadOf_51 : decode cX0_spreadOf 51 = .ok (.dadd, 1) := DX0_spreadOf_26.2.2.2.2.2.2.2.2.2.2.2.2.2.2.1
theorem dX0_spreadOf_52 : decode cX0_spreadOf 52 = .ok (.dstore 5, 2) := DX0_spreadOf_26.2.2.2.2.2.2.2.2.2.2.2.2.2.2.2.1
theorem DX0_spreadOf_54 : dAre cX0_spreadOf [(54, .iinc 7 1, 3), (57, .goto (-44), 3), (60, .aload_n 1, 1), (61, .getfield 24, 3), (64, .ifCond .le 14, 3), (67, .dload 5, 2), (69, .aload_n 1, 1), (70, .getfield 24, 3), (73, .i2d, 1), (74, .ddiv, 1), (75, .goto 4, 3), (78, .dconst 0, 1), (79, .dreturn, 1)] := dAre0 (by decide +kernel)
theorem dX0_spreadOf_54 : decode cX0_spreadOf 54 = .ok (.iinc 7 1, 3) := DX0_spreadOf_54.1
theorem dX0_spreadOf_57 : decode cX0_spreadOf 57 = .ok (.goto (-44), 3) := DX0_spreadOf_54.2.1
theorem dX0_spreadOf_60 : decode cX0_spreadOf 60 = .ok (.aload_n 1, 1) := DX0_spreadOf_54.2.2.1
theorem dX0_spreadOf_61 : decode cX0_spreadOf 61 = .ok (.getfield 24, 3) := DX0_spreadOf_54.2.2.2.1
theorem dX0_spreadOf_64 : decode cX0_spreadOf 64 = .ok (.ifCond .le 14, 3) := DX0_spreadOf_54.2.2.2.2.1
theorem dX0_spreadOf_67 : decode cX0_spreadOf 67 = .ok (.dload 5, 2) := DX0_spreadOf_54.2.2.2.2.2.1
theorem dX0_spreadOf_69 : decode cX0_spreadOf 69 = .ok (.aload_n 1, 1) := DX0_spreadOf_54.2.2.2.2.2.2.1
theorem dX0_spreadOf_70 : decode cX0_spreadOf 70 = .ok (.getfield 24, 3) := DX0_spreadOf_54.2.2.2.2.2.2.2.1
theorem dX0_spreadOf_73 : decode cX0_spreadOf 73 = .ok (.i2d, 1) := DX0_spreadOf_54.2.2.2.2.2.2.2.2.1
theorem dX0_spreadOf_74 : decode cX0_spreadOf 74 = .ok (.ddiv, 1) := DX0_spreadOf_54.2.2.2.2.2.2.2.2.2.1
theorem dX0_spreadOf_75 : decode cX0_spreadOf 75 = .ok (.goto 4, 3) := DX0_spreadOf_54.2.2.2.2.2.2.2.2.2.2.1
theorem dX0_spreadOf_78 : decode cX0_spreadOf 78 = .ok (.dconst 0, 1) := DX0_spreadOf_54.2.2.2.2.2.2.2.2.2.2.2.1
theorem dX0_spreadOf_79 : decode cX0_spreadOf 79 = .ok (.dreturn, 1) := DX0_spreadOf_54.2.2.2.2.2.2.2.2.2.2.2.2.1
theorem mX0_spreadOf : gMv yX0_spreadOf cX0_spreadOf 10 (some .double) RX0 2 := ⟨q566, q567, q5, q568, rfl, by decide, by decide, by decide +kernel⟩
noncomputable def bX0_spreadOf_51 (v7 : Int32) (t0 : UInt64) (t1 : UInt64) : Option ((UInt64 × Int32) ⊕ (UInt64)) :=
  (gD (FP.dadd t1 t0)).bind fun u4 =>
  some (.inl (u4, v7 + 1))
set_option maxRecDepth 100000 in
set_option maxHeartbeats 4000000 in
theorem wbX0_spreadOf_51 {z : gZ} {E : gE} {bk : Nat} (F : Fx z sh E "LeapJoin$Figures" cX0_spreadOf (gR 3) 10) (B : bZ z bk) (hE : gDist sh E) (k1 : Nat) (v2 : Int32) (v3 : UInt64) (v7 : Int32) (t0 : UInt64) (t1 : UInt64) (hk1 : shX1 k1) (I : gM) (J : gN) {y : (UInt64 × Int32) ⊕ (UInt64)} (h : bX0_spreadOf_51 v7 t0 t1 = some y) (hl : ∀ s' : UInt64 × Int32, y = .inl s' → G z 13 [(1, .ref (E.2.1 k1)), (2, .int v2), (3, .double v3), (5, .double (s'.1)), (7, .int (s'.2))] [] I J) (K13_0 : ∀ x : UInt64, y = .inr x → G z 60 [(1, .ref (E.2.1 k1)), (5, .double x)] [] I J) : G z 51 [(1, .ref (E.2.1 k1)), (2, .int v2), (3, .double v3), (7, .int v7)] [.double t0, .double t1] I J := by
  unfold bX0_spreadOf_51 at h
  refine u_dadd F dX0_spreadOf_51 h (fun u4 h => ?_)
  refine g_dstore (Ln := [(5, .double u4), (1, .ref (E.2.1 k1)), (2, .int v2), (3, .double v3), (7, .int v7)]) F dX0_spreadOf_52 (by decide) rfl ?_
  refine g_iinc (v := v7 + 1) (Ln := [(7, .int (v7 + 1)), (5, .double u4), (1, .ref (E.2.1 k1)), (2, .int v2), (3, .double v3)]) F 4 dX0_spreadOf_54 rfl (add_c (by decide)) (by decide) rfl ?_
  refine g_goto (tgt := 13) F dX0_spreadOf_57 (by decide) ?_
  obtain rfl := Option.some.inj h
  refine g_sub (Ln := [(1, .ref (E.2.1 k1)), (2, .int v2), (3, .double v3), (5, .double u4), (7, .int (v7 + 1))]) [2, 3, 4, 1, 0] rfl ?_
  exact hl (u4, v7 + 1) rfl
noncomputable def lX0_spreadOf_13 (k1 : Nat) (v2 : Int32) (v3 : UInt64) (I : gM) : (UInt64 × Int32) → Option (UInt64) :=
  itO fun s =>
    if (I k1 0) ≤ s.2 then
      some (.inr s.1)
    else
      (fX1_numberAt k1 s.2 v2 I).bind fun r2 =>
      (gD (FP.dsub (FP.i2d r2) v3)).bind fun u3 =>
      if (0 : Int32) ≤ (Op.cmpValue (FP.dcmp u3 FP.dconst0) .g) then
        bX0_spreadOf_51 s.2 u3 s.1
      else
        bX0_spreadOf_51 s.2 (FP.dneg u3) s.1
set_option maxRecDepth 100000 in
set_option maxHeartbeats 4000000 in
theorem wlX0_spreadOf_13 {z : gZ} {E : gE} {bk : Nat} (F : Fx z sh E "LeapJoin$Figures" cX0_spreadOf (gR 3) 10) (B : bZ z bk) (hE : gDist sh E) (k1 : Nat) (v2 : Int32) (v3 : UInt64) (hk1 : shX1 k1) (I : gM) (J : gN) {r : UInt64} : ∀ s : UInt64 × Int32, lX0_spreadOf_13 k1 v2 v3 I s = some r → (G z 60 [(1, .ref (E.2.1 k1)), (5, .double r)] [] I J) → G z 13 [(1, .ref (E.2.1 k1)), (2, .int v2), (3, .double v3), (5, .double s.1), (7, .int s.2)] [] I J := by
  intro s h X0
  unfold lX0_spreadOf_13 at h
  revert s
  refine itO_ind (P := fun s : UInt64 × Int32 => G z 13 [(1, .ref (E.2.1 k1)), (2, .int v2), (3, .double v3), (5, .double s.1), (7, .int s.2)] [] I J) (fun s y h hl hr => ?_)
  have K13_0 : ∀ x : UInt64, y = .inr x → (G z 60 [(1, .ref (E.2.1 k1)), (5, .double x)] [] I J) := fun x q => by have q2 := hr _ q; subst q2; exact X0
  refine g_iload F 4 dX0_spreadOf_13 rfl ?_
  refine g_aload_n F 0 dX0_spreadOf_15 rfl rfl ?_
  refine g_geti (j := 0) (v := I k1 0) F hk1.1 rfl rfl uX1 (by decide) q78 rfl dX0_spreadOf_16 ?_
  refine u_icmp_ge (tgt := 60) F dX0_spreadOf_19 (by decide) h (fun h => ?_) (fun h => ?_)
  · obtain rfl := Option.some.inj h
    refine g_sub (Ln := [(1, .ref (E.2.1 k1)), (5, .double s.1)]) [0, 3] rfl ?_
    exact K13_0 s.1 rfl
  · refine g_aload_n F 0 dX0_spreadOf_22 rfl rfl ?_
    refine g_iload F 4 dX0_spreadOf_23 rfl ?_
    refine g_iload_n F 1 dX0_spreadOf_25 rfl rfl ?_
    refine u_callV (k := k1) (As := [.int s.2, .int v2]) (rest := []) (sn := fun r2 => [.int r2]) F B (fun _ => wX1_numberAt (zl z) E hE bk k1 s.2 v2 hk1 I J) mX1_numberAt q495 rfl hk1.1 rfl rfl rfl (Nat.le_of_ble_eq_true rfl) dX0_spreadOf_26 (fun _ => rfl) h (fun r2 h => ?_)
    refine g_i2d F dX0_spreadOf_29 ?_
    refine g_dload_n F 2 dX0_spreadOf_30 rfl rfl ?_
    refine u_dsub F dX0_spreadOf_31 h (fun u3 h => ?_)
    refine g_dstore (Ln := [(8, .double u3), (1, .ref (E.2.1 k1)), (2, .int v2), (3, .double v3), (5, .double s.1), (7, .int s.2)]) F dX0_spreadOf_32 (by decide) rfl ?_
    refine g_dload F 4 dX0_spreadOf_34 rfl ?_
    refine g_dload F 0 dX0_spreadOf_36 rfl ?_
    refine g_dconst0 F dX0_spreadOf_38 ?_
    refine g_dcmp F dX0_spreadOf_39 ?_
    refine u_if_ge (tgt := 49) F dX0_spreadOf_40 (by decide) h (fun h => ?_) (fun h => ?_)
    · refine g_dload F 0 dX0_spreadOf_49 rfl ?_
      refine g_sub (Ln := [(1, .ref (E.2.1 k1)), (2, .int v2), (3, .double v3), (7, .int s.2)]) [1, 2, 3, 5] rfl ?_
      exact wbX0_spreadOf_51 F B hE k1 v2 v3 s.2 u3 s.1 hk1 I J h hl K13_0
    · refine g_dload F 0 dX0_spreadOf_43 rfl ?_
      refine g_dneg F dX0_spreadOf_45 ?_
      refine g_goto (tgt := 51) F dX0_spreadOf_46 (by decide) ?_
      refine g_sub (Ln := [(1, .ref (E.2.1 k1)), (2, .int v2), (3, .double v3), (7, .int s.2)]) [1, 2, 3, 5] rfl ?_
      exact wbX0_spreadOf_51 F B hE k1 v2 v3 s.2 (FP.dneg u3) s.1 hk1 I J h hl K13_0
noncomputable def fX0_spreadOf (k1 : Nat) (v2 : Int32) (I : gM) : Option (UInt64) :=
  (fX0_meanOf k1 v2 I).bind fun r1 =>
  (lX0_spreadOf_13 k1 v2 r1 I (FP.dconst0, (0 : Int32))).bind fun w5 =>
  if (I k1 0) ≤ 0 then
    some FP.dconst0
  else
    (gD (FP.ddiv w5 (FP.i2d (I k1 0)))).bind fun u6 =>
    some u6
set_option maxRecDepth 100000 in
set_option maxHeartbeats 4000000 in
theorem wX0_spreadOf (l : Launch) (E : gE) (hE : gDist sh E) (bk : Nat) (k1 : Nat) (v2 : Int32) (hk1 : shX1 k1) (I : gM) (J : gN) {r : UInt64} (h : fX0_spreadOf k1 v2 I = some r) : Cu l sh E bk yX0_spreadOf cX0_spreadOf 10 (some .double) (gR 3) [.ref (E.2.1 40), .ref (E.2.1 k1), .int v2] I J (fun r1 I1 J1 => r1 = some (.double r) ∧ I1 = I ∧ J1 = J) := by
  refine Cu.of "LeapJoin$Figures" rfl hE (by decide) (Nat.le_of_ble_eq_true rfl) (fun z F B e hl => ?_)
  subst hl
  unfold fX0_spreadOf at h
  refine g_aload_n F 0 dX0_spreadOf_0 rfl rfl ?_
  refine g_aload_n F 1 dX0_spreadOf_1 rfl rfl ?_
  refine g_iload_n F 2 dX0_spreadOf_2 rfl rfl ?_
  refine u_callV (k := 40) (As := [.ref (E.2.1 k1), .int v2]) (rest := []) (sn := fun r1 => [.double r1]) F B (fun _ => wX0_meanOf (zl z) E hE bk k1 v2 hk1 I J) mX0_meanOf q569 rfl s40 rfl rfl rfl (Nat.le_of_ble_eq_true rfl) dX0_spreadOf_3 (fun _ => rfl) h (fun r1 h => ?_)
  refine g_dstore_n (Ln := [(3, .double r1), (0, .ref (E.2.1 40)), (1, .ref (E.2.1 k1)), (2, .int v2)]) F dX0_spreadOf_6 rfl (by decide) rfl ?_
  refine g_dconst0 F dX0_spreadOf_7 ?_
  refine g_dstore (Ln := [(5, .double FP.dconst0), (3, .double r1), (0, .ref (E.2.1 40)), (1, .ref (E.2.1 k1)), (2, .int v2)]) F dX0_spreadOf_8 (by decide) rfl ?_
  refine g_iconst (v := 0) F dX0_spreadOf_10 (by decide) ?_
  refine g_istore (Ln := [(7, .int 0), (5, .double FP.dconst0), (3, .double r1), (0, .ref (E.2.1 40)), (1, .ref (E.2.1 k1)), (2, .int v2)]) F dX0_spreadOf_11 (by decide) rfl ?_
  obtain ⟨w5, ew5, h⟩ := ob h
  refine g_sub (Ln := [(1, .ref (E.2.1 k1)), (2, .int v2), (3, .double r1), (5, .double FP.dconst0), (7, .int 0)]) [4, 5, 2, 1, 0] rfl ?_
  refine wlX0_spreadOf_13 F B hE k1 v2 r1 hk1 I J _ ew5 ?_
  refine g_aload_n F 0 dX0_spreadOf_60 rfl rfl ?_
  refine g_geti (j := 0) (v := I k1 0) F hk1.1 rfl rfl uX1 (by decide) q78 rfl dX0_spreadOf_61 ?_
  refine u_if_le (tgt := 78) F dX0_spreadOf_64 (by decide) h (fun h => ?_) (fun h => ?_)
  · refine g_dconst0 F dX0_spreadOf_78 ?_
    obtain rfl := Option.some.inj h
    exact g_dret F e dX0_spreadOf_79 ⟨rfl, rfl, rfl⟩
  · refine g_dload F 1 dX0_spreadOf_67 rfl ?_
    refine g_aload_n F 0 dX0_spreadOf_69 rfl rfl ?_
    refine g_geti (j := 0) (v := I k1 0) F hk1.1 rfl rfl uX1 (by decide) q78 rfl dX0_spreadOf_70 ?_
    refine g_i2d F dX0_spreadOf_73 ?_
    refine u_ddiv F dX0_spreadOf_74 h (fun u6 h => ?_)
    refine g_goto (tgt := 79) F dX0_spreadOf_75 (by decide) ?_
    obtain rfl := Option.some.inj h
    exact g_dret F e dX0_spreadOf_79 ⟨rfl, rfl, rfl⟩
theorem DX0_bitsOfDouble_0 : dAre cX0_bitsOfDouble [(0, .dload_n 0, 1), (1, .dconst 0, 1), (2, .dcmp .l, 1), (3, .ifCond .gt 5, 3), (6, .lconst 0, 1), (7, .lreturn, 1), (8, .dload_n 0, 1), (9, .dstore_n 2, 1), (10, .sipush 1023, 3), (13, .istore 4, 2), (15, .iconst 0, 1), (16, .istore 5, 2), (18, .iload 5, 2), (20, .sipush 1022, 3), (23, .if_icmp .ge 26, 3), (26, .dload_n 2, 1)] := dAre0 (by decide +kernel)
theorem dX0_bitsOfDouble_0 : decode cX0_bitsOfDouble 0 = .ok (.dload_n 0, 1) := DX0_bitsOfDouble_0.1
theorem dX0_bitsOfDouble_1 : decode cX0_bitsOfDouble 1 = .ok (.dconst 0, 1) := DX0_bitsOfDouble_0.2.1
theorem dX0_bitsOfDouble_2 : decode cX0_bitsOfDouble 2 = .ok (.dcmp .l, 1) := DX0_bitsOfDouble_0.2.2.1
theorem dX0_bitsOfDouble_3 : decode cX0_bitsOfDouble 3 = .ok (.ifCond .gt 5, 3) := DX0_bitsOfDouble_0.2.2.2.1
theorem dX0_bitsOfDouble_6 : decode cX0_bitsOfDouble 6 = .ok (.lconst 0, 1) := DX0_bitsOfDouble_0.2.2.2.2.1
theorem dX0_bitsOfDouble_7 : decode cX0_bitsOfDouble 7 = .ok (.lreturn, 1) := DX0_bitsOfDouble_0.2.2.2.2.2.1
theorem dX0_bitsOfDouble_8 : decode cX0_bitsOfDouble 8 = .ok (.dload_n 0, 1) := DX0_bitsOfDouble_0.2.2.2.2.2.2.1
theorem dX0_bitsOfDouble_9 : decode cX0_bitsOfDouble 9 = .ok (.dstore_n 2, 1) := DX0_bitsOfDouble_0.2.2.2.2.2.2.2.1
theorem dX0_bitsOfDouble_10 : decode cX0_bitsOfDouble 10 = .ok (.sipush 1023, 3) := DX0_bitsOfDouble_0.2.2.2.2.2.2.2.2.1
theorem dX0_bitsOfDouble_13 : decode cX0_bitsOfDouble 13 = .ok (.istore 4, 2) := DX0_bitsOfDouble_0.2.2.2.2.2.2.2.2.2.1
theorem dX0_bitsOfDouble_15 : decode cX0_bitsOfDouble 15 = .ok (.iconst 0, 1) := DX0_bitsOfDouble_0.2.2.2.2.2.2.2.2.2.2.1
theorem dX0_bitsOfDouble_16 : decode cX0_bitsOfDouble 16 = .ok (.istore 5, 2) := DX0_bitsOfDouble_0.2.2.2.2.2.2.2.2.2.2.2.1
theorem dX0_bitsOfDouble_18 : decode cX0_bitsOfDouble 18 = .ok (.iload 5, 2) := DX0_bitsOfDouble_0.2.2.2.2.2.2.2.2.2.2.2.2.1
theorem dX0_bitsOfDouble_20 : decode cX0_bitsOfDouble 20 = .ok (.sipush 1022, 3) := DX0_bitsOfDouble_0.2.2.2.2.2.2.2.2.2.2.2.2.2.1
theorem dX0_bitsOfDouble_23 : decode cX0_bitsOfDouble 23 = .ok (.if_icmp .ge 26, 3) := DX0_bitsOfDouble_0.2.2.2.2.2.2.2.2.2.2.2.2.2.2.1
theorem dX0_bitsOfDouble_26 : decode cX0_bitsOfDouble 26 = .ok (.dload_n 2, 1) := DX0_bitsOfDouble_0.2.2.2.2.2.2.2.2.2.2.2.2.2.2.2.1
theorem DX0_bitsOfDouble_27 : dAre cX0_bitsOfDouble [(27, .ldc2_w 57, 3), (30, .dcmp .l, 1), (31, .ifCond .lt 18, 3), (34, .dload_n 2, 1), (35, .ldc2_w 57, 3), (38, .ddiv, 1), (39, .dstore_n 2, 1), (40, .iinc 4 1, 3), (43, .iinc 5 1, 3), (46, .goto (-28), 3), (49, .iconst 0, 1), (50, .istore 5, 2), (52, .iload 5, 2), (54, .sipush 1022, 3), (57, .if_icmp .ge 24, 3), (60, .dload_n 2, 1)] := dAre0 (by decide +kernel)
theorem dX0_bitsOfDouble_27 : decode cX0_bitsOfDouble 27 = .ok (.ldc2_w 57, 3) := DX0_bitsOfDouble_27.1
theorem dX0_bitsOfDouble_30 : decode cX0_bitsOfDouble 30 = .ok (.dcmp .l, 1) := DX0_bitsOfDouble_27.2.1
theorem dX0_bitsOfDouble_31 : decode cX0_bitsOfDouble 31 = .ok (.ifCond .lt 18, 3) := DX0_bitsOfDouble_27.2.2.1
theorem dX0_bitsOfDouble_34 : decode cX0_bitsOfDouble 34 = .ok (.dload_n 2, 1) := DX0_bitsOfDouble_27.2.2.2.1
theorem dX0_bitsOfDouble_35 : decode cX0_bitsOfDouble 35 = .ok (.ldc2_w 57, 3) := DX0_bitsOfDouble_27.2.2.2.2.1
theorem dX0_bitsOfDouble_38 : decode cX0_bitsOfDouble 38 = .ok (.ddiv, 1) := DX0_bitsOfDouble_27.2.2.2.2.2.1
theorem dX0_bitsOfDouble_39 : decode cX0_bitsOfDouble 39 = .ok (.dstore_n 2, 1) := DX0_bitsOfDouble_27.2.2.2.2.2.2.1
theorem dX0_bitsOfDouble_40 : decode cX0_bitsOfDouble 40 = .ok (.iinc 4 1, 3) := DX0_bitsOfDouble_27.2.2.2.2.2.2.2.1
theorem dX0_bitsOfDouble_43 : decode cX0_bitsOfDouble 43 = .ok (.iinc 5 1, 3) := DX0_bitsOfDouble_27.2.2.2.2.2.2.2.2.1
theorem dX0_bitsOfDouble_46 : decode cX0_bitsOfDouble 46 = .ok (.goto (-28), 3) := DX0_bitsOfDouble_27.2.2.2.2.2.2.2.2.2.1
theorem dX0_bitsOfDouble_49 : decode cX0_bitsOfDouble 49 = .ok (.iconst 0, 1) := DX0_bitsOfDouble_27.2.2.2.2.2.2.2.2.2.2.1
theorem dX0_bitsOfDouble_50 : decode cX0_bitsOfDouble 50 = .ok (.istore 5, 2) := DX0_bitsOfDouble_27.2.2.2.2.2.2.2.2.2.2.2.1
theorem dX0_bitsOfDouble_52 : decode cX0_bitsOfDouble 52 = .ok (.iload 5, 2) := DX0_bitsOfDouble_27.2.2.2.2.2.2.2.2.2.2.2.2.1
theorem dX0_bitsOfDouble_54 : decode cX0_bitsOfDouble 54 = .ok (.sipush 1022, 3) := DX0_bitsOfDouble_27.2.2.2.2.2.2.2.2.2.2.2.2.2.1
theorem dX0_bitsOfDouble_57 : decode cX0_bitsOfDouble 57 = .ok (.if_icmp .ge 24, 3) := DX0_bitsOfDouble_27.2.2.2.2.2.2.2.2.2.2.2.2.2.2.1
theorem dX0_bitsOfDouble_60 : decode cX0_bitsOfDouble 60 = .ok (.dload_n 2, 1) := DX0_bitsOfDouble_27.2.2.2.2.2.2.2.2.2.2.2.2.2.2.2.1
theorem DX0_bitsOfDouble_61 : dAre cX0_bitsOfDouble [(61, .dconst 1, 1), (62, .dcmp .g, 1), (63, .ifCond .ge 18, 3), (66, .dload_n 2, 1), (67, .ldc2_w 57, 3), (70, .dmul, 1), (71, .dstore_n 2, 1), (72, .iinc 4 (-1), 3), (75, .iinc 5 1, 3), (78, .goto (-26), 3), (81, .iload 4, 2), (83, .i2l, 1), (84, .bipush 52, 2), (86, .lshl, 1), (87, .dload_n 2, 1), (88, .dconst 1, 1)] := dAre0 (by decide +kernel)
theorem dX0_bitsOfDouble_61 : decode cX0_bitsOfDouble 61 = .ok (.dconst 1, 1) := DX0_bitsOfDouble_61.1
theorem dX0_bitsOfDouble_62 : decode cX0_bitsOfDouble 62 = .ok (.dcmp .g, 1) := DX0_bitsOfDouble_61.2.1
theorem dX0_bitsOfDouble_63 : decode cX0_bitsOfDouble 63 = .ok (.ifCond .ge 18, 3) := DX0_bitsOfDouble_61.2.2.1
theorem dX0_bitsOfDouble_66 : decode cX0_bitsOfDouble 66 = .ok (.dload_n 2, 1) := DX0_bitsOfDouble_61.2.2.2.1
theorem dX0_bitsOfDouble_67 : decode cX0_bitsOfDouble 67 = .ok (.ldc2_w 57, 3) := DX0_bitsOfDouble_61.2.2.2.2.1
theorem dX0_bitsOfDouble_70 : decode cX0_bitsOfDouble 70 = .ok (.dmul, 1) := DX0_bitsOfDouble_61.2.2.2.2.2.1
theorem dX0_bitsOfDouble_71 : decode cX0_bitsOfDouble 71 = .ok (.dstore_n 2, 1) := DX0_bitsOfDouble_61.2.2.2.2.2.2.1
theorem dX0_bitsOfDouble_72 : decode cX0_bitsOfDouble 72 = .ok (.iinc 4 (-1), 3) := DX0_bitsOfDouble_61.2.2.2.2.2.2.2.1
theorem dX0_bitsOfDouble_75 : decode cX0_bitsOfDouble 75 = .ok (.iinc 5 1, 3) := DX0_bitsOfDouble_61.2.2.2.2.2.2.2.2.1
theorem dX0_bitsOfDouble_78 : decode cX0_bitsOfDouble 78 = .ok (.goto (-26), 3) := DX0_bitsOfDouble_61.2.2.2.2.2.2.2.2.2.1
theorem dX0_bitsOfDouble_81 : decode cX0_bitsOfDouble 81 = .ok (.iload 4, 2) := DX0_bitsOfDouble_61.2.2.2.2.2.2.2.2.2.2.1
theorem dX0_bitsOfDouble_83 : decode cX0_bitsOfDouble 83 = .ok (.i2l, 1) := DX0_bitsOfDouble_61.2.2.2.2.2.2.2.2.2.2.2.1
theorem dX0_bitsOfDouble_84 : decode cX0_bitsOfDouble 84 = .ok (.bipush 52, 2) := DX0_bitsOfDouble_61.2.2.2.2.2.2.2.2.2.2.2.2.1
theorem dX0_bitsOfDouble_86 : decode cX0_bitsOfDouble 86 = .ok (.lshl, 1) := DX0_bitsOfDouble_61.2.2.2.2.2.2.2.2.2.2.2.2.2.1
theorem dX0_bitsOfDouble_87 : decode cX0_bitsOfDouble 87 = .ok (.dload_n 2, 1) := DX0_bitsOfDouble_61.2.2.2.2.2.2.2.2.2.2.2.2.2.2.1
theorem dX0_bitsOfDouble_88 : decode cX0_bitsOfDouble 88 = .ok (.dconst 1, 1) := DX0_bitsOfDouble_61.2.2.2.2.2.2.2.2.2.2.2.2.2.2.2.1
theorem DX0_bitsOfDouble_89 : dAre cX0_bitsOfDouble [(89, .dsub, 1), (90, .ldc2_w 59, 3), (93, .dmul, 1), (94, .d2l, 1), (95, .lor, 1), (96, .lreturn, 1)] := dAre0 (by decide +kernel)
theorem dX0_bitsOfDouble_89 : decode cX0_bitsOfDouble 89 = .ok (.dsub, 1) := DX0_bitsOfDouble_89.1
theorem dX0_bitsOfDouble_90 : decode cX0_bitsOfDouble 90 = .ok (.ldc2_w 59, 3) := DX0_bitsOfDouble_89.2.1
theorem dX0_bitsOfDouble_93 : decode cX0_bitsOfDouble 93 = .ok (.dmul, 1) := DX0_bitsOfDouble_89.2.2.1
theorem dX0_bitsOfDouble_94 : decode cX0_bitsOfDouble 94 = .ok (.d2l, 1) := DX0_bitsOfDouble_89.2.2.2.1
theorem dX0_bitsOfDouble_95 : decode cX0_bitsOfDouble 95 = .ok (.lor, 1) := DX0_bitsOfDouble_89.2.2.2.2.1
theorem dX0_bitsOfDouble_96 : decode cX0_bitsOfDouble 96 = .ok (.lreturn, 1) := DX0_bitsOfDouble_89.2.2.2.2.2.1
theorem mX0_bitsOfDouble : gMs yX0_bitsOfDouble cX0_bitsOfDouble 6 (some .long) 1 := ⟨q547, q5, q548, by decide, by decide, by decide +kernel⟩
noncomputable def lX0_bitsOfDouble_18 : (UInt64 × Int32 × Int32) → Option (UInt64 × Int32) :=
  itO fun s =>
    if (1022 : Int32) ≤ s.2.2 then
      some (.inr (s.1, s.2.1))
    else
      if (Op.cmpValue (FP.dcmp s.1 (4611686018427387904 : UInt64)) .l) < 0 then
        some (.inr (s.1, s.2.1))
      else
        (gD (FP.ddiv s.1 (4611686018427387904 : UInt64))).bind fun u1 =>
        some (.inl (u1, s.2.1 + 1, s.2.2 + 1))
set_option maxRecDepth 100000 in
set_option maxHeartbeats 4000000 in
theorem wlX0_bitsOfDouble_18 {z : gZ} {E : gE} {bk : Nat} (F : Fx z sh E "LeapJoin$Figures" cX0_bitsOfDouble (gR 0) 6) (B : bZ z bk) (hE : gDist sh E) (I : gM) (J : gN) {r : UInt64 × Int32} : ∀ s : UInt64 × Int32 × Int32, lX0_bitsOfDouble_18 s = some r → (G z 49 [(2, .double r.1), (4, .int r.2)] [] I J) → G z 18 [(2, .double s.1), (4, .int s.2.1), (5, .int s.2.2)] [] I J := by
  intro s h X0
  unfold lX0_bitsOfDouble_18 at h
  revert s
  refine itO_ind (P := fun s : UInt64 × Int32 × Int32 => G z 18 [(2, .double s.1), (4, .int s.2.1), (5, .int s.2.2)] [] I J) (fun s y h hl hr => ?_)
  have K18_0 : ∀ x : UInt64 × Int32, y = .inr x → (G z 49 [(2, .double x.1), (4, .int x.2)] [] I J) := fun x q => by have q2 := hr _ q; subst q2; exact X0
  refine g_iload F 2 dX0_bitsOfDouble_18 rfl ?_
  refine g_sipush (v := 1022) F dX0_bitsOfDouble_20 (by decide) ?_
  refine u_icmp_ge (tgt := 49) F dX0_bitsOfDouble_23 (by decide) h (fun h => ?_) (fun h => ?_)
  · obtain rfl := Option.some.inj h
    refine g_sub (Ln := [(2, .double s.1), (4, .int s.2.1)]) [0, 1] rfl ?_
    exact K18_0 (s.1, s.2.1) rfl
  · refine g_dload_n F 0 dX0_bitsOfDouble_26 rfl rfl ?_
    refine g_ldc2d F dX0_bitsOfDouble_27 q549 ?_
    refine g_dcmp F dX0_bitsOfDouble_30 ?_
    refine u_if_lt (tgt := 49) F dX0_bitsOfDouble_31 (by decide) h (fun h => ?_) (fun h => ?_)
    · obtain rfl := Option.some.inj h
      refine g_sub (Ln := [(2, .double s.1), (4, .int s.2.1)]) [0, 1] rfl ?_
      exact K18_0 (s.1, s.2.1) rfl
    · refine g_dload_n F 0 dX0_bitsOfDouble_34 rfl rfl ?_
      refine g_ldc2d F dX0_bitsOfDouble_35 q549 ?_
      refine u_ddiv F dX0_bitsOfDouble_38 h (fun u1 h => ?_)
      refine g_dstore_n (Ln := [(2, .double u1), (4, .int s.2.1), (5, .int s.2.2)]) F dX0_bitsOfDouble_39 rfl (by decide) rfl ?_
      refine g_iinc (v := s.2.1 + 1) (Ln := [(4, .int (s.2.1 + 1)), (2, .double u1), (5, .int s.2.2)]) F 1 dX0_bitsOfDouble_40 rfl (add_c (by decide)) (by decide) rfl ?_
      refine g_iinc (v := s.2.2 + 1) (Ln := [(5, .int (s.2.2 + 1)), (4, .int (s.2.1 + 1)), (2, .double u1)]) F 2 dX0_bitsOfDouble_43 rfl (add_c (by decide)) (by decide) rfl ?_
      refine g_goto (tgt := 18) F dX0_bitsOfDouble_46 (by decide) ?_
      obtain rfl := Option.some.inj h
      refine g_sub (Ln := [(2, .double u1), (4, .int (s.2.1 + 1)), (5, .int (s.2.2 + 1))]) [2, 1, 0] rfl ?_
      exact hl (u1, s.2.1 + 1, s.2.2 + 1) rfl
noncomputable def lX0_bitsOfDouble_52 : (UInt64 × Int32 × Int32) → Option (UInt64 × Int32) :=
  itO fun s =>
    if (1022 : Int32) ≤ s.2.2 then
      some (.inr (s.1, s.2.1))
    else
      if (0 : Int32) ≤ (Op.cmpValue (FP.dcmp s.1 FP.dconst1) .g) then
        some (.inr (s.1, s.2.1))
      else
        (gD (FP.dmul s.1 (4611686018427387904 : UInt64))).bind fun u3 =>
        some (.inl (u3, s.2.1 + (-1), s.2.2 + 1))
set_option maxRecDepth 100000 in
set_option maxHeartbeats 4000000 in
theorem wlX0_bitsOfDouble_52 {z : gZ} {E : gE} {bk : Nat} (F : Fx z sh E "LeapJoin$Figures" cX0_bitsOfDouble (gR 0) 6) (B : bZ z bk) (hE : gDist sh E) (I : gM) (J : gN) {r : UInt64 × Int32} : ∀ s : UInt64 × Int32 × Int32, lX0_bitsOfDouble_52 s = some r → (G z 81 [(2, .double r.1), (4, .int r.2)] [] I J) → G z 52 [(2, .double s.1), (4, .int s.2.1), (5, .int s.2.2)] [] I J := by
  intro s h X0
  unfold lX0_bitsOfDouble_52 at h
  revert s
  refine itO_ind (P := fun s : UInt64 × Int32 × Int32 => G z 52 [(2, .double s.1), (4, .int s.2.1), (5, .int s.2.2)] [] I J) (fun s y h hl hr => ?_)
  have K52_0 : ∀ x : UInt64 × Int32, y = .inr x → (G z 81 [(2, .double x.1), (4, .int x.2)] [] I J) := fun x q => by have q2 := hr _ q; subst q2; exact X0
  refine g_iload F 2 dX0_bitsOfDouble_52 rfl ?_
  refine g_sipush (v := 1022) F dX0_bitsOfDouble_54 (by decide) ?_
  refine u_icmp_ge (tgt := 81) F dX0_bitsOfDouble_57 (by decide) h (fun h => ?_) (fun h => ?_)
  · obtain rfl := Option.some.inj h
    refine g_sub (Ln := [(2, .double s.1), (4, .int s.2.1)]) [0, 1] rfl ?_
    exact K52_0 (s.1, s.2.1) rfl
  · refine g_dload_n F 0 dX0_bitsOfDouble_60 rfl rfl ?_
    refine g_dconst1 F dX0_bitsOfDouble_61 ?_
    refine g_dcmp F dX0_bitsOfDouble_62 ?_
    refine u_if_ge (tgt := 81) F dX0_bitsOfDouble_63 (by decide) h (fun h => ?_) (fun h => ?_)
    · obtain rfl := Option.some.inj h
      refine g_sub (Ln := [(2, .double s.1), (4, .int s.2.1)]) [0, 1] rfl ?_
      exact K52_0 (s.1, s.2.1) rfl
    · refine g_dload_n F 0 dX0_bitsOfDouble_66 rfl rfl ?_
      refine g_ldc2d F dX0_bitsOfDouble_67 q549 ?_
      refine u_dmul F dX0_bitsOfDouble_70 h (fun u3 h => ?_)
      refine g_dstore_n (Ln := [(2, .double u3), (4, .int s.2.1), (5, .int s.2.2)]) F dX0_bitsOfDouble_71 rfl (by decide) rfl ?_
      refine g_iinc (v := s.2.1 + (-1)) (Ln := [(4, .int (s.2.1 + (-1))), (2, .double u3), (5, .int s.2.2)]) F 1 dX0_bitsOfDouble_72 rfl (add_c (by decide)) (by decide) rfl ?_
      refine g_iinc (v := s.2.2 + 1) (Ln := [(5, .int (s.2.2 + 1)), (4, .int (s.2.1 + (-1))), (2, .double u3)]) F 2 dX0_bitsOfDouble_75 rfl (add_c (by decide)) (by decide) rfl ?_
      refine g_goto (tgt := 52) F dX0_bitsOfDouble_78 (by decide) ?_
      obtain rfl := Option.some.inj h
      refine g_sub (Ln := [(2, .double u3), (4, .int (s.2.1 + (-1))), (5, .int (s.2.2 + 1))]) [2, 1, 0] rfl ?_
      exact hl (u3, s.2.1 + (-1), s.2.2 + 1) rfl
noncomputable def bX0_bitsOfDouble_81 (v2 : UInt64) (v4 : Int32) : Option (Int64) :=
  (gD (FP.dsub v2 FP.dconst1)).bind fun u5 =>
  (gD (FP.dmul u5 (4841369599423283200 : UInt64))).bind fun u6 =>
  some ((v4.toInt64 <<< ((52 : Int32).toInt64 &&& 63)) ||| (FP.d2l u6))
set_option maxRecDepth 100000 in
set_option maxHeartbeats 4000000 in
theorem wbX0_bitsOfDouble_81 {z : gZ} {E : gE} {bk : Nat} (F : Fx z sh E "LeapJoin$Figures" cX0_bitsOfDouble (gR 0) 6) (B : bZ z bk) (hE : gDist sh E) (v2 : UInt64) (v4 : Int32) (I : gM) (J : gN) {y : Int64} (h : bX0_bitsOfDouble_81 v2 v4 = some y) (e : Fe z sh E (some .long) (fun r1 I1 J1 => r1 = some (.long y) ∧ I1 = I ∧ J1 = J)) : G z 81 [(2, .double v2), (4, .int v4)] [] I J := by
  unfold bX0_bitsOfDouble_81 at h
  refine g_iload F 1 dX0_bitsOfDouble_81 rfl ?_
  refine g_i2l (v := v4.toInt64) F dX0_bitsOfDouble_83 rfl ?_
  refine g_bipush (v := 52) F dX0_bitsOfDouble_84 (by decide) ?_
  refine g_lshl (v := v4.toInt64 <<< ((52 : Int32).toInt64 &&& 63)) F dX0_bitsOfDouble_86 rfl ?_
  refine g_dload_n F 0 dX0_bitsOfDouble_87 rfl rfl ?_
  refine g_dconst1 F dX0_bitsOfDouble_88 ?_
  refine u_dsub F dX0_bitsOfDouble_89 h (fun u5 h => ?_)
  refine g_ldc2d F dX0_bitsOfDouble_90 q550 ?_
  refine u_dmul F dX0_bitsOfDouble_93 h (fun u6 h => ?_)
  refine g_d2l F dX0_bitsOfDouble_94 ?_
  refine g_lor (v := (v4.toInt64 <<< ((52 : Int32).toInt64 &&& 63)) ||| (FP.d2l u6)) F dX0_bitsOfDouble_95 rfl ?_
  obtain rfl := Option.some.inj h
  exact g_lret F e dX0_bitsOfDouble_96 ⟨rfl, rfl, rfl⟩
noncomputable def bX0_bitsOfDouble_49 (v2 : UInt64) (v4 : Int32) : Option (Int64) :=
  (lX0_bitsOfDouble_52 (v2, v4, (0 : Int32))).bind fun w4 =>
  bX0_bitsOfDouble_81 w4.1 w4.2
set_option maxRecDepth 100000 in
set_option maxHeartbeats 4000000 in
theorem wbX0_bitsOfDouble_49 {z : gZ} {E : gE} {bk : Nat} (F : Fx z sh E "LeapJoin$Figures" cX0_bitsOfDouble (gR 0) 6) (B : bZ z bk) (hE : gDist sh E) (v2 : UInt64) (v4 : Int32) (I : gM) (J : gN) {y : Int64} (h : bX0_bitsOfDouble_49 v2 v4 = some y) (e : Fe z sh E (some .long) (fun r1 I1 J1 => r1 = some (.long y) ∧ I1 = I ∧ J1 = J)) : G z 49 [(2, .double v2), (4, .int v4)] [] I J := by
  unfold bX0_bitsOfDouble_49 at h
  refine g_iconst (v := 0) F dX0_bitsOfDouble_49 (by decide) ?_
  refine g_istore (Ln := [(5, .int 0), (2, .double v2), (4, .int v4)]) F dX0_bitsOfDouble_50 (by decide) rfl ?_
  obtain ⟨w4, ew4, h⟩ := ob h
  refine g_sub (Ln := [(2, .double v2), (4, .int v4), (5, .int 0)]) [1, 2, 0] rfl ?_
  refine wlX0_bitsOfDouble_52 F B hE I J _ ew4 ?_
  refine g_sub (Ln := [(2, .double w4.1), (4, .int w4.2)]) [0, 1] rfl ?_
  exact wbX0_bitsOfDouble_81 F B hE w4.1 w4.2 I J h e
noncomputable def fX0_bitsOfDouble (v0 : UInt64) : Option (Int64) :=
  if (0 : Int32) < (Op.cmpValue (FP.dcmp v0 FP.dconst0) .l) then
    (lX0_bitsOfDouble_18 (v0, (1023 : Int32), (0 : Int32))).bind fun w2 =>
    bX0_bitsOfDouble_49 w2.1 w2.2
  else
    some (0 : Int64)
set_option maxRecDepth 100000 in
set_option maxHeartbeats 4000000 in
theorem wX0_bitsOfDouble (l : Launch) (E : gE) (hE : gDist sh E) (bk : Nat) (v0 : UInt64) (I : gM) (J : gN) {r : Int64} (h : fX0_bitsOfDouble v0 = some r) : Cu l sh E bk yX0_bitsOfDouble cX0_bitsOfDouble 6 (some .long) (gR 0) [.double v0] I J (fun r1 I1 J1 => r1 = some (.long r) ∧ I1 = I ∧ J1 = J) := by
  refine Cu.of "LeapJoin$Figures" rfl hE (by decide) (Nat.le_of_ble_eq_true rfl) (fun z F B e hl => ?_)
  subst hl
  unfold fX0_bitsOfDouble at h
  refine g_dload_n F 0 dX0_bitsOfDouble_0 rfl rfl ?_
  refine g_dconst0 F dX0_bitsOfDouble_1 ?_
  refine g_dcmp F dX0_bitsOfDouble_2 ?_
  refine u_if_gt (tgt := 8) F dX0_bitsOfDouble_3 (by decide) h (fun h => ?_) (fun h => ?_)
  · refine g_dload_n F 0 dX0_bitsOfDouble_8 rfl rfl ?_
    refine g_dstore_n (Ln := [(2, .double v0), (0, .double v0)]) F dX0_bitsOfDouble_9 rfl (by decide) rfl ?_
    refine g_sipush (v := 1023) F dX0_bitsOfDouble_10 (by decide) ?_
    refine g_istore (Ln := [(4, .int 1023), (2, .double v0), (0, .double v0)]) F dX0_bitsOfDouble_13 (by decide) rfl ?_
    refine g_iconst (v := 0) F dX0_bitsOfDouble_15 (by decide) ?_
    refine g_istore (Ln := [(5, .int 0), (4, .int 1023), (2, .double v0), (0, .double v0)]) F dX0_bitsOfDouble_16 (by decide) rfl ?_
    obtain ⟨w2, ew2, h⟩ := ob h
    refine g_sub (Ln := [(2, .double v0), (4, .int 1023), (5, .int 0)]) [2, 1, 0] rfl ?_
    refine wlX0_bitsOfDouble_18 F B hE I J _ ew2 ?_
    refine g_sub (Ln := [(2, .double w2.1), (4, .int w2.2)]) [0, 1] rfl ?_
    exact wbX0_bitsOfDouble_49 F B hE w2.1 w2.2 I J h e
  · refine g_lconst (v := 0) F dX0_bitsOfDouble_6 (by decide) ?_
    obtain rfl := Option.some.inj h
    exact g_lret F e dX0_bitsOfDouble_7 ⟨rfl, rfl, rfl⟩
theorem DX0_bitsOfFloat_0 : dAre cX0_bitsOfFloat [(0, .fload_n 0, 1), (1, .fconst 0, 1), (2, .fcmp .l, 1), (3, .ifCond .gt 5, 3), (6, .iconst 0, 1), (7, .ireturn, 1), (8, .fload_n 0, 1), (9, .f2d, 1), (10, .invokestatic 61, 3), (13, .lstore_n 1, 1), (14, .lload_n 1, 1), (15, .bipush 52, 2), (17, .lushr, 1), (18, .l2i, 1), (19, .sipush 1023, 3), (22, .isub, 1)] := dAre0 (by decide +kernel)
theorem dX0_bitsOfFloat_0 : decode cX0_bitsOfFloat 0 = .ok (.fload_n 0, 1) := DX0_bitsOfFloat_0.1
theorem dX0_bitsOfFloat_1 : decode cX0_bitsOfFloat 1 = .ok (.fconst 0, 1) := DX0_bitsOfFloat_0.2.1
theorem dX0_bitsOfFloat_2 : decode cX0_bitsOfFloat 2 = .ok (.fcmp .l, 1) := DX0_bitsOfFloat_0.2.2.1
theorem dX0_bitsOfFloat_3 : decode cX0_bitsOfFloat 3 = .ok (.ifCond .gt 5, 3) := DX0_bitsOfFloat_0.2.2.2.1
theorem dX0_bitsOfFloat_6 : decode cX0_bitsOfFloat 6 = .ok (.iconst 0, 1) := DX0_bitsOfFloat_0.2.2.2.2.1
theorem dX0_bitsOfFloat_7 : decode cX0_bitsOfFloat 7 = .ok (.ireturn, 1) := DX0_bitsOfFloat_0.2.2.2.2.2.1
theorem dX0_bitsOfFloat_8 : decode cX0_bitsOfFloat 8 = .ok (.fload_n 0, 1) := DX0_bitsOfFloat_0.2.2.2.2.2.2.1
theorem dX0_bitsOfFloat_9 : decode cX0_bitsOfFloat 9 = .ok (.f2d, 1) := DX0_bitsOfFloat_0.2.2.2.2.2.2.2.1
theorem dX0_bitsOfFloat_10 : decode cX0_bitsOfFloat 10 = .ok (.invokestatic 61, 3) := DX0_bitsOfFloat_0.2.2.2.2.2.2.2.2.1
theorem dX0_bitsOfFloat_13 : decode cX0_bitsOfFloat 13 = .ok (.lstore_n 1, 1) := DX0_bitsOfFloat_0.2.2.2.2.2.2.2.2.2.1
theorem dX0_bitsOfFloat_14 : decode cX0_bitsOfFloat 14 = .ok (.lload_n 1, 1) := DX0_bitsOfFloat_0.2.2.2.2.2.2.2.2.2.2.1
theorem dX0_bitsOfFloat_15 : decode cX0_bitsOfFloat 15 = .ok (.bipush 52, 2) := DX0_bitsOfFloat_0.2.2.2.2.2.2.2.2.2.2.2.1
theorem dX0_bitsOfFloat_17 : decode cX0_bitsOfFloat 17 = .ok (.lushr, 1) := DX0_bitsOfFloat_0.2.2.2.2.2.2.2.2.2.2.2.2.1
theorem dX0_bitsOfFloat_18 : decode cX0_bitsOfFloat 18 = .ok (.l2i, 1) := DX0_bitsOfFloat_0.2.2.2.2.2.2.2.2.2.2.2.2.2.1
theorem dX0_bitsOfFloat_19 : decode cX0_bitsOfFloat 19 = .ok (.sipush 1023, 3) := DX0_bitsOfFloat_0.2.2.2.2.2.2.2.2.2.2.2.2.2.2.1
theorem dX0_bitsOfFloat_22 : decode cX0_bitsOfFloat 22 = .ok (.isub, 1) := DX0_bitsOfFloat_0.2.2.2.2.2.2.2.2.2.2.2.2.2.2.2.1
theorem DX0_bitsOfFloat_23 : dAre cX0_bitsOfFloat [(23, .bipush 127, 2), (25, .iadd, 1), (26, .istore_n 3, 1), (27, .iload_n 3, 1), (28, .bipush 23, 2), (30, .ishl, 1), (31, .lload_n 1, 1), (32, .bipush 29, 2), (34, .lushr, 1), (35, .ldc2_w 65, 3), (38, .land, 1), (39, .l2i, 1), (40, .ior, 1), (41, .ireturn, 1)] := dAre0 (by decide +kernel)
theorem dX0_bitsOfFloat_23 : decode cX0_bitsOfFloat 23 = .ok (.bipush 127, 2) := DX0_bitsOfFloat_23.1
theorem dX0_bitsOfFloat_25 : decode cX0_bitsOfFloat 25 = .ok (.iadd, 1) := DX0_bitsOfFloat_23.2.1
theorem dX0_bitsOfFloat_26 : decode cX0_bitsOfFloat 26 = .ok (.istore_n 3, 1) := DX0_bitsOfFloat_23.2.2.1
theorem dX0_bitsOfFloat_27 : decode cX0_bitsOfFloat 27 = .ok (.iload_n 3, 1) := DX0_bitsOfFloat_23.2.2.2.1
theorem dX0_bitsOfFloat_28 : decode cX0_bitsOfFloat 28 = .ok (.bipush 23, 2) := DX0_bitsOfFloat_23.2.2.2.2.1
theorem dX0_bitsOfFloat_30 : decode cX0_bitsOfFloat 30 = .ok (.ishl, 1) := DX0_bitsOfFloat_23.2.2.2.2.2.1
theorem dX0_bitsOfFloat_31 : decode cX0_bitsOfFloat 31 = .ok (.lload_n 1, 1) := DX0_bitsOfFloat_23.2.2.2.2.2.2.1
theorem dX0_bitsOfFloat_32 : decode cX0_bitsOfFloat 32 = .ok (.bipush 29, 2) := DX0_bitsOfFloat_23.2.2.2.2.2.2.2.1
theorem dX0_bitsOfFloat_34 : decode cX0_bitsOfFloat 34 = .ok (.lushr, 1) := DX0_bitsOfFloat_23.2.2.2.2.2.2.2.2.1
theorem dX0_bitsOfFloat_35 : decode cX0_bitsOfFloat 35 = .ok (.ldc2_w 65, 3) := DX0_bitsOfFloat_23.2.2.2.2.2.2.2.2.2.1
theorem dX0_bitsOfFloat_38 : decode cX0_bitsOfFloat 38 = .ok (.land, 1) := DX0_bitsOfFloat_23.2.2.2.2.2.2.2.2.2.2.1
theorem dX0_bitsOfFloat_39 : decode cX0_bitsOfFloat 39 = .ok (.l2i, 1) := DX0_bitsOfFloat_23.2.2.2.2.2.2.2.2.2.2.2.1
theorem dX0_bitsOfFloat_40 : decode cX0_bitsOfFloat 40 = .ok (.ior, 1) := DX0_bitsOfFloat_23.2.2.2.2.2.2.2.2.2.2.2.2.1
theorem dX0_bitsOfFloat_41 : decode cX0_bitsOfFloat 41 = .ok (.ireturn, 1) := DX0_bitsOfFloat_23.2.2.2.2.2.2.2.2.2.2.2.2.2.1
theorem mX0_bitsOfFloat : gMs yX0_bitsOfFloat cX0_bitsOfFloat 4 (some .int) 1 := ⟨q557, q5, q558, by decide, by decide, by decide +kernel⟩
noncomputable def fX0_bitsOfFloat (v0 : UInt32) : Option (Int32) :=
  if (0 : Int32) < (Op.cmpValue (FP.fcmp v0 FP.fconst0) .l) then
    (gD (FP.f2d v0)).bind fun u1 =>
    (fX0_bitsOfDouble u1).bind fun r2 =>
    some ((((((lU r2 52).toInt32) - 1023) + 127) <<< 23) ||| (((lU r2 29) &&& 8388607).toInt32))
  else
    some (0 : Int32)
set_option maxRecDepth 100000 in
set_option maxHeartbeats 4000000 in
theorem wX0_bitsOfFloat (l : Launch) (E : gE) (hE : gDist sh E) (bk : Nat) (v0 : UInt32) (I : gM) (J : gN) {r : Int32} (h : fX0_bitsOfFloat v0 = some r) : Cu l sh E bk yX0_bitsOfFloat cX0_bitsOfFloat 4 (some .int) (gR 1) [.float v0] I J (fun r1 I1 J1 => r1 = some (.int r) ∧ I1 = I ∧ J1 = J) := by
  refine Cu.of "LeapJoin$Figures" rfl hE (by decide) (Nat.le_of_ble_eq_true rfl) (fun z F B e hl => ?_)
  subst hl
  unfold fX0_bitsOfFloat at h
  refine g_fload_n F 0 dX0_bitsOfFloat_0 rfl rfl ?_
  refine g_fconst0 F dX0_bitsOfFloat_1 ?_
  refine g_fcmp F dX0_bitsOfFloat_2 ?_
  refine u_if_gt (tgt := 8) F dX0_bitsOfFloat_3 (by decide) h (fun h => ?_) (fun h => ?_)
  · refine g_fload_n F 0 dX0_bitsOfFloat_8 rfl rfl ?_
    refine u_f2d F dX0_bitsOfFloat_9 h (fun u1 h => ?_)
    refine u_callS (As := [.double u1]) (rest := []) (sn := fun r2 => [.long r2]) F B (fun _ => wX0_bitsOfDouble (zl z) E hE bk u1 I J) mX0_bitsOfDouble q559 rfl rfl rfl (Nat.le_of_ble_eq_true rfl) dX0_bitsOfFloat_10 (fun _ => rfl) h (fun r2 h => ?_)
    refine g_lstore_n (Ln := [(1, .long r2), (0, .float v0)]) F dX0_bitsOfFloat_13 rfl (by decide) rfl ?_
    refine g_lload_n F 0 dX0_bitsOfFloat_14 rfl rfl ?_
    refine g_bipush (v := 52) F dX0_bitsOfFloat_15 (by decide) ?_
    refine g_lushr (v := lU r2 52) F dX0_bitsOfFloat_17 rfl ?_
    refine g_l2i (v := (lU r2 52).toInt32) F dX0_bitsOfFloat_18 rfl ?_
    refine g_sipush (v := 1023) F dX0_bitsOfFloat_19 (by decide) ?_
    refine g_isub (v := ((lU r2 52).toInt32) - 1023) F dX0_bitsOfFloat_22 rfl ?_
    refine g_bipush (v := 127) F dX0_bitsOfFloat_23 (by decide) ?_
    refine g_iadd (v := (((lU r2 52).toInt32) - 1023) + 127) F dX0_bitsOfFloat_25 rfl ?_
    refine g_istore_n (Ln := [(3, .int ((((lU r2 52).toInt32) - 1023) + 127)), (1, .long r2), (0, .float v0)]) F dX0_bitsOfFloat_26 rfl (by decide) rfl ?_
    refine g_iload_n F 0 dX0_bitsOfFloat_27 rfl rfl ?_
    refine g_bipush (v := 23) F dX0_bitsOfFloat_28 (by decide) ?_
    refine g_ishl (v := ((((lU r2 52).toInt32) - 1023) + 127) <<< 23) F dX0_bitsOfFloat_30 (shl_c (by decide)) ?_
    refine g_lload_n F 1 dX0_bitsOfFloat_31 rfl rfl ?_
    refine g_bipush (v := 29) F dX0_bitsOfFloat_32 (by decide) ?_
    refine g_lushr (v := lU r2 29) F dX0_bitsOfFloat_34 rfl ?_
    refine g_ldc2_w F dX0_bitsOfFloat_35 q560 ?_
    refine g_land (v := (lU r2 29) &&& 8388607) F dX0_bitsOfFloat_38 rfl ?_
    refine g_l2i (v := ((lU r2 29) &&& 8388607).toInt32) F dX0_bitsOfFloat_39 rfl ?_
    refine g_ior (v := (((((lU r2 52).toInt32) - 1023) + 127) <<< 23) ||| (((lU r2 29) &&& 8388607).toInt32)) F dX0_bitsOfFloat_40 rfl ?_
    obtain rfl := Option.some.inj h
    exact g_iret F e dX0_bitsOfFloat_41 ⟨rfl, rfl, rfl⟩
  · refine g_iconst (v := 0) F dX0_bitsOfFloat_6 (by decide) ?_
    obtain rfl := Option.some.inj h
    exact g_iret F e dX0_bitsOfFloat_7 ⟨rfl, rfl, rfl⟩
theorem DX8_mean_0 : dAre cX8_mean [(0, .aload_n 0, 1), (1, .iload_n 1, 1), (2, .invokevirtual 187, 3), (5, .ifCond .eq 13, 3), (8, .aload_n 0, 1), (9, .getfield 32, 3), (12, .getfield 186, 3), (15, .ifCond .ne 7, 3), (18, .ldc2_w 250, 3), (21, .lreturn, 1), (22, .aload_n 0, 1), (23, .getfield 42, 3), (26, .aload_n 0, 1), (27, .getfield 32, 3), (30, .iload_n 1, 1), (31, .invokevirtual 252, 3)] := dAre0 (by decide +kernel)
theorem dX8_mean_0 : decode cX8_mean 0 = .ok (.aload_n 0, 1) := DX8_mean_0.1
theorem dX8_mean_1 : decode cX8_mean 1 = .ok (.iload_n 1, 1) := DX8_mean_0.2.1
theorem dX8_mean_2 : decode cX8_mean 2 = .ok (.invokevirtual 187, 3) := DX8_mean_0.2.2.1
theorem dX8_mean_5 : decode cX8_mean 5 = .ok (.ifCond .eq 13, 3) := DX8_mean_0.2.2.2.1
theorem dX8_mean_8 : decode cX8_mean 8 = .ok (.aload_n 0, 1) := DX8_mean_0.2.2.2.2.1
theorem dX8_mean_9 : decode cX8_mean 9 = .ok (.getfield 32, 3) := DX8_mean_0.2.2.2.2.2.1
theorem dX8_mean_12 : decode cX8_mean 12 = .ok (.getfield 186, 3) := DX8_mean_0.2.2.2.2.2.2.1
theorem dX8_mean_15 : decode cX8_mean 15 = .ok (.ifCond .ne 7, 3) := DX8_mean_0.2.2.2.2.2.2.2.1
theorem dX8_mean_18 : decode cX8_mean 18 = .ok (.ldc2_w 250, 3) := DX8_mean_0.2.2.2.2.2.2.2.2.1
theorem dX8_mean_21 : decode cX8_mean 21 = .ok (.lreturn, 1) := DX8_mean_0.2.2.2.2.2.2.2.2.2.1
theorem dX8_mean_22 : decode cX8_mean 22 = .ok (.aload_n 0, 1) := DX8_mean_0.2.2.2.2.2.2.2.2.2.2.1
theorem dX8_mean_23 : decode cX8_mean 23 = .ok (.getfield 42, 3) := DX8_mean_0.2.2.2.2.2.2.2.2.2.2.2.1
theorem dX8_mean_26 : decode cX8_mean 26 = .ok (.aload_n 0, 1) := DX8_mean_0.2.2.2.2.2.2.2.2.2.2.2.2.1
theorem dX8_mean_27 : decode cX8_mean 27 = .ok (.getfield 32, 3) := DX8_mean_0.2.2.2.2.2.2.2.2.2.2.2.2.2.1
theorem dX8_mean_30 : decode cX8_mean 30 = .ok (.iload_n 1, 1) := DX8_mean_0.2.2.2.2.2.2.2.2.2.2.2.2.2.2.1
theorem dX8_mean_31 : decode cX8_mean 31 = .ok (.invokevirtual 252, 3) := DX8_mean_0.2.2.2.2.2.2.2.2.2.2.2.2.2.2.2.1
theorem dX8_mean_34 : decode cX8_mean 34 = .ok (.invokestatic 256, 3) := by decide +kernel
theorem dX8_mean_37 : decode cX8_mean 37 = .ok (.lreturn, 1) := by decide +kernel
theorem mX8_mean : gMv yX8_mean cX8_mean 2 (some .long) RX8 1 := ⟨q538, q539, q1, q540, rfl, by decide, by decide, by decide +kernel⟩
noncomputable def fX8_mean (v1 : Int32) (I : gM) : Option (Int64) :=
  (fX8_isAsked v1 I).bind fun r1 =>
  if r1 = 0 then
    some ((-1000000) : Int64)
  else
    if (I 18 0) = 0 then
      some ((-1000000) : Int64)
    else
      (fX0_meanOf 18 v1 I).bind fun r2 =>
      (fX0_bitsOfDouble r2).bind fun r3 =>
      some r3
set_option maxRecDepth 100000 in
set_option maxHeartbeats 4000000 in
theorem wX8_mean (l : Launch) (E : gE) (hE : gDist sh E) (bk : Nat) (v1 : Int32) (I : gM) (J : gN) {r : Int64} (h : fX8_mean v1 I = some r) : Cu l sh E bk yX8_mean cX8_mean 2 (some .long) (gR 4) [.ref (E.2.1 0), .int v1] I J (fun r1 I1 J1 => r1 = some (.long r) ∧ I1 = I ∧ J1 = J) := by
  refine Cu.of "LeapJoin" rfl hE (by decide) (Nat.le_of_ble_eq_true rfl) (fun z F B e hl => ?_)
  subst hl
  unfold fX8_mean at h
  refine g_aload_n F 0 dX8_mean_0 rfl rfl ?_
  refine g_iload_n F 1 dX8_mean_1 rfl rfl ?_
  refine u_callV (k := 0) (As := [.int v1]) (rest := []) (sn := fun r1 => [.int r1]) F B (fun _ => wX8_isAsked (zl z) E hE bk v1 I J) mX8_isAsked q422 rfl s0 rfl rfl rfl (Nat.le_of_ble_eq_true rfl) dX8_mean_2 (fun _ => rfl) h (fun r1 h => ?_)
  refine u_if_eq (tgt := 18) F dX8_mean_5 (by decide) h (fun h => ?_) (fun h => ?_)
  · refine g_ldc2_w F dX8_mean_18 q541 ?_
    obtain rfl := Option.some.inj h
    exact g_lret F e dX8_mean_21 ⟨rfl, rfl, rfl⟩
  · refine g_aload_n F 0 dX8_mean_8 rfl rfl ?_
    refine g_getr (j := 4) (nn := 18) F s0 rfl rfl uX8 (by decide) q173 dX8_mean_9 ?_
    refine g_geti (j := 0) (v := I 18 0) F shX1_18.1 rfl rfl uX1 (by decide) q79 rfl dX8_mean_12 ?_
    refine u_if_ne (tgt := 22) F dX8_mean_15 (by decide) h (fun h => ?_) (fun h => ?_)
    · refine g_ldc2_w F dX8_mean_18 q541 ?_
      obtain rfl := Option.some.inj h
      exact g_lret F e dX8_mean_21 ⟨rfl, rfl, rfl⟩
    · refine g_aload_n F 0 dX8_mean_22 rfl rfl ?_
      refine g_getr (j := 6) (nn := 40) F s0 rfl rfl uX8 (by decide) q175 dX8_mean_23 ?_
      refine g_aload_n F 0 dX8_mean_26 rfl rfl ?_
      refine g_getr (j := 4) (nn := 18) F s0 rfl rfl uX8 (by decide) q173 dX8_mean_27 ?_
      refine g_iload_n F 1 dX8_mean_30 rfl rfl ?_
      refine u_callV (k := 40) (As := [.ref (E.2.1 18), .int v1]) (rest := []) (sn := fun r2 => [.double r2]) F B (fun _ => wX0_meanOf (zl z) E hE bk 18 v1 shX1_18 I J) mX0_meanOf q542 rfl s40 rfl rfl rfl (Nat.le_of_ble_eq_true rfl) dX8_mean_31 (fun _ => rfl) h (fun r2 h => ?_)
      refine u_callS (As := [.double r2]) (rest := []) (sn := fun r3 => [.long r3]) F B (fun _ => wX0_bitsOfDouble (zl z) E hE bk r2 I J) mX0_bitsOfDouble q546 rfl rfl rfl (Nat.le_of_ble_eq_true rfl) dX8_mean_34 (fun _ => rfl) h (fun r3 h => ?_)
      obtain rfl := Option.some.inj h
      exact g_lret F e dX8_mean_37 ⟨rfl, rfl, rfl⟩
theorem DX8_meanAs_0 : dAre cX8_meanAs [(0, .aload_n 0, 1), (1, .iload_n 1, 1), (2, .invokevirtual 187, 3), (5, .ifCond .eq 22, 3), (8, .aload_n 0, 1), (9, .getfield 32, 3), (12, .getfield 186, 3), (15, .ifCond .eq 12, 3), (18, .iload_n 2, 1), (19, .ifCond .lt 8, 3), (22, .iload_n 2, 1), (23, .iconst 1, 1), (24, .if_icmp .le 7, 3), (27, .ldc_w 260, 3), (30, .ireturn, 1), (31, .aload_n 0, 1)] := dAre0 (by decide +kernel)
theorem dX8_meanAs_0 : decode cX8_meanAs 0 = .ok (.aload_n 0, 1) := DX8_meanAs_0.1
theorem dX8_meanAs_1 : decode cX8_meanAs 1 = .ok (.iload_n 1, 1) := DX8_meanAs_0.2.1
theorem dX8_meanAs_2 : decode cX8_meanAs 2 = .ok (.invokevirtual 187, 3) := DX8_meanAs_0.2.2.1
theorem dX8_meanAs_5 : decode cX8_meanAs 5 = .ok (.ifCond .eq 22, 3) := DX8_meanAs_0.2.2.2.1
theorem dX8_meanAs_8 : decode cX8_meanAs 8 = .ok (.aload_n 0, 1) := DX8_meanAs_0.2.2.2.2.1
theorem dX8_meanAs_9 : decode cX8_meanAs 9 = .ok (.getfield 32, 3) := DX8_meanAs_0.2.2.2.2.2.1
theorem dX8_meanAs_12 : decode cX8_meanAs 12 = .ok (.getfield 186, 3) := DX8_meanAs_0.2.2.2.2.2.2.1
theorem dX8_meanAs_15 : decode cX8_meanAs 15 = .ok (.ifCond .eq 12, 3) := DX8_meanAs_0.2.2.2.2.2.2.2.1
theorem dX8_meanAs_18 : decode cX8_meanAs 18 = .ok (.iload_n 2, 1) := DX8_meanAs_0.2.2.2.2.2.2.2.2.1
theorem dX8_meanAs_19 : decode cX8_meanAs 19 = .ok (.ifCond .lt 8, 3) := DX8_meanAs_0.2.2.2.2.2.2.2.2.2.1
theorem dX8_meanAs_22 : decode cX8_meanAs 22 = .ok (.iload_n 2, 1) := DX8_meanAs_0.2.2.2.2.2.2.2.2.2.2.1
theorem dX8_meanAs_23 : decode cX8_meanAs 23 = .ok (.iconst 1, 1) := DX8_meanAs_0.2.2.2.2.2.2.2.2.2.2.2.1
theorem dX8_meanAs_24 : decode cX8_meanAs 24 = .ok (.if_icmp .le 7, 3) := DX8_meanAs_0.2.2.2.2.2.2.2.2.2.2.2.2.1
theorem dX8_meanAs_27 : decode cX8_meanAs 27 = .ok (.ldc_w 260, 3) := DX8_meanAs_0.2.2.2.2.2.2.2.2.2.2.2.2.2.1
theorem dX8_meanAs_30 : decode cX8_meanAs 30 = .ok (.ireturn, 1) := DX8_meanAs_0.2.2.2.2.2.2.2.2.2.2.2.2.2.2.1
theorem dX8_meanAs_31 : decode cX8_meanAs 31 = .ok (.aload_n 0, 1) := DX8_meanAs_0.2.2.2.2.2.2.2.2.2.2.2.2.2.2.2.1
theorem DX8_meanAs_32 : dAre cX8_meanAs [(32, .getfield 42, 3), (35, .aload_n 0, 1), (36, .getfield 32, 3), (39, .iload_n 1, 1), (40, .invokevirtual 252, 3), (43, .dstore_n 3, 1), (44, .iload_n 2, 1), (45, .ifCond .ne 11, 3), (48, .dload_n 3, 1), (49, .d2f, 1), (50, .invokestatic 261, 3), (53, .goto 5, 3), (56, .dload_n 3, 1), (57, .d2i, 1), (58, .ireturn, 1)] := dAre0 (by decide +kernel)
theorem dX8_meanAs_32 : decode cX8_meanAs 32 = .ok (.getfield 42, 3) := DX8_meanAs_32.1
theorem dX8_meanAs_35 : decode cX8_meanAs 35 = .ok (.aload_n 0, 1) := DX8_meanAs_32.2.1
theorem dX8_meanAs_36 : decode cX8_meanAs 36 = .ok (.getfield 32, 3) := DX8_meanAs_32.2.2.1
theorem dX8_meanAs_39 : decode cX8_meanAs 39 = .ok (.iload_n 1, 1) := DX8_meanAs_32.2.2.2.1
theorem dX8_meanAs_40 : decode cX8_meanAs 40 = .ok (.invokevirtual 252, 3) := DX8_meanAs_32.2.2.2.2.1
theorem dX8_meanAs_43 : decode cX8_meanAs 43 = .ok (.dstore_n 3, 1) := DX8_meanAs_32.2.2.2.2.2.1
theorem dX8_meanAs_44 : decode cX8_meanAs 44 = .ok (.iload_n 2, 1) := DX8_meanAs_32.2.2.2.2.2.2.1
theorem dX8_meanAs_45 : decode cX8_meanAs 45 = .ok (.ifCond .ne 11, 3) := DX8_meanAs_32.2.2.2.2.2.2.2.1
theorem dX8_meanAs_48 : decode cX8_meanAs 48 = .ok (.dload_n 3, 1) := DX8_meanAs_32.2.2.2.2.2.2.2.2.1
theorem dX8_meanAs_49 : decode cX8_meanAs 49 = .ok (.d2f, 1) := DX8_meanAs_32.2.2.2.2.2.2.2.2.2.1
theorem dX8_meanAs_50 : decode cX8_meanAs 50 = .ok (.invokestatic 261, 3) := DX8_meanAs_32.2.2.2.2.2.2.2.2.2.2.1
theorem dX8_meanAs_53 : decode cX8_meanAs 53 = .ok (.goto 5, 3) := DX8_meanAs_32.2.2.2.2.2.2.2.2.2.2.2.1
theorem dX8_meanAs_56 : decode cX8_meanAs 56 = .ok (.dload_n 3, 1) := DX8_meanAs_32.2.2.2.2.2.2.2.2.2.2.2.2.1
theorem dX8_meanAs_57 : decode cX8_meanAs 57 = .ok (.d2i, 1) := DX8_meanAs_32.2.2.2.2.2.2.2.2.2.2.2.2.2.1
theorem dX8_meanAs_58 : decode cX8_meanAs 58 = .ok (.ireturn, 1) := DX8_meanAs_32.2.2.2.2.2.2.2.2.2.2.2.2.2.2.1
theorem mX8_meanAs : gMv yX8_meanAs cX8_meanAs 5 (some .int) RX8 2 := ⟨q552, q553, q1, q554, rfl, by decide, by decide, by decide +kernel⟩
noncomputable def fX8_meanAs (v1 : Int32) (v2 : Int32) (I : gM) : Option (Int32) :=
  (fX8_isAsked v1 I).bind fun r1 =>
  if r1 = 0 then
    some ((-1000000) : Int32)
  else
    if (I 18 0) = 0 then
      some ((-1000000) : Int32)
    else
      if v2 < 0 then
        some ((-1000000) : Int32)
      else
        if v2 ≤ 1 then
          (fX0_meanOf 18 v1 I).bind fun r2 =>
          if v2 = 0 then
            (gF (FP.d2f r2)).bind fun u3 =>
            (fX0_bitsOfFloat u3).bind fun r4 =>
            some r4
          else
            some (FP.d2i r2)
        else
          some ((-1000000) : Int32)
set_option maxRecDepth 100000 in
set_option maxHeartbeats 4000000 in
theorem wX8_meanAs (l : Launch) (E : gE) (hE : gDist sh E) (bk : Nat) (v1 : Int32) (v2 : Int32) (I : gM) (J : gN) {r : Int32} (h : fX8_meanAs v1 v2 I = some r) : Cu l sh E bk yX8_meanAs cX8_meanAs 5 (some .int) (gR 4) [.ref (E.2.1 0), .int v1, .int v2] I J (fun r1 I1 J1 => r1 = some (.int r) ∧ I1 = I ∧ J1 = J) := by
  refine Cu.of "LeapJoin" rfl hE (by decide) (Nat.le_of_ble_eq_true rfl) (fun z F B e hl => ?_)
  subst hl
  unfold fX8_meanAs at h
  refine g_aload_n F 0 dX8_meanAs_0 rfl rfl ?_
  refine g_iload_n F 1 dX8_meanAs_1 rfl rfl ?_
  refine u_callV (k := 0) (As := [.int v1]) (rest := []) (sn := fun r1 => [.int r1]) F B (fun _ => wX8_isAsked (zl z) E hE bk v1 I J) mX8_isAsked q422 rfl s0 rfl rfl rfl (Nat.le_of_ble_eq_true rfl) dX8_meanAs_2 (fun _ => rfl) h (fun r1 h => ?_)
  refine u_if_eq (tgt := 27) F dX8_meanAs_5 (by decide) h (fun h => ?_) (fun h => ?_)
  · refine g_ldc_w F dX8_meanAs_27 q555 ?_
    obtain rfl := Option.some.inj h
    exact g_iret F e dX8_meanAs_30 ⟨rfl, rfl, rfl⟩
  · refine g_aload_n F 0 dX8_meanAs_8 rfl rfl ?_
    refine g_getr (j := 4) (nn := 18) F s0 rfl rfl uX8 (by decide) q173 dX8_meanAs_9 ?_
    refine g_geti (j := 0) (v := I 18 0) F shX1_18.1 rfl rfl uX1 (by decide) q79 rfl dX8_meanAs_12 ?_
    refine u_if_eq (tgt := 27) F dX8_meanAs_15 (by decide) h (fun h => ?_) (fun h => ?_)
    · refine g_ldc_w F dX8_meanAs_27 q555 ?_
      obtain rfl := Option.some.inj h
      exact g_iret F e dX8_meanAs_30 ⟨rfl, rfl, rfl⟩
    · refine g_iload_n F 2 dX8_meanAs_18 rfl rfl ?_
      refine u_if_lt (tgt := 27) F dX8_meanAs_19 (by decide) h (fun h => ?_) (fun h => ?_)
      · refine g_ldc_w F dX8_meanAs_27 q555 ?_
        obtain rfl := Option.some.inj h
        exact g_iret F e dX8_meanAs_30 ⟨rfl, rfl, rfl⟩
      · refine g_iload_n F 2 dX8_meanAs_22 rfl rfl ?_
        refine g_iconst (v := 1) F dX8_meanAs_23 (by decide) ?_
        refine u_icmp_le (tgt := 31) F dX8_meanAs_24 (by decide) h (fun h => ?_) (fun h => ?_)
        · refine g_aload_n F 0 dX8_meanAs_31 rfl rfl ?_
          refine g_getr (j := 6) (nn := 40) F s0 rfl rfl uX8 (by decide) q175 dX8_meanAs_32 ?_
          refine g_aload_n F 0 dX8_meanAs_35 rfl rfl ?_
          refine g_getr (j := 4) (nn := 18) F s0 rfl rfl uX8 (by decide) q173 dX8_meanAs_36 ?_
          refine g_iload_n F 1 dX8_meanAs_39 rfl rfl ?_
          refine u_callV (k := 40) (As := [.ref (E.2.1 18), .int v1]) (rest := []) (sn := fun r2 => [.double r2]) F B (fun _ => wX0_meanOf (zl z) E hE bk 18 v1 shX1_18 I J) mX0_meanOf q542 rfl s40 rfl rfl rfl (Nat.le_of_ble_eq_true rfl) dX8_meanAs_40 (fun _ => rfl) h (fun r2 h => ?_)
          refine g_dstore_n (Ln := [(3, .double r2), (0, .ref (E.2.1 0)), (1, .int v1), (2, .int v2)]) F dX8_meanAs_43 rfl (by decide) rfl ?_
          refine g_iload_n F 3 dX8_meanAs_44 rfl rfl ?_
          refine u_if_ne (tgt := 56) F dX8_meanAs_45 (by decide) h (fun h => ?_) (fun h => ?_)
          · refine g_dload_n F 0 dX8_meanAs_48 rfl rfl ?_
            refine u_d2f F dX8_meanAs_49 h (fun u3 h => ?_)
            refine u_callS (As := [.float u3]) (rest := []) (sn := fun r4 => [.int r4]) F B (fun _ => wX0_bitsOfFloat (zl z) E hE bk u3 I J) mX0_bitsOfFloat q556 rfl rfl rfl (Nat.le_of_ble_eq_true rfl) dX8_meanAs_50 (fun _ => rfl) h (fun r4 h => ?_)
            refine g_goto (tgt := 58) F dX8_meanAs_53 (by decide) ?_
            obtain rfl := Option.some.inj h
            exact g_iret F e dX8_meanAs_58 ⟨rfl, rfl, rfl⟩
          · refine g_dload_n F 0 dX8_meanAs_56 rfl rfl ?_
            refine g_d2i F dX8_meanAs_57 ?_
            obtain rfl := Option.some.inj h
            exact g_iret F e dX8_meanAs_58 ⟨rfl, rfl, rfl⟩
        · refine g_ldc_w F dX8_meanAs_27 q555 ?_
          obtain rfl := Option.some.inj h
          exact g_iret F e dX8_meanAs_30 ⟨rfl, rfl, rfl⟩
theorem DX8_spread_0 : dAre cX8_spread [(0, .aload_n 0, 1), (1, .iload_n 1, 1), (2, .invokevirtual 187, 3), (5, .ifCond .eq 13, 3), (8, .aload_n 0, 1), (9, .getfield 32, 3), (12, .getfield 186, 3), (15, .ifCond .ne 7, 3), (18, .ldc2_w 250, 3), (21, .lreturn, 1), (22, .aload_n 0, 1), (23, .getfield 42, 3), (26, .aload_n 0, 1), (27, .getfield 32, 3), (30, .iload_n 1, 1), (31, .invokevirtual 265, 3)] := dAre0 (by decide +kernel)
theorem dX8_spread_0 : decode cX8_spread 0 = .ok (.aload_n 0, 1) := DX8_spread_0.1
theorem dX8_spread_1 : decode cX8_spread 1 = .ok (.iload_n 1, 1) := DX8_spread_0.2.1
theorem dX8_spread_2 : decode cX8_spread 2 = .ok (.invokevirtual 187, 3) := DX8_spread_0.2.2.1
theorem dX8_spread_5 : decode cX8_spread 5 = .ok (.ifCond .eq 13, 3) := DX8_spread_0.2.2.2.1
theorem dX8_spread_8 : decode cX8_spread 8 = .ok (.aload_n 0, 1) := DX8_spread_0.2.2.2.2.1
theorem dX8_spread_9 : decode cX8_spread 9 = .ok (.getfield 32, 3) := DX8_spread_0.2.2.2.2.2.1
theorem dX8_spread_12 : decode cX8_spread 12 = .ok (.getfield 186, 3) := DX8_spread_0.2.2.2.2.2.2.1
theorem dX8_spread_15 : decode cX8_spread 15 = .ok (.ifCond .ne 7, 3) := DX8_spread_0.2.2.2.2.2.2.2.1
theorem dX8_spread_18 : decode cX8_spread 18 = .ok (.ldc2_w 250, 3) := DX8_spread_0.2.2.2.2.2.2.2.2.1
theorem dX8_spread_21 : decode cX8_spread 21 = .ok (.lreturn, 1) := DX8_spread_0.2.2.2.2.2.2.2.2.2.1
theorem dX8_spread_22 : decode cX8_spread 22 = .ok (.aload_n 0, 1) := DX8_spread_0.2.2.2.2.2.2.2.2.2.2.1
theorem dX8_spread_23 : decode cX8_spread 23 = .ok (.getfield 42, 3) := DX8_spread_0.2.2.2.2.2.2.2.2.2.2.2.1
theorem dX8_spread_26 : decode cX8_spread 26 = .ok (.aload_n 0, 1) := DX8_spread_0.2.2.2.2.2.2.2.2.2.2.2.2.1
theorem dX8_spread_27 : decode cX8_spread 27 = .ok (.getfield 32, 3) := DX8_spread_0.2.2.2.2.2.2.2.2.2.2.2.2.2.1
theorem dX8_spread_30 : decode cX8_spread 30 = .ok (.iload_n 1, 1) := DX8_spread_0.2.2.2.2.2.2.2.2.2.2.2.2.2.2.1
theorem dX8_spread_31 : decode cX8_spread 31 = .ok (.invokevirtual 265, 3) := DX8_spread_0.2.2.2.2.2.2.2.2.2.2.2.2.2.2.2.1
theorem dX8_spread_34 : decode cX8_spread 34 = .ok (.invokestatic 256, 3) := by decide +kernel
theorem dX8_spread_37 : decode cX8_spread 37 = .ok (.lreturn, 1) := by decide +kernel
theorem mX8_spread : gMv yX8_spread cX8_spread 2 (some .long) RX8 1 := ⟨q562, q563, q1, q564, rfl, by decide, by decide, by decide +kernel⟩
noncomputable def fX8_spread (v1 : Int32) (I : gM) : Option (Int64) :=
  (fX8_isAsked v1 I).bind fun r1 =>
  if r1 = 0 then
    some ((-1000000) : Int64)
  else
    if (I 18 0) = 0 then
      some ((-1000000) : Int64)
    else
      (fX0_spreadOf 18 v1 I).bind fun r2 =>
      (fX0_bitsOfDouble r2).bind fun r3 =>
      some r3
set_option maxRecDepth 100000 in
set_option maxHeartbeats 4000000 in
theorem wX8_spread (l : Launch) (E : gE) (hE : gDist sh E) (bk : Nat) (v1 : Int32) (I : gM) (J : gN) {r : Int64} (h : fX8_spread v1 I = some r) : Cu l sh E bk yX8_spread cX8_spread 2 (some .long) (gR 4) [.ref (E.2.1 0), .int v1] I J (fun r1 I1 J1 => r1 = some (.long r) ∧ I1 = I ∧ J1 = J) := by
  refine Cu.of "LeapJoin" rfl hE (by decide) (Nat.le_of_ble_eq_true rfl) (fun z F B e hl => ?_)
  subst hl
  unfold fX8_spread at h
  refine g_aload_n F 0 dX8_spread_0 rfl rfl ?_
  refine g_iload_n F 1 dX8_spread_1 rfl rfl ?_
  refine u_callV (k := 0) (As := [.int v1]) (rest := []) (sn := fun r1 => [.int r1]) F B (fun _ => wX8_isAsked (zl z) E hE bk v1 I J) mX8_isAsked q422 rfl s0 rfl rfl rfl (Nat.le_of_ble_eq_true rfl) dX8_spread_2 (fun _ => rfl) h (fun r1 h => ?_)
  refine u_if_eq (tgt := 18) F dX8_spread_5 (by decide) h (fun h => ?_) (fun h => ?_)
  · refine g_ldc2_w F dX8_spread_18 q541 ?_
    obtain rfl := Option.some.inj h
    exact g_lret F e dX8_spread_21 ⟨rfl, rfl, rfl⟩
  · refine g_aload_n F 0 dX8_spread_8 rfl rfl ?_
    refine g_getr (j := 4) (nn := 18) F s0 rfl rfl uX8 (by decide) q173 dX8_spread_9 ?_
    refine g_geti (j := 0) (v := I 18 0) F shX1_18.1 rfl rfl uX1 (by decide) q79 rfl dX8_spread_12 ?_
    refine u_if_ne (tgt := 22) F dX8_spread_15 (by decide) h (fun h => ?_) (fun h => ?_)
    · refine g_ldc2_w F dX8_spread_18 q541 ?_
      obtain rfl := Option.some.inj h
      exact g_lret F e dX8_spread_21 ⟨rfl, rfl, rfl⟩
    · refine g_aload_n F 0 dX8_spread_22 rfl rfl ?_
      refine g_getr (j := 6) (nn := 40) F s0 rfl rfl uX8 (by decide) q175 dX8_spread_23 ?_
      refine g_aload_n F 0 dX8_spread_26 rfl rfl ?_
      refine g_getr (j := 4) (nn := 18) F s0 rfl rfl uX8 (by decide) q173 dX8_spread_27 ?_
      refine g_iload_n F 1 dX8_spread_30 rfl rfl ?_
      refine u_callV (k := 40) (As := [.ref (E.2.1 18), .int v1]) (rest := []) (sn := fun r2 => [.double r2]) F B (fun _ => wX0_spreadOf (zl z) E hE bk 18 v1 shX1_18 I J) mX0_spreadOf q565 rfl s40 rfl rfl rfl (Nat.le_of_ble_eq_true rfl) dX8_spread_31 (fun _ => rfl) h (fun r2 h => ?_)
      refine u_callS (As := [.double r2]) (rest := []) (sn := fun r3 => [.long r3]) F B (fun _ => wX0_bitsOfDouble (zl z) E hE bk r2 I J) mX0_bitsOfDouble q546 rfl rfl rfl (Nat.le_of_ble_eq_true rfl) dX8_spread_34 (fun _ => rfl) h (fun r3 h => ?_)
      obtain rfl := Option.some.inj h
      exact g_lret F e dX8_spread_37 ⟨rfl, rfl, rfl⟩
theorem DX8_skew_0 : dAre cX8_skew [(0, .aload_n 0, 1), (1, .iload_n 1, 1), (2, .invokevirtual 187, 3), (5, .ifCond .eq 13, 3), (8, .aload_n 0, 1), (9, .getfield 32, 3), (12, .getfield 186, 3), (15, .ifCond .ne 7, 3), (18, .ldc_w 260, 3), (21, .ireturn, 1), (22, .aload_n 0, 1), (23, .getfield 42, 3), (26, .aload_n 0, 1), (27, .getfield 32, 3), (30, .iload_n 1, 1), (31, .invokevirtual 223, 3)] := dAre0 (by decide +kernel)
theorem dX8_skew_0 : decode cX8_skew 0 = .ok (.aload_n 0, 1) := DX8_skew_0.1
theorem dX8_skew_1 : decode cX8_skew 1 = .ok (.iload_n 1, 1) := DX8_skew_0.2.1
theorem dX8_skew_2 : decode cX8_skew 2 = .ok (.invokevirtual 187, 3) := DX8_skew_0.2.2.1
theorem dX8_skew_5 : decode cX8_skew 5 = .ok (.ifCond .eq 13, 3) := DX8_skew_0.2.2.2.1
theorem dX8_skew_8 : decode cX8_skew 8 = .ok (.aload_n 0, 1) := DX8_skew_0.2.2.2.2.1
theorem dX8_skew_9 : decode cX8_skew 9 = .ok (.getfield 32, 3) := DX8_skew_0.2.2.2.2.2.1
theorem dX8_skew_12 : decode cX8_skew 12 = .ok (.getfield 186, 3) := DX8_skew_0.2.2.2.2.2.2.1
theorem dX8_skew_15 : decode cX8_skew 15 = .ok (.ifCond .ne 7, 3) := DX8_skew_0.2.2.2.2.2.2.2.1
theorem dX8_skew_18 : decode cX8_skew 18 = .ok (.ldc_w 260, 3) := DX8_skew_0.2.2.2.2.2.2.2.2.1
theorem dX8_skew_21 : decode cX8_skew 21 = .ok (.ireturn, 1) := DX8_skew_0.2.2.2.2.2.2.2.2.2.1
theorem dX8_skew_22 : decode cX8_skew 22 = .ok (.aload_n 0, 1) := DX8_skew_0.2.2.2.2.2.2.2.2.2.2.1
theorem dX8_skew_23 : decode cX8_skew 23 = .ok (.getfield 42, 3) := DX8_skew_0.2.2.2.2.2.2.2.2.2.2.2.1
theorem dX8_skew_26 : decode cX8_skew 26 = .ok (.aload_n 0, 1) := DX8_skew_0.2.2.2.2.2.2.2.2.2.2.2.2.1
theorem dX8_skew_27 : decode cX8_skew 27 = .ok (.getfield 32, 3) := DX8_skew_0.2.2.2.2.2.2.2.2.2.2.2.2.2.1
theorem dX8_skew_30 : decode cX8_skew 30 = .ok (.iload_n 1, 1) := DX8_skew_0.2.2.2.2.2.2.2.2.2.2.2.2.2.2.1
theorem dX8_skew_31 : decode cX8_skew 31 = .ok (.invokevirtual 223, 3) := DX8_skew_0.2.2.2.2.2.2.2.2.2.2.2.2.2.2.2.1
theorem DX8_skew_34 : dAre cX8_skew [(34, .aload_n 0, 1), (35, .getfield 42, 3), (38, .invokevirtual 239, 3), (41, .istore_n 2, 1), (42, .iload_n 2, 1), (43, .ifCond .lt 9, 3), (46, .iload_n 2, 1), (47, .bipush 100, 2), (49, .if_icmp .lt 7, 3), (52, .ldc_w 260, 3), (55, .ireturn, 1), (56, .aload_n 0, 1), (57, .getfield 42, 3), (60, .getfield 227, 3), (63, .iload_n 2, 1), (64, .iaload, 1)] := dAre0 (by decide +kernel)
theorem dX8_skew_34 : decode cX8_skew 34 = .ok (.aload_n 0, 1) := DX8_skew_34.1
theorem dX8_skew_35 : decode cX8_skew 35 = .ok (.getfield 42, 3) := DX8_skew_34.2.1
theorem dX8_skew_38 : decode cX8_skew 38 = .ok (.invokevirtual 239, 3) := DX8_skew_34.2.2.1
theorem dX8_skew_41 : decode cX8_skew 41 = .ok (.istore_n 2, 1) := DX8_skew_34.2.2.2.1
theorem dX8_skew_42 : decode cX8_skew 42 = .ok (.iload_n 2, 1) := DX8_skew_34.2.2.2.2.1
theorem dX8_skew_43 : decode cX8_skew 43 = .ok (.ifCond .lt 9, 3) := DX8_skew_34.2.2.2.2.2.1
theorem dX8_skew_46 : decode cX8_skew 46 = .ok (.iload_n 2, 1) := DX8_skew_34.2.2.2.2.2.2.1
theorem dX8_skew_47 : decode cX8_skew 47 = .ok (.bipush 100, 2) := DX8_skew_34.2.2.2.2.2.2.2.1
theorem dX8_skew_49 : decode cX8_skew 49 = .ok (.if_icmp .lt 7, 3) := DX8_skew_34.2.2.2.2.2.2.2.2.1
theorem dX8_skew_52 : decode cX8_skew 52 = .ok (.ldc_w 260, 3) := DX8_skew_34.2.2.2.2.2.2.2.2.2.1
theorem dX8_skew_55 : decode cX8_skew 55 = .ok (.ireturn, 1) := DX8_skew_34.2.2.2.2.2.2.2.2.2.2.1
theorem dX8_skew_56 : decode cX8_skew 56 = .ok (.aload_n 0, 1) := DX8_skew_34.2.2.2.2.2.2.2.2.2.2.2.1
theorem dX8_skew_57 : decode cX8_skew 57 = .ok (.getfield 42, 3) := DX8_skew_34.2.2.2.2.2.2.2.2.2.2.2.2.1
theorem dX8_skew_60 : decode cX8_skew 60 = .ok (.getfield 227, 3) := DX8_skew_34.2.2.2.2.2.2.2.2.2.2.2.2.2.1
theorem dX8_skew_63 : decode cX8_skew 63 = .ok (.iload_n 2, 1) := DX8_skew_34.2.2.2.2.2.2.2.2.2.2.2.2.2.2.1
theorem dX8_skew_64 : decode cX8_skew 64 = .ok (.iaload, 1) := DX8_skew_34.2.2.2.2.2.2.2.2.2.2.2.2.2.2.2.1
theorem DX8_skew_65 : dAre cX8_skew [(65, .i2f, 1), (66, .aload_n 0, 1), (67, .getfield 32, 3), (70, .getfield 186, 3), (73, .i2f, 1), (74, .fdiv, 1), (75, .invokestatic 261, 3), (78, .ireturn, 1)] := dAre0 (by decide +kernel)
theorem dX8_skew_65 : decode cX8_skew 65 = .ok (.i2f, 1) := DX8_skew_65.1
theorem dX8_skew_66 : decode cX8_skew 66 = .ok (.aload_n 0, 1) := DX8_skew_65.2.1
theorem dX8_skew_67 : decode cX8_skew 67 = .ok (.getfield 32, 3) := DX8_skew_65.2.2.1
theorem dX8_skew_70 : decode cX8_skew 70 = .ok (.getfield 186, 3) := DX8_skew_65.2.2.2.1
theorem dX8_skew_73 : decode cX8_skew 73 = .ok (.i2f, 1) := DX8_skew_65.2.2.2.2.1
theorem dX8_skew_74 : decode cX8_skew 74 = .ok (.fdiv, 1) := DX8_skew_65.2.2.2.2.2.1
theorem dX8_skew_75 : decode cX8_skew 75 = .ok (.invokestatic 261, 3) := DX8_skew_65.2.2.2.2.2.2.1
theorem dX8_skew_78 : decode cX8_skew 78 = .ok (.ireturn, 1) := DX8_skew_65.2.2.2.2.2.2.2.1
theorem mX8_skew : gMv yX8_skew cX8_skew 3 (some .int) RX8 1 := ⟨q571, q572, q1, q573, rfl, by decide, by decide, by decide +kernel⟩
noncomputable def fX8_skew (v1 : Int32) (I : gM) : Option (Int32 × gM) :=
  (fX8_isAsked v1 I).bind fun r1 =>
  if r1 = 0 then
    some (((-1000000) : Int32), I)
  else
    if (I 18 0) = 0 then
      some (((-1000000) : Int32), I)
    else
      (fX0_tallyUp 18 v1 I).bind fun r2 =>
      (fX0_oftenest r2).bind fun r3 =>
      if r3 < 0 then
        some (((-1000000) : Int32), r2)
      else
        if r3 < 100 then
          (rI 100 (r2 41) r3).bind fun u4 =>
          (gF (FP.fdiv (FP.i2f u4) (FP.i2f (r2 18 0)))).bind fun u5 =>
          (fX0_bitsOfFloat u5).bind fun r6 =>
          some (r6, r2)
        else
          some (((-1000000) : Int32), r2)
set_option maxRecDepth 100000 in
set_option maxHeartbeats 4000000 in
theorem wX8_skew (l : Launch) (E : gE) (hE : gDist sh E) (bk : Nat) (v1 : Int32) (I : gM) (J : gN) {r : Int32 × gM} (h : fX8_skew v1 I = some r) : Cu l sh E bk yX8_skew cX8_skew 3 (some .int) (gR 4) [.ref (E.2.1 0), .int v1] I J (fun r1 I1 J1 => r1 = some (.int r.1) ∧ I1 = r.2 ∧ J1 = J) := by
  refine Cu.of "LeapJoin" rfl hE (by decide) (Nat.le_of_ble_eq_true rfl) (fun z F B e hl => ?_)
  subst hl
  unfold fX8_skew at h
  refine g_aload_n F 0 dX8_skew_0 rfl rfl ?_
  refine g_iload_n F 1 dX8_skew_1 rfl rfl ?_
  refine u_callV (k := 0) (As := [.int v1]) (rest := []) (sn := fun r1 => [.int r1]) F B (fun _ => wX8_isAsked (zl z) E hE bk v1 I J) mX8_isAsked q422 rfl s0 rfl rfl rfl (Nat.le_of_ble_eq_true rfl) dX8_skew_2 (fun _ => rfl) h (fun r1 h => ?_)
  refine u_if_eq (tgt := 18) F dX8_skew_5 (by decide) h (fun h => ?_) (fun h => ?_)
  · refine g_ldc_w F dX8_skew_18 q555 ?_
    obtain rfl := Option.some.inj h
    exact g_iret F e dX8_skew_21 ⟨rfl, rfl, rfl⟩
  · refine g_aload_n F 0 dX8_skew_8 rfl rfl ?_
    refine g_getr (j := 4) (nn := 18) F s0 rfl rfl uX8 (by decide) q173 dX8_skew_9 ?_
    refine g_geti (j := 0) (v := I 18 0) F shX1_18.1 rfl rfl uX1 (by decide) q79 rfl dX8_skew_12 ?_
    refine u_if_ne (tgt := 22) F dX8_skew_15 (by decide) h (fun h => ?_) (fun h => ?_)
    · refine g_ldc_w F dX8_skew_18 q555 ?_
      obtain rfl := Option.some.inj h
      exact g_iret F e dX8_skew_21 ⟨rfl, rfl, rfl⟩
    · refine g_aload_n F 0 dX8_skew_22 rfl rfl ?_
      refine g_getr (j := 6) (nn := 40) F s0 rfl rfl uX8 (by decide) q175 dX8_skew_23 ?_
      refine g_aload_n F 0 dX8_skew_26 rfl rfl ?_
      refine g_getr (j := 4) (nn := 18) F s0 rfl rfl uX8 (by decide) q173 dX8_skew_27 ?_
      refine g_iload_n F 1 dX8_skew_30 rfl rfl ?_
      refine u_callV (k := 40) (As := [.ref (E.2.1 18), .int v1]) (rest := []) (sn := fun _ => []) F B (fun _ => wX0_tallyUp (zl z) E hE bk 18 v1 shX1_18 I J) mX0_tallyUp q490 rfl s40 rfl rfl rfl (Nat.le_of_ble_eq_true rfl) dX8_skew_31 (fun _ => rfl) h (fun r2 h => ?_)
      refine g_aload_n F 0 dX8_skew_34 rfl rfl ?_
      refine g_getr (j := 6) (nn := 40) F s0 rfl rfl uX8 (by decide) q175 dX8_skew_35 ?_
      refine u_callV (k := 40) (As := []) (rest := []) (sn := fun r3 => [.int r3]) F B (fun _ => wX0_oftenest (zl z) E hE bk  r2 J) mX0_oftenest q512 rfl s40 rfl rfl rfl (Nat.le_of_ble_eq_true rfl) dX8_skew_38 (fun _ => rfl) h (fun r3 h => ?_)
      refine g_istore_n (Ln := [(2, .int r3), (0, .ref (E.2.1 0)), (1, .int v1)]) F dX8_skew_41 rfl (by decide) rfl ?_
      refine g_iload_n F 0 dX8_skew_42 rfl rfl ?_
      refine u_if_lt (tgt := 52) F dX8_skew_43 (by decide) h (fun h => ?_) (fun h => ?_)
      · refine g_ldc_w F dX8_skew_52 q555 ?_
        obtain rfl := Option.some.inj h
        exact g_iret F e dX8_skew_55 ⟨rfl, rfl, rfl⟩
      · refine g_iload_n F 0 dX8_skew_46 rfl rfl ?_
        refine g_bipush (v := 100) F dX8_skew_47 (by decide) ?_
        refine u_icmp_lt (tgt := 56) F dX8_skew_49 (by decide) h (fun h => ?_) (fun h => ?_)
        · refine g_aload_n F 1 dX8_skew_56 rfl rfl ?_
          refine g_getr (j := 6) (nn := 40) F s0 rfl rfl uX8 (by decide) q175 dX8_skew_57 ?_
          refine g_getr (j := 0) (nn := 41) F s40 rfl rfl uX0 (by decide) q115 dX8_skew_60 ?_
          refine g_iload_n F 0 dX8_skew_63 rfl rfl ?_
          refine u_rI F s41 (by decide) dX8_skew_64 h (fun u4 h => ?_)
          refine g_i2f F dX8_skew_65 ?_
          refine g_aload_n F 1 dX8_skew_66 rfl rfl ?_
          refine g_getr (j := 4) (nn := 18) F s0 rfl rfl uX8 (by decide) q173 dX8_skew_67 ?_
          refine g_geti (j := 0) (v := r2 18 0) F shX1_18.1 rfl rfl uX1 (by decide) q79 rfl dX8_skew_70 ?_
          refine g_i2f F dX8_skew_73 ?_
          refine u_fdiv F dX8_skew_74 h (fun u5 h => ?_)
          refine u_callS (As := [.float u5]) (rest := []) (sn := fun r6 => [.int r6]) F B (fun _ => wX0_bitsOfFloat (zl z) E hE bk u5 r2 J) mX0_bitsOfFloat q556 rfl rfl rfl (Nat.le_of_ble_eq_true rfl) dX8_skew_75 (fun _ => rfl) h (fun r6 h => ?_)
          obtain rfl := Option.some.inj h
          exact g_iret F e dX8_skew_78 ⟨rfl, rfl, rfl⟩
        · refine g_ldc_w F dX8_skew_52 q555 ?_
          obtain rfl := Option.some.inj h
          exact g_iret F e dX8_skew_55 ⟨rfl, rfl, rfl⟩
theorem DX9_meanOf_0 : dAre cX9_meanOf [(0, .lconst 0, 1), (1, .lstore_n 2, 1), (2, .iconst 0, 1), (3, .istore 4, 2), (5, .iload 4, 2), (7, .aload_n 0, 1), (8, .getfield 247, 3), (11, .if_icmp .ge 20, 3), (14, .lload_n 2, 1), (15, .aload_n 0, 1), (16, .iload 4, 2), (18, .iload_n 1, 1), (19, .invokevirtual 345, 3), (22, .i2l, 1), (23, .ladd, 1), (24, .lstore_n 2, 1)] := dAre0 (by decide +kernel)
theorem dX9_meanOf_0 : decode cX9_meanOf 0 = .ok (.lconst 0, 1) := DX9_meanOf_0.1
theorem dX9_meanOf_1 : decode cX9_meanOf 1 = .ok (.lstore_n 2, 1) := DX9_meanOf_0.2.1
theorem dX9_meanOf_2 : decode cX9_meanOf 2 = .ok (.iconst 0, 1) := DX9_meanOf_0.2.2.1
theorem dX9_meanOf_3 : decode cX9_meanOf 3 = .ok (.istore 4, 2) := DX9_meanOf_0.2.2.2.1
theorem dX9_meanOf_5 : decode cX9_meanOf 5 = .ok (.iload 4, 2) := DX9_meanOf_0.2.2.2.2.1
theorem dX9_meanOf_7 : decode cX9_meanOf 7 = .ok (.aload_n 0, 1) := DX9_meanOf_0.2.2.2.2.2.1
theorem dX9_meanOf_8 : decode cX9_meanOf 8 = .ok (.getfield 247, 3) := DX9_meanOf_0.2.2.2.2.2.2.1
theorem dX9_meanOf_11 : decode cX9_meanOf 11 = .ok (.if_icmp .ge 20, 3) := DX9_meanOf_0.2.2.2.2.2.2.2.1
theorem dX9_meanOf_14 : decode cX9_meanOf 14 = .ok (.lload_n 2, 1) := DX9_meanOf_0.2.2.2.2.2.2.2.2.1
theorem dX9_meanOf_15 : decode cX9_meanOf 15 = .ok (.aload_n 0, 1) := DX9_meanOf_0.2.2.2.2.2.2.2.2.2.1
theorem dX9_meanOf_16 : decode cX9_meanOf 16 = .ok (.iload 4, 2) := DX9_meanOf_0.2.2.2.2.2.2.2.2.2.2.1
theorem dX9_meanOf_18 : decode cX9_meanOf 18 = .ok (.iload_n 1, 1) := DX9_meanOf_0.2.2.2.2.2.2.2.2.2.2.2.1
theorem dX9_meanOf_19 : decode cX9_meanOf 19 = .ok (.invokevirtual 345, 3) := DX9_meanOf_0.2.2.2.2.2.2.2.2.2.2.2.2.1
theorem dX9_meanOf_22 : decode cX9_meanOf 22 = .ok (.i2l, 1) := DX9_meanOf_0.2.2.2.2.2.2.2.2.2.2.2.2.2.1
theorem dX9_meanOf_23 : decode cX9_meanOf 23 = .ok (.ladd, 1) := DX9_meanOf_0.2.2.2.2.2.2.2.2.2.2.2.2.2.2.1
theorem dX9_meanOf_24 : decode cX9_meanOf 24 = .ok (.lstore_n 2, 1) := DX9_meanOf_0.2.2.2.2.2.2.2.2.2.2.2.2.2.2.2.1
theorem DX9_meanOf_25 : dAre cX9_meanOf [(25, .iinc 4 1, 3), (28, .goto (-23), 3), (31, .lload_n 2, 1), (32, .l2d, 1), (33, .aload_n 0, 1), (34, .getfield 247, 3), (37, .i2d, 1), (38, .ddiv, 1), (39, .dreturn, 1)] := dAre0 (by decide +kernel)
theorem dX9_meanOf_25 : decode cX9_meanOf 25 = .ok (.iinc 4 1, 3) := DX9_meanOf_25.1
theorem dX9_meanOf_28 : decode cX9_meanOf 28 = .ok (.goto (-23), 3) := DX9_meanOf_25.2.1
theorem dX9_meanOf_31 : decode cX9_meanOf 31 = .ok (.lload_n 2, 1) := DX9_meanOf_25.2.2.1
theorem dX9_meanOf_32 : decode cX9_meanOf 32 = .ok (.l2d, 1) := DX9_meanOf_25.2.2.2.1
theorem dX9_meanOf_33 : decode cX9_meanOf 33 = .ok (.aload_n 0, 1) := DX9_meanOf_25.2.2.2.2.1
theorem dX9_meanOf_34 : decode cX9_meanOf 34 = .ok (.getfield 247, 3) := DX9_meanOf_25.2.2.2.2.2.1
theorem dX9_meanOf_37 : decode cX9_meanOf 37 = .ok (.i2d, 1) := DX9_meanOf_25.2.2.2.2.2.2.1
theorem dX9_meanOf_38 : decode cX9_meanOf 38 = .ok (.ddiv, 1) := DX9_meanOf_25.2.2.2.2.2.2.2.1
theorem dX9_meanOf_39 : decode cX9_meanOf 39 = .ok (.dreturn, 1) := DX9_meanOf_25.2.2.2.2.2.2.2.2.1
theorem mX9_meanOf : gMv yX9_meanOf cX9_meanOf 5 (some .double) RX9 1 := ⟨q1253, q1448, q10, q1254, rfl, by decide, by decide, by decide +kernel⟩
noncomputable def lX9_meanOf_5 (v1 : Int32) (I : gM) : (Int64 × Int32) → Option (Int64) :=
  itO fun s =>
    if (I 62 26) ≤ s.2 then
      some (.inr s.1)
    else
      (fX9_numberOf s.2 v1 I).bind fun r1 =>
      some (.inl (s.1 + r1.toInt64, s.2 + 1))
set_option maxRecDepth 100000 in
set_option maxHeartbeats 4000000 in
theorem wlX9_meanOf_5 {z : gZ} {E : gE} {bk : Nat} (F : Fx z sh E "LeapJoinModel" cX9_meanOf (gR 1) 5) (B : bZ z bk) (hE : gDist sh E) (v1 : Int32) (I : gM) (J : gN) {r : Int64} : ∀ s : Int64 × Int32, lX9_meanOf_5 v1 I s = some r → (G z 31 [(0, .ref (E.2.1 62)), (2, .long r)] [] I J) → G z 5 [(0, .ref (E.2.1 62)), (1, .int v1), (2, .long s.1), (4, .int s.2)] [] I J := by
  intro s h X0
  unfold lX9_meanOf_5 at h
  revert s
  refine itO_ind (P := fun s : Int64 × Int32 => G z 5 [(0, .ref (E.2.1 62)), (1, .int v1), (2, .long s.1), (4, .int s.2)] [] I J) (fun s y h hl hr => ?_)
  have K5_0 : ∀ x : Int64, y = .inr x → (G z 31 [(0, .ref (E.2.1 62)), (2, .long x)] [] I J) := fun x q => by have q2 := hr _ q; subst q2; exact X0
  refine g_iload F 3 dX9_meanOf_5 rfl ?_
  refine g_aload_n F 0 dX9_meanOf_7 rfl rfl ?_
  refine g_geti (j := 26) (v := I 62 26) F s62 rfl rfl uX9 (by decide) q847 rfl dX9_meanOf_8 ?_
  refine u_icmp_ge (tgt := 31) F dX9_meanOf_11 (by decide) h (fun h => ?_) (fun h => ?_)
  · obtain rfl := Option.some.inj h
    refine g_sub (Ln := [(0, .ref (E.2.1 62)), (2, .long s.1)]) [0, 2] rfl ?_
    exact K5_0 s.1 rfl
  · refine g_lload_n F 2 dX9_meanOf_14 rfl rfl ?_
    refine g_aload_n F 0 dX9_meanOf_15 rfl rfl ?_
    refine g_iload F 3 dX9_meanOf_16 rfl ?_
    refine g_iload_n F 1 dX9_meanOf_18 rfl rfl ?_
    refine u_callV (k := 62) (As := [.int s.2, .int v1]) (rest := [.long s.1]) (sn := fun r1 => [.int r1, .long s.1]) F B (fun _ => wX9_numberOf (zl z) E hE bk s.2 v1 I J) mX9_numberOf q1170 rfl s62 rfl rfl rfl (Nat.le_of_ble_eq_true rfl) dX9_meanOf_19 (fun _ => rfl) h (fun r1 h => ?_)
    refine g_i2l (v := r1.toInt64) F dX9_meanOf_22 rfl ?_
    refine g_ladd (v := s.1 + r1.toInt64) F dX9_meanOf_23 rfl ?_
    refine g_lstore_n (Ln := [(2, .long (s.1 + r1.toInt64)), (0, .ref (E.2.1 62)), (1, .int v1), (4, .int s.2)]) F dX9_meanOf_24 rfl (by decide) rfl ?_
    refine g_iinc (v := s.2 + 1) (Ln := [(4, .int (s.2 + 1)), (2, .long (s.1 + r1.toInt64)), (0, .ref (E.2.1 62)), (1, .int v1)]) F 3 dX9_meanOf_25 rfl (add_c (by decide)) (by decide) rfl ?_
    refine g_goto (tgt := 5) F dX9_meanOf_28 (by decide) ?_
    obtain rfl := Option.some.inj h
    refine g_sub (Ln := [(0, .ref (E.2.1 62)), (1, .int v1), (2, .long (s.1 + r1.toInt64)), (4, .int (s.2 + 1))]) [2, 3, 1, 0] rfl ?_
    exact hl (s.1 + r1.toInt64, s.2 + 1) rfl
noncomputable def fX9_meanOf (v1 : Int32) (I : gM) : Option (UInt64) :=
  (lX9_meanOf_5 v1 I ((0 : Int64), (0 : Int32))).bind fun w2 =>
  (gD (FP.ddiv (FP.l2d w2) (FP.i2d (I 62 26)))).bind fun u3 =>
  some u3
set_option maxRecDepth 100000 in
set_option maxHeartbeats 4000000 in
theorem wX9_meanOf (l : Launch) (E : gE) (hE : gDist sh E) (bk : Nat) (v1 : Int32) (I : gM) (J : gN) {r : UInt64} (h : fX9_meanOf v1 I = some r) : Cu l sh E bk yX9_meanOf cX9_meanOf 5 (some .double) (gR 1) [.ref (E.2.1 62), .int v1] I J (fun r1 I1 J1 => r1 = some (.double r) ∧ I1 = I ∧ J1 = J) := by
  refine Cu.of "LeapJoinModel" rfl hE (by decide) (Nat.le_of_ble_eq_true rfl) (fun z F B e hl => ?_)
  subst hl
  unfold fX9_meanOf at h
  refine g_lconst (v := 0) F dX9_meanOf_0 (by decide) ?_
  refine g_lstore_n (Ln := [(2, .long 0), (0, .ref (E.2.1 62)), (1, .int v1)]) F dX9_meanOf_1 rfl (by decide) rfl ?_
  refine g_iconst (v := 0) F dX9_meanOf_2 (by decide) ?_
  refine g_istore (Ln := [(4, .int 0), (2, .long 0), (0, .ref (E.2.1 62)), (1, .int v1)]) F dX9_meanOf_3 (by decide) rfl ?_
  obtain ⟨w2, ew2, h⟩ := ob h
  refine g_sub (Ln := [(0, .ref (E.2.1 62)), (1, .int v1), (2, .long 0), (4, .int 0)]) [2, 3, 1, 0] rfl ?_
  refine wlX9_meanOf_5 F B hE v1 I J _ ew2 ?_
  refine g_lload_n F 1 dX9_meanOf_31 rfl rfl ?_
  refine g_l2d F dX9_meanOf_32 ?_
  refine g_aload_n F 0 dX9_meanOf_33 rfl rfl ?_
  refine g_geti (j := 26) (v := I 62 26) F s62 rfl rfl uX9 (by decide) q847 rfl dX9_meanOf_34 ?_
  refine g_i2d F dX9_meanOf_37 ?_
  refine u_ddiv F dX9_meanOf_38 h (fun u3 h => ?_)
  obtain rfl := Option.some.inj h
  exact g_dret F e dX9_meanOf_39 ⟨rfl, rfl, rfl⟩
theorem DJxe99ae_isNaN_b9ae7_0 : dAre cJxe99ae_isNaN_b9ae7 [(0, .dload_n 0, 1), (1, .dload_n 0, 1), (2, .dcmp .l, 1), (3, .ifCond .eq 7, 3), (6, .iconst 1, 1), (7, .goto 4, 3), (10, .iconst 0, 1), (11, .ireturn, 1)] := dAre0 (by decide +kernel)
theorem dJxe99ae_isNaN_b9ae7_0 : decode cJxe99ae_isNaN_b9ae7 0 = .ok (.dload_n 0, 1) := DJxe99ae_isNaN_b9ae7_0.1
theorem dJxe99ae_isNaN_b9ae7_1 : decode cJxe99ae_isNaN_b9ae7 1 = .ok (.dload_n 0, 1) := DJxe99ae_isNaN_b9ae7_0.2.1
theorem dJxe99ae_isNaN_b9ae7_2 : decode cJxe99ae_isNaN_b9ae7 2 = .ok (.dcmp .l, 1) := DJxe99ae_isNaN_b9ae7_0.2.2.1
theorem dJxe99ae_isNaN_b9ae7_3 : decode cJxe99ae_isNaN_b9ae7 3 = .ok (.ifCond .eq 7, 3) := DJxe99ae_isNaN_b9ae7_0.2.2.2.1
theorem dJxe99ae_isNaN_b9ae7_6 : decode cJxe99ae_isNaN_b9ae7 6 = .ok (.iconst 1, 1) := DJxe99ae_isNaN_b9ae7_0.2.2.2.2.1
theorem dJxe99ae_isNaN_b9ae7_7 : decode cJxe99ae_isNaN_b9ae7 7 = .ok (.goto 4, 3) := DJxe99ae_isNaN_b9ae7_0.2.2.2.2.2.1
theorem dJxe99ae_isNaN_b9ae7_10 : decode cJxe99ae_isNaN_b9ae7 10 = .ok (.iconst 0, 1) := DJxe99ae_isNaN_b9ae7_0.2.2.2.2.2.2.1
theorem dJxe99ae_isNaN_b9ae7_11 : decode cJxe99ae_isNaN_b9ae7 11 = .ok (.ireturn, 1) := DJxe99ae_isNaN_b9ae7_0.2.2.2.2.2.2.2.1
theorem mJxe99ae_isNaN_b9ae7 : gMs yJxe99ae_isNaN_b9ae7 cJxe99ae_isNaN_b9ae7 2 (some .boolean) 1 := ⟨q1259, q19, q1260, by decide, by decide, by decide +kernel⟩
noncomputable def fJxe99ae_isNaN_b9ae7 (v0 : UInt64) : Option (Int32) :=
  if (Op.cmpValue (FP.dcmp v0 v0) .l) = 0 then
    some (0 : Int32)
  else
    some (1 : Int32)
set_option maxRecDepth 100000 in
set_option maxHeartbeats 4000000 in
theorem wJxe99ae_isNaN_b9ae7 (l : Launch) (E : gE) (hE : gDist sh E) (bk : Nat) (v0 : UInt64) (I : gM) (J : gN) {r : Int32} (h : fJxe99ae_isNaN_b9ae7 v0 = some r) : Cu l sh E bk yJxe99ae_isNaN_b9ae7 cJxe99ae_isNaN_b9ae7 2 (some .boolean) (gR 0) [.double v0] I J (fun r1 I1 J1 => r1 = some (.int r) ∧ I1 = I ∧ J1 = J) := by
  refine Cu.of "java/lang/Double" rfl hE (by decide) (Nat.le_of_ble_eq_true rfl) (fun z F B e hl => ?_)
  subst hl
  unfold fJxe99ae_isNaN_b9ae7 at h
  refine g_dload_n F 0 dJxe99ae_isNaN_b9ae7_0 rfl rfl ?_
  refine g_dload_n F 0 dJxe99ae_isNaN_b9ae7_1 rfl rfl ?_
  refine g_dcmp F dJxe99ae_isNaN_b9ae7_2 ?_
  refine u_if_eq (tgt := 10) F dJxe99ae_isNaN_b9ae7_3 (by decide) h (fun h => ?_) (fun h => ?_)
  · refine g_iconst (v := 0) F dJxe99ae_isNaN_b9ae7_10 (by decide) ?_
    obtain rfl := Option.some.inj h
    exact g_zret F rfl e dJxe99ae_isNaN_b9ae7_11 ⟨rfl, rfl, rfl⟩
  · refine g_iconst (v := 1) F dJxe99ae_isNaN_b9ae7_6 (by decide) ?_
    refine g_goto (tgt := 11) F dJxe99ae_isNaN_b9ae7_7 (by decide) ?_
    obtain rfl := Option.some.inj h
    exact g_zret F rfl e dJxe99ae_isNaN_b9ae7_11 ⟨rfl, rfl, rfl⟩
theorem DJxe99ae_doubleToLongBits_ccdee_0 : dAre cJxe99ae_doubleToLongBits_ccdee [(0, .dload_n 0, 1), (1, .invokestatic 122, 3), (4, .ifCond .ne 8, 3), (7, .dload_n 0, 1), (8, .invokestatic 134, 3), (11, .lreturn, 1), (12, .ldc2_w 137, 3), (15, .lreturn, 1)] := dAre0 (by decide +kernel)
theorem dJxe99ae_doubleToLongBits_ccdee_0 : decode cJxe99ae_doubleToLongBits_ccdee 0 = .ok (.dload_n 0, 1) := DJxe99ae_doubleToLongBits_ccdee_0.1
theorem dJxe99ae_doubleToLongBits_ccdee_1 : decode cJxe99ae_doubleToLongBits_ccdee 1 = .ok (.invokestatic 122, 3) := DJxe99ae_doubleToLongBits_ccdee_0.2.1
theorem dJxe99ae_doubleToLongBits_ccdee_4 : decode cJxe99ae_doubleToLongBits_ccdee 4 = .ok (.ifCond .ne 8, 3) := DJxe99ae_doubleToLongBits_ccdee_0.2.2.1
theorem dJxe99ae_doubleToLongBits_ccdee_7 : decode cJxe99ae_doubleToLongBits_ccdee 7 = .ok (.dload_n 0, 1) := DJxe99ae_doubleToLongBits_ccdee_0.2.2.2.1
theorem dJxe99ae_doubleToLongBits_ccdee_8 : decode cJxe99ae_doubleToLongBits_ccdee 8 = .ok (.invokestatic 134, 3) := DJxe99ae_doubleToLongBits_ccdee_0.2.2.2.2.1
theorem dJxe99ae_doubleToLongBits_ccdee_11 : decode cJxe99ae_doubleToLongBits_ccdee 11 = .ok (.lreturn, 1) := DJxe99ae_doubleToLongBits_ccdee_0.2.2.2.2.2.1
theorem dJxe99ae_doubleToLongBits_ccdee_12 : decode cJxe99ae_doubleToLongBits_ccdee 12 = .ok (.ldc2_w 137, 3) := DJxe99ae_doubleToLongBits_ccdee_0.2.2.2.2.2.2.1
theorem dJxe99ae_doubleToLongBits_ccdee_15 : decode cJxe99ae_doubleToLongBits_ccdee 15 = .ok (.lreturn, 1) := DJxe99ae_doubleToLongBits_ccdee_0.2.2.2.2.2.2.2.1
theorem mJxe99ae_doubleToLongBits_ccdee : gMs yJxe99ae_doubleToLongBits_ccdee cJxe99ae_doubleToLongBits_ccdee 2 (some .long) 1 := ⟨q1256, q19, q1257, by decide, by decide, by decide +kernel⟩
noncomputable def fJxe99ae_doubleToLongBits_ccdee (v0 : UInt64) : Option (Int64) :=
  (fJxe99ae_isNaN_b9ae7 v0).bind fun r1 =>
  if r1 = 0 then
    some v0.toInt64
  else
    some (9221120237041090560 : Int64)
set_option maxRecDepth 100000 in
set_option maxHeartbeats 4000000 in
theorem wJxe99ae_doubleToLongBits_ccdee (l : Launch) (E : gE) (hE : gDist sh E) (bk : Nat) (v0 : UInt64) (I : gM) (J : gN) {r : Int64} (h : fJxe99ae_doubleToLongBits_ccdee v0 = some r) : Cu l sh E bk yJxe99ae_doubleToLongBits_ccdee cJxe99ae_doubleToLongBits_ccdee 2 (some .long) (gR 1) [.double v0] I J (fun r1 I1 J1 => r1 = some (.long r) ∧ I1 = I ∧ J1 = J) := by
  refine Cu.of "java/lang/Double" rfl hE (by decide) (Nat.le_of_ble_eq_true rfl) (fun z F B e hl => ?_)
  subst hl
  unfold fJxe99ae_doubleToLongBits_ccdee at h
  refine g_dload_n F 0 dJxe99ae_doubleToLongBits_ccdee_0 rfl rfl ?_
  refine u_callS (As := [.double v0]) (rest := []) (sn := fun r1 => [.int r1]) F B (fun _ => wJxe99ae_isNaN_b9ae7 (zl z) E hE bk v0 I J) mJxe99ae_isNaN_b9ae7 q1258 rfl rfl rfl (Nat.le_of_ble_eq_true rfl) dJxe99ae_doubleToLongBits_ccdee_1 (fun _ => rfl) h (fun r1 h => ?_)
  refine u_if_ne (tgt := 12) F dJxe99ae_doubleToLongBits_ccdee_4 (by decide) h (fun h => ?_) (fun h => ?_)
  · refine g_dload_n F 0 dJxe99ae_doubleToLongBits_ccdee_7 rfl rfl ?_
    refine g_dBits (rm := (gR 1)) F q1261 q1530 q1262 q19 (Nat.le_of_ble_eq_true rfl) (Nat.le_of_ble_eq_true rfl) dJxe99ae_doubleToLongBits_ccdee_8 ?_
    obtain rfl := Option.some.inj h
    exact g_lret F e dJxe99ae_doubleToLongBits_ccdee_11 ⟨rfl, rfl, rfl⟩
  · refine g_ldc2_w F dJxe99ae_doubleToLongBits_ccdee_12 q1263 ?_
    obtain rfl := Option.some.inj h
    exact g_lret F e dJxe99ae_doubleToLongBits_ccdee_15 ⟨rfl, rfl, rfl⟩
theorem DX9_mean_0 : dAre cX9_mean [(0, .aload_n 0, 1), (1, .iload_n 1, 1), (2, .invokevirtual 382, 3), (5, .ifCond .eq 14, 3), (8, .aload_n 0, 1), (9, .iload_n 1, 1), (10, .invokevirtual 385, 3), (13, .invokestatic 389, 3), (16, .goto 6, 3), (19, .ldc2_w 395, 3), (22, .lreturn, 1)] := dAre0 (by decide +kernel)
theorem dX9_mean_0 : decode cX9_mean 0 = .ok (.aload_n 0, 1) := DX9_mean_0.1
theorem dX9_mean_1 : decode cX9_mean 1 = .ok (.iload_n 1, 1) := DX9_mean_0.2.1
theorem dX9_mean_2 : decode cX9_mean 2 = .ok (.invokevirtual 382, 3) := DX9_mean_0.2.2.1
theorem dX9_mean_5 : decode cX9_mean 5 = .ok (.ifCond .eq 14, 3) := DX9_mean_0.2.2.2.1
theorem dX9_mean_8 : decode cX9_mean 8 = .ok (.aload_n 0, 1) := DX9_mean_0.2.2.2.2.1
theorem dX9_mean_9 : decode cX9_mean 9 = .ok (.iload_n 1, 1) := DX9_mean_0.2.2.2.2.2.1
theorem dX9_mean_10 : decode cX9_mean 10 = .ok (.invokevirtual 385, 3) := DX9_mean_0.2.2.2.2.2.2.1
theorem dX9_mean_13 : decode cX9_mean 13 = .ok (.invokestatic 389, 3) := DX9_mean_0.2.2.2.2.2.2.2.1
theorem dX9_mean_16 : decode cX9_mean 16 = .ok (.goto 6, 3) := DX9_mean_0.2.2.2.2.2.2.2.2.1
theorem dX9_mean_19 : decode cX9_mean 19 = .ok (.ldc2_w 395, 3) := DX9_mean_0.2.2.2.2.2.2.2.2.2.1
theorem dX9_mean_22 : decode cX9_mean 22 = .ok (.lreturn, 1) := DX9_mean_0.2.2.2.2.2.2.2.2.2.2.1
theorem mX9_mean : gMv yX9_mean cX9_mean 2 (some .long) RX9 1 := ⟨q1246, q1247, q10, q1248, rfl, by decide, by decide, by decide +kernel⟩
noncomputable def fX9_mean (v1 : Int32) (I : gM) : Option (Int64 × gM) :=
  (fX9_hasMean v1 I).bind fun r1 =>
  if r1.1 = 0 then
    some (((-1000000) : Int64), r1.2)
  else
    (fX9_meanOf v1 r1.2).bind fun r2 =>
    (fJxe99ae_doubleToLongBits_ccdee r2).bind fun r3 =>
    some (r3, r1.2)
set_option maxRecDepth 100000 in
set_option maxHeartbeats 4000000 in
theorem wX9_mean (l : Launch) (E : gE) (hE : gDist sh E) (bk : Nat) (v1 : Int32) (I : gM) (J : gN) {r : Int64 × gM} (h : fX9_mean v1 I = some r) : Cu l sh E bk yX9_mean cX9_mean 2 (some .long) (gR 15) [.ref (E.2.1 62), .int v1] I J (fun r1 I1 J1 => r1 = some (.long r.1) ∧ I1 = r.2 ∧ J1 = J) := by
  refine Cu.of "LeapJoinModel" rfl hE (by decide) (Nat.le_of_ble_eq_true rfl) (fun z F B e hl => ?_)
  subst hl
  unfold fX9_mean at h
  refine g_aload_n F 0 dX9_mean_0 rfl rfl ?_
  refine g_iload_n F 1 dX9_mean_1 rfl rfl ?_
  refine u_callV (k := 62) (As := [.int v1]) (rest := []) (sn := fun r1 => [.int r1.1]) F B (fun _ => wX9_hasMean (zl z) E hE bk v1 I J) mX9_hasMean q1249 rfl s62 rfl rfl rfl (Nat.le_of_ble_eq_true rfl) dX9_mean_2 (fun _ => rfl) h (fun r1 h => ?_)
  refine u_if_eq (tgt := 19) F dX9_mean_5 (by decide) h (fun h => ?_) (fun h => ?_)
  · refine g_ldc2_w F dX9_mean_19 q1264 ?_
    obtain rfl := Option.some.inj h
    exact g_lret F e dX9_mean_22 ⟨rfl, rfl, rfl⟩
  · refine g_aload_n F 0 dX9_mean_8 rfl rfl ?_
    refine g_iload_n F 1 dX9_mean_9 rfl rfl ?_
    refine u_callV (k := 62) (As := [.int v1]) (rest := []) (sn := fun r2 => [.double r2]) F B (fun _ => wX9_meanOf (zl z) E hE bk v1 r1.2 J) mX9_meanOf q1252 rfl s62 rfl rfl rfl (Nat.le_of_ble_eq_true rfl) dX9_mean_10 (fun _ => rfl) h (fun r2 h => ?_)
    refine u_callS (As := [.double r2]) (rest := []) (sn := fun r3 => [.long r3]) F B (fun _ => wJxe99ae_doubleToLongBits_ccdee (zl z) E hE bk r2 r1.2 J) mJxe99ae_doubleToLongBits_ccdee q1255 rfl rfl rfl (Nat.le_of_ble_eq_true rfl) dX9_mean_13 (fun _ => rfl) h (fun r3 h => ?_)
    refine g_goto (tgt := 22) F dX9_mean_16 (by decide) ?_
    obtain rfl := Option.some.inj h
    exact g_lret F e dX9_mean_22 ⟨rfl, rfl, rfl⟩
theorem DJxf58ca_isNaN_12338_0 : dAre cJxf58ca_isNaN_12338 [(0, .fload_n 0, 1), (1, .fload_n 0, 1), (2, .fcmp .l, 1), (3, .ifCond .eq 7, 3), (6, .iconst 1, 1), (7, .goto 4, 3), (10, .iconst 0, 1), (11, .ireturn, 1)] := dAre0 (by decide +kernel)
theorem dJxf58ca_isNaN_12338_0 : decode cJxf58ca_isNaN_12338 0 = .ok (.fload_n 0, 1) := DJxf58ca_isNaN_12338_0.1
theorem dJxf58ca_isNaN_12338_1 : decode cJxf58ca_isNaN_12338 1 = .ok (.fload_n 0, 1) := DJxf58ca_isNaN_12338_0.2.1
theorem dJxf58ca_isNaN_12338_2 : decode cJxf58ca_isNaN_12338 2 = .ok (.fcmp .l, 1) := DJxf58ca_isNaN_12338_0.2.2.1
theorem dJxf58ca_isNaN_12338_3 : decode cJxf58ca_isNaN_12338 3 = .ok (.ifCond .eq 7, 3) := DJxf58ca_isNaN_12338_0.2.2.2.1
theorem dJxf58ca_isNaN_12338_6 : decode cJxf58ca_isNaN_12338 6 = .ok (.iconst 1, 1) := DJxf58ca_isNaN_12338_0.2.2.2.2.1
theorem dJxf58ca_isNaN_12338_7 : decode cJxf58ca_isNaN_12338 7 = .ok (.goto 4, 3) := DJxf58ca_isNaN_12338_0.2.2.2.2.2.1
theorem dJxf58ca_isNaN_12338_10 : decode cJxf58ca_isNaN_12338 10 = .ok (.iconst 0, 1) := DJxf58ca_isNaN_12338_0.2.2.2.2.2.2.1
theorem dJxf58ca_isNaN_12338_11 : decode cJxf58ca_isNaN_12338 11 = .ok (.ireturn, 1) := DJxf58ca_isNaN_12338_0.2.2.2.2.2.2.2.1
theorem mJxf58ca_isNaN_12338 : gMs yJxf58ca_isNaN_12338 cJxf58ca_isNaN_12338 1 (some .boolean) 1 := ⟨q1273, q20, q1274, by decide, by decide, by decide +kernel⟩
noncomputable def fJxf58ca_isNaN_12338 (v0 : UInt32) : Option (Int32) :=
  if (Op.cmpValue (FP.fcmp v0 v0) .l) = 0 then
    some (0 : Int32)
  else
    some (1 : Int32)
set_option maxRecDepth 100000 in
set_option maxHeartbeats 4000000 in
theorem wJxf58ca_isNaN_12338 (l : Launch) (E : gE) (hE : gDist sh E) (bk : Nat) (v0 : UInt32) (I : gM) (J : gN) {r : Int32} (h : fJxf58ca_isNaN_12338 v0 = some r) : Cu l sh E bk yJxf58ca_isNaN_12338 cJxf58ca_isNaN_12338 1 (some .boolean) (gR 0) [.float v0] I J (fun r1 I1 J1 => r1 = some (.int r) ∧ I1 = I ∧ J1 = J) := by
  refine Cu.ofF "java/lang/Float" rfl hE (by decide +kernel) (Nat.le_of_ble_eq_true rfl) (fun z F B e hl => ?_)
  subst hl
  unfold fJxf58ca_isNaN_12338 at h
  refine g_fload_n F 0 dJxf58ca_isNaN_12338_0 rfl rfl ?_
  refine g_fload_n F 0 dJxf58ca_isNaN_12338_1 rfl rfl ?_
  refine g_fcmp F dJxf58ca_isNaN_12338_2 ?_
  refine u_if_eq (tgt := 10) F dJxf58ca_isNaN_12338_3 (by decide) h (fun h => ?_) (fun h => ?_)
  · refine g_iconst (v := 0) F dJxf58ca_isNaN_12338_10 (by decide) ?_
    obtain rfl := Option.some.inj h
    exact g_zret F rfl e dJxf58ca_isNaN_12338_11 ⟨rfl, rfl, rfl⟩
  · refine g_iconst (v := 1) F dJxf58ca_isNaN_12338_6 (by decide) ?_
    refine g_goto (tgt := 11) F dJxf58ca_isNaN_12338_7 (by decide) ?_
    obtain rfl := Option.some.inj h
    exact g_zret F rfl e dJxf58ca_isNaN_12338_11 ⟨rfl, rfl, rfl⟩
theorem DJxf58ca_floatToIntBits_5c35a_0 : dAre cJxf58ca_floatToIntBits_5c35a [(0, .fload_n 0, 1), (1, .invokestatic 59, 3), (4, .ifCond .ne 8, 3), (7, .fload_n 0, 1), (8, .invokestatic 74, 3), (11, .ireturn, 1), (12, .ldc 77, 2), (14, .ireturn, 1)] := dAre0 (by decide +kernel)
theorem dJxf58ca_floatToIntBits_5c35a_0 : decode cJxf58ca_floatToIntBits_5c35a 0 = .ok (.fload_n 0, 1) := DJxf58ca_floatToIntBits_5c35a_0.1
theorem dJxf58ca_floatToIntBits_5c35a_1 : decode cJxf58ca_floatToIntBits_5c35a 1 = .ok (.invokestatic 59, 3) := DJxf58ca_floatToIntBits_5c35a_0.2.1
theorem dJxf58ca_floatToIntBits_5c35a_4 : decode cJxf58ca_floatToIntBits_5c35a 4 = .ok (.ifCond .ne 8, 3) := DJxf58ca_floatToIntBits_5c35a_0.2.2.1
theorem dJxf58ca_floatToIntBits_5c35a_7 : decode cJxf58ca_floatToIntBits_5c35a 7 = .ok (.fload_n 0, 1) := DJxf58ca_floatToIntBits_5c35a_0.2.2.2.1
theorem dJxf58ca_floatToIntBits_5c35a_8 : decode cJxf58ca_floatToIntBits_5c35a 8 = .ok (.invokestatic 74, 3) := DJxf58ca_floatToIntBits_5c35a_0.2.2.2.2.1
theorem dJxf58ca_floatToIntBits_5c35a_11 : decode cJxf58ca_floatToIntBits_5c35a 11 = .ok (.ireturn, 1) := DJxf58ca_floatToIntBits_5c35a_0.2.2.2.2.2.1
theorem dJxf58ca_floatToIntBits_5c35a_12 : decode cJxf58ca_floatToIntBits_5c35a 12 = .ok (.ldc 77, 2) := DJxf58ca_floatToIntBits_5c35a_0.2.2.2.2.2.2.1
theorem dJxf58ca_floatToIntBits_5c35a_14 : decode cJxf58ca_floatToIntBits_5c35a 14 = .ok (.ireturn, 1) := DJxf58ca_floatToIntBits_5c35a_0.2.2.2.2.2.2.2.1
theorem mJxf58ca_floatToIntBits_5c35a : gMs yJxf58ca_floatToIntBits_5c35a cJxf58ca_floatToIntBits_5c35a 1 (some .int) 1 := ⟨q1270, q20, q1271, by decide, by decide, by decide +kernel⟩
noncomputable def fJxf58ca_floatToIntBits_5c35a (v0 : UInt32) : Option (Int32) :=
  (fJxf58ca_isNaN_12338 v0).bind fun r1 =>
  if r1 = 0 then
    some v0.toInt32
  else
    some (2143289344 : Int32)
set_option maxRecDepth 100000 in
set_option maxHeartbeats 4000000 in
theorem wJxf58ca_floatToIntBits_5c35a (l : Launch) (E : gE) (hE : gDist sh E) (bk : Nat) (v0 : UInt32) (I : gM) (J : gN) {r : Int32} (h : fJxf58ca_floatToIntBits_5c35a v0 = some r) : Cu l sh E bk yJxf58ca_floatToIntBits_5c35a cJxf58ca_floatToIntBits_5c35a 1 (some .int) (gR 1) [.float v0] I J (fun r1 I1 J1 => r1 = some (.int r) ∧ I1 = I ∧ J1 = J) := by
  refine Cu.ofF "java/lang/Float" rfl hE (by decide +kernel) (Nat.le_of_ble_eq_true rfl) (fun z F B e hl => ?_)
  subst hl
  unfold fJxf58ca_floatToIntBits_5c35a at h
  refine g_fload_n F 0 dJxf58ca_floatToIntBits_5c35a_0 rfl rfl ?_
  refine u_callS (As := [.float v0]) (rest := []) (sn := fun r1 => [.int r1]) F B (fun _ => wJxf58ca_isNaN_12338 (zl z) E hE bk v0 I J) mJxf58ca_isNaN_12338 q1272 rfl rfl rfl (Nat.le_of_ble_eq_true rfl) dJxf58ca_floatToIntBits_5c35a_1 (fun _ => rfl) h (fun r1 h => ?_)
  refine u_if_ne (tgt := 12) F dJxf58ca_floatToIntBits_5c35a_4 (by decide) h (fun h => ?_) (fun h => ?_)
  · refine g_fload_n F 0 dJxf58ca_floatToIntBits_5c35a_7 rfl rfl ?_
    refine g_fBits (rm := (gR 1)) F q1275 q1531 q1276 q20 (Nat.le_of_ble_eq_true rfl) (Nat.le_of_ble_eq_true rfl) dJxf58ca_floatToIntBits_5c35a_8 ?_
    obtain rfl := Option.some.inj h
    exact g_iret F e dJxf58ca_floatToIntBits_5c35a_11 ⟨rfl, rfl, rfl⟩
  · refine g_ldc F dJxf58ca_floatToIntBits_5c35a_12 q1277 ?_
    obtain rfl := Option.some.inj h
    exact g_iret F e dJxf58ca_floatToIntBits_5c35a_14 ⟨rfl, rfl, rfl⟩
theorem DX9_meanAs_0 : dAre cX9_meanAs [(0, .iload_n 2, 1), (1, .iconst 0, 1), (2, .iconst 1, 1), (3, .invokestatic 104, 3), (6, .ifCond .eq 11, 3), (9, .aload_n 0, 1), (10, .iload_n 1, 1), (11, .invokevirtual 382, 3), (14, .ifCond .ne 7, 3), (17, .ldc_w 338, 3), (20, .ireturn, 1), (21, .iload_n 2, 1), (22, .ifCond .ne 15, 3), (25, .aload_n 0, 1), (26, .iload_n 1, 1), (27, .invokevirtual 385, 3)] := dAre0 (by decide +kernel)
theorem dX9_meanAs_0 : decode cX9_meanAs 0 = .ok (.iload_n 2, 1) := DX9_meanAs_0.1
theorem dX9_meanAs_1 : decode cX9_meanAs 1 = .ok (.iconst 0, 1) := DX9_meanAs_0.2.1
theorem dX9_meanAs_2 : decode cX9_meanAs 2 = .ok (.iconst 1, 1) := DX9_meanAs_0.2.2.1
theorem dX9_meanAs_3 : decode cX9_meanAs 3 = .ok (.invokestatic 104, 3) := DX9_meanAs_0.2.2.2.1
theorem dX9_meanAs_6 : decode cX9_meanAs 6 = .ok (.ifCond .eq 11, 3) := DX9_meanAs_0.2.2.2.2.1
theorem dX9_meanAs_9 : decode cX9_meanAs 9 = .ok (.aload_n 0, 1) := DX9_meanAs_0.2.2.2.2.2.1
theorem dX9_meanAs_10 : decode cX9_meanAs 10 = .ok (.iload_n 1, 1) := DX9_meanAs_0.2.2.2.2.2.2.1
theorem dX9_meanAs_11 : decode cX9_meanAs 11 = .ok (.invokevirtual 382, 3) := DX9_meanAs_0.2.2.2.2.2.2.2.1
theorem dX9_meanAs_14 : decode cX9_meanAs 14 = .ok (.ifCond .ne 7, 3) := DX9_meanAs_0.2.2.2.2.2.2.2.2.1
theorem dX9_meanAs_17 : decode cX9_meanAs 17 = .ok (.ldc_w 338, 3) := DX9_meanAs_0.2.2.2.2.2.2.2.2.2.1
theorem dX9_meanAs_20 : decode cX9_meanAs 20 = .ok (.ireturn, 1) := DX9_meanAs_0.2.2.2.2.2.2.2.2.2.2.1
theorem dX9_meanAs_21 : decode cX9_meanAs 21 = .ok (.iload_n 2, 1) := DX9_meanAs_0.2.2.2.2.2.2.2.2.2.2.2.1
theorem dX9_meanAs_22 : decode cX9_meanAs 22 = .ok (.ifCond .ne 15, 3) := DX9_meanAs_0.2.2.2.2.2.2.2.2.2.2.2.2.1
theorem dX9_meanAs_25 : decode cX9_meanAs 25 = .ok (.aload_n 0, 1) := DX9_meanAs_0.2.2.2.2.2.2.2.2.2.2.2.2.2.1
theorem dX9_meanAs_26 : decode cX9_meanAs 26 = .ok (.iload_n 1, 1) := DX9_meanAs_0.2.2.2.2.2.2.2.2.2.2.2.2.2.2.1
theorem dX9_meanAs_27 : decode cX9_meanAs 27 = .ok (.invokevirtual 385, 3) := DX9_meanAs_0.2.2.2.2.2.2.2.2.2.2.2.2.2.2.2.1
theorem DX9_meanAs_30 : dAre cX9_meanAs [(30, .d2f, 1), (31, .invokestatic 397, 3), (34, .goto 9, 3), (37, .aload_n 0, 1), (38, .iload_n 1, 1), (39, .invokevirtual 385, 3), (42, .d2i, 1), (43, .ireturn, 1)] := dAre0 (by decide +kernel)
theorem dX9_meanAs_30 : decode cX9_meanAs 30 = .ok (.d2f, 1) := DX9_meanAs_30.1
theorem dX9_meanAs_31 : decode cX9_meanAs 31 = .ok (.invokestatic 397, 3) := DX9_meanAs_30.2.1
theorem dX9_meanAs_34 : decode cX9_meanAs 34 = .ok (.goto 9, 3) := DX9_meanAs_30.2.2.1
theorem dX9_meanAs_37 : decode cX9_meanAs 37 = .ok (.aload_n 0, 1) := DX9_meanAs_30.2.2.2.1
theorem dX9_meanAs_38 : decode cX9_meanAs 38 = .ok (.iload_n 1, 1) := DX9_meanAs_30.2.2.2.2.1
theorem dX9_meanAs_39 : decode cX9_meanAs 39 = .ok (.invokevirtual 385, 3) := DX9_meanAs_30.2.2.2.2.2.1
theorem dX9_meanAs_42 : decode cX9_meanAs 42 = .ok (.d2i, 1) := DX9_meanAs_30.2.2.2.2.2.2.1
theorem dX9_meanAs_43 : decode cX9_meanAs 43 = .ok (.ireturn, 1) := DX9_meanAs_30.2.2.2.2.2.2.2.1
theorem mX9_meanAs : gMv yX9_meanAs cX9_meanAs 3 (some .int) RX9 2 := ⟨q1266, q1267, q10, q1268, rfl, by decide, by decide, by decide +kernel⟩
noncomputable def fX9_meanAs (v1 : Int32) (v2 : Int32) (I : gM) : Option (Int32 × gM) :=
  (fX9_in v2 (0 : Int32) (1 : Int32)).bind fun r1 =>
  if r1 = 0 then
    some (((-1000000) : Int32), I)
  else
    (fX9_hasMean v1 I).bind fun r2 =>
    if r2.1 = 0 then
      some (((-1000000) : Int32), r2.2)
    else
      if v2 = 0 then
        (fX9_meanOf v1 r2.2).bind fun r3 =>
        (gF (FP.d2f r3)).bind fun u4 =>
        (fJxf58ca_floatToIntBits_5c35a u4).bind fun r5 =>
        some (r5, r2.2)
      else
        (fX9_meanOf v1 r2.2).bind fun r6 =>
        some (FP.d2i r6, r2.2)
set_option maxRecDepth 100000 in
set_option maxHeartbeats 4000000 in
theorem wX9_meanAs (l : Launch) (E : gE) (hE : gDist sh E) (bk : Nat) (v1 : Int32) (v2 : Int32) (I : gM) (J : gN) {r : Int32 × gM} (h : fX9_meanAs v1 v2 I = some r) : Cu l sh E bk yX9_meanAs cX9_meanAs 3 (some .int) (gR 15) [.ref (E.2.1 62), .int v1, .int v2] I J (fun r1 I1 J1 => r1 = some (.int r.1) ∧ I1 = r.2 ∧ J1 = J) := by
  refine Cu.of "LeapJoinModel" rfl hE (by decide) (Nat.le_of_ble_eq_true rfl) (fun z F B e hl => ?_)
  subst hl
  unfold fX9_meanAs at h
  refine g_iload_n F 2 dX9_meanAs_0 rfl rfl ?_
  refine g_iconst (v := 0) F dX9_meanAs_1 (by decide) ?_
  refine g_iconst (v := 1) F dX9_meanAs_2 (by decide) ?_
  refine u_callS (As := [.int v2, .int 0, .int 1]) (rest := []) (sn := fun r1 => [.int r1]) F B (fun _ => wX9_in (zl z) E hE bk v2 (0 : Int32) (1 : Int32) I J) mX9_in q923 rfl rfl rfl (Nat.le_of_ble_eq_true rfl) dX9_meanAs_3 (fun _ => rfl) h (fun r1 h => ?_)
  refine u_if_eq (tgt := 17) F dX9_meanAs_6 (by decide) h (fun h => ?_) (fun h => ?_)
  · refine g_ldc_w F dX9_meanAs_17 q1143 ?_
    obtain rfl := Option.some.inj h
    exact g_iret F e dX9_meanAs_20 ⟨rfl, rfl, rfl⟩
  · refine g_aload_n F 0 dX9_meanAs_9 rfl rfl ?_
    refine g_iload_n F 1 dX9_meanAs_10 rfl rfl ?_
    refine u_callV (k := 62) (As := [.int v1]) (rest := []) (sn := fun r2 => [.int r2.1]) F B (fun _ => wX9_hasMean (zl z) E hE bk v1 I J) mX9_hasMean q1249 rfl s62 rfl rfl rfl (Nat.le_of_ble_eq_true rfl) dX9_meanAs_11 (fun _ => rfl) h (fun r2 h => ?_)
    refine u_if_ne (tgt := 21) F dX9_meanAs_14 (by decide) h (fun h => ?_) (fun h => ?_)
    · refine g_ldc_w F dX9_meanAs_17 q1143 ?_
      obtain rfl := Option.some.inj h
      exact g_iret F e dX9_meanAs_20 ⟨rfl, rfl, rfl⟩
    · refine g_iload_n F 2 dX9_meanAs_21 rfl rfl ?_
      refine u_if_ne (tgt := 37) F dX9_meanAs_22 (by decide) h (fun h => ?_) (fun h => ?_)
      · refine g_aload_n F 0 dX9_meanAs_25 rfl rfl ?_
        refine g_iload_n F 1 dX9_meanAs_26 rfl rfl ?_
        refine u_callV (k := 62) (As := [.int v1]) (rest := []) (sn := fun r3 => [.double r3]) F B (fun _ => wX9_meanOf (zl z) E hE bk v1 r2.2 J) mX9_meanOf q1252 rfl s62 rfl rfl rfl (Nat.le_of_ble_eq_true rfl) dX9_meanAs_27 (fun _ => rfl) h (fun r3 h => ?_)
        refine u_d2f F dX9_meanAs_30 h (fun u4 h => ?_)
        refine u_callS (As := [.float u4]) (rest := []) (sn := fun r5 => [.int r5]) F B (fun _ => wJxf58ca_floatToIntBits_5c35a (zl z) E hE bk u4 r2.2 J) mJxf58ca_floatToIntBits_5c35a q1269 rfl rfl rfl (Nat.le_of_ble_eq_true rfl) dX9_meanAs_31 (fun _ => rfl) h (fun r5 h => ?_)
        refine g_goto (tgt := 43) F dX9_meanAs_34 (by decide) ?_
        obtain rfl := Option.some.inj h
        exact g_iret F e dX9_meanAs_43 ⟨rfl, rfl, rfl⟩
      · refine g_aload_n F 0 dX9_meanAs_37 rfl rfl ?_
        refine g_iload_n F 1 dX9_meanAs_38 rfl rfl ?_
        refine u_callV (k := 62) (As := [.int v1]) (rest := []) (sn := fun r6 => [.double r6]) F B (fun _ => wX9_meanOf (zl z) E hE bk v1 r2.2 J) mX9_meanOf q1252 rfl s62 rfl rfl rfl (Nat.le_of_ble_eq_true rfl) dX9_meanAs_39 (fun _ => rfl) h (fun r6 h => ?_)
        refine g_d2i F dX9_meanAs_42 ?_
        obtain rfl := Option.some.inj h
        exact g_iret F e dX9_meanAs_43 ⟨rfl, rfl, rfl⟩
theorem DX9_spread_0 : dAre cX9_spread [(0, .aload_n 0, 1), (1, .iload_n 1, 1), (2, .invokevirtual 382, 3), (5, .ifCond .ne 7, 3), (8, .ldc2_w 395, 3), (11, .lreturn, 1), (12, .aload_n 0, 1), (13, .iload_n 1, 1), (14, .invokevirtual 385, 3), (17, .dstore_n 2, 1), (18, .dconst 0, 1), (19, .dstore 4, 2), (21, .iconst 0, 1), (22, .istore 6, 2), (24, .iload 6, 2), (26, .aload_n 0, 1)] := dAre0 (by decide +kernel)
theorem dX9_spread_0 : decode cX9_spread 0 = .ok (.aload_n 0, 1) := DX9_spread_0.1
theorem dX9_spread_1 : decode cX9_spread 1 = .ok (.iload_n 1, 1) := DX9_spread_0.2.1
theorem dX9_spread_2 : decode cX9_spread 2 = .ok (.invokevirtual 382, 3) := DX9_spread_0.2.2.1
theorem dX9_spread_5 : decode cX9_spread 5 = .ok (.ifCond .ne 7, 3) := DX9_spread_0.2.2.2.1
theorem dX9_spread_8 : decode cX9_spread 8 = .ok (.ldc2_w 395, 3) := DX9_spread_0.2.2.2.2.1
theorem dX9_spread_11 : decode cX9_spread 11 = .ok (.lreturn, 1) := DX9_spread_0.2.2.2.2.2.1
theorem dX9_spread_12 : decode cX9_spread 12 = .ok (.aload_n 0, 1) := DX9_spread_0.2.2.2.2.2.2.1
theorem dX9_spread_13 : decode cX9_spread 13 = .ok (.iload_n 1, 1) := DX9_spread_0.2.2.2.2.2.2.2.1
theorem dX9_spread_14 : decode cX9_spread 14 = .ok (.invokevirtual 385, 3) := DX9_spread_0.2.2.2.2.2.2.2.2.1
theorem dX9_spread_17 : decode cX9_spread 17 = .ok (.dstore_n 2, 1) := DX9_spread_0.2.2.2.2.2.2.2.2.2.1
theorem dX9_spread_18 : decode cX9_spread 18 = .ok (.dconst 0, 1) := DX9_spread_0.2.2.2.2.2.2.2.2.2.2.1
theorem dX9_spread_19 : decode cX9_spread 19 = .ok (.dstore 4, 2) := DX9_spread_0.2.2.2.2.2.2.2.2.2.2.2.1
theorem dX9_spread_21 : decode cX9_spread 21 = .ok (.iconst 0, 1) := DX9_spread_0.2.2.2.2.2.2.2.2.2.2.2.2.1
theorem dX9_spread_22 : decode cX9_spread 22 = .ok (.istore 6, 2) := DX9_spread_0.2.2.2.2.2.2.2.2.2.2.2.2.2.1
theorem dX9_spread_24 : decode cX9_spread 24 = .ok (.iload 6, 2) := DX9_spread_0.2.2.2.2.2.2.2.2.2.2.2.2.2.2.1
theorem dX9_spread_26 : decode cX9_spread 26 = .ok (.aload_n 0, 1) := DX9_spread_0.2.2.2.2.2.2.2.2.2.2.2.2.2.2.2.1
theorem DX9_spread_27 : dAre cX9_spread [(27, .getfield 247, 3), (30, .if_icmp .ge 41, 3), (33, .aload_n 0, 1), (34, .iload 6, 2), (36, .iload_n 1, 1), (37, .invokevirtual 345, 3), (40, .i2d, 1), (41, .dload_n 2, 1), (42, .dsub, 1), (43, .dstore 7, 2), (45, .dload 4, 2), (47, .dload 7, 2), (49, .dconst 0, 1), (50, .dcmp .g, 1), (51, .ifCond .ge 9, 3), (54, .dload 7, 2)] := dAre0 (by decide +kernel)
theorem dX9_spread_27 : decode cX9_spread 27 = .ok (.getfield 247, 3) := DX9_spread_27.1
theorem dX9_spread_30 : decode cX9_spread 30 = .ok (.if_icmp .ge 41, 3) := DX9_spread_27.2.1
theorem dX9_spread_33 : decode cX9_spread 33 = .ok (.aload_n 0, 1) := DX9_spread_27.2.2.1
theorem dX9_spread_34 : decode cX9_spread 34 = .ok (.iload 6, 2) := DX9_spread_27.2.2.2.1
theorem dX9_spread_36 : decode cX9_spread 36 = .ok (.iload_n 1, 1) := DX9_spread_27.2.2.2.2.1
theorem dX9_spread_37 : decode cX9_spread 37 = .ok (.invokevirtual 345, 3) := DX9_spread_27.2.2.2.2.2.1
theorem dX9_spread_40 : decode cX9_spread 40 = .ok (.i2d, 1) := DX9_spread_27.2.2.2.2.2.2.1
theorem dX9_spread_41 : decode cX9_spread 41 = .ok (.dload_n 2, 1) := DX9_spread_27.2.2.2.2.2.2.2.1
theorem dX9_spread_42 : decode cX9_spread 42 = .ok (.dsub, 1) := DX9_spread_27.2.2.2.2.2.2.2.2.1
theorem dX9_spread_43 : decode cX9_spread 43 = .ok (.dstore 7, 2) := DX9_spread_27.2.2.2.2.2.2.2.2.2.1
theorem dX9_spread_45 : decode cX9_spread 45 = .ok (.dload 4, 2) := DX9_spread_27.2.2.2.2.2.2.2.2.2.2.1
theorem dX9_spread_47 : decode cX9_spread 47 = .ok (.dload 7, 2) := DX9_spread_27.2.2.2.2.2.2.2.2.2.2.2.1
theorem dX9_spread_49 : decode cX9_spread 49 = .ok (.dconst 0, 1) := DX9_spread_27.2.2.2.2.2.2.2.2.2.2.2.2.1
theorem dX9_spread_50 : decode cX9_spread 50 = .ok (.dcmp .g, 1) := DX9_spread_27.2.2.2.2.2.2.2.2.2.2.2.2.2.1
theorem dX9_spread_51 : decode cX9_spread 51 = .ok (.ifCond .ge 9, 3) := DX9_spread_27.2.2.2.2.2.2.2.2.2.2.2.2.2.2.1
theorem dX9_spread_54 : decode cX9_spread 54 = .ok (.dload 7, 2) := DX9_spread_27.2.2.2.2.2.2.2.2.2.2.2.2.2.2.2.1
theorem DX9_spread_56 : dAre cX9_spread [(56, .dneg, 1), (57, .goto 5, 3), (60, .dload 7, 2), (62, .dadd, 1), (63, .dstore 4, 2), (65, .iinc 6 1, 3), (68, .goto (-44), 3), (71, .dload 4, 2), (73, .aload_n 0, 1), (74, .getfield 247, 3), (77, .i2d, 1), (78, .ddiv, 1), (79, .invokestatic 389, 3), (82, .lreturn, 1)] := dAre0 (by decide +kernel)
theorem dX9_spread_56 : decode cX9_spread 56 = .ok (.dneg, 1) := DX9_spread_56.1
theorem dX9_spread_57 : decode cX9_spread 57 = .ok (.goto 5, 3) := DX9_spread_56.2.1
theorem dX9_spread_60 : decode cX9_spread 60 = .ok (.dload 7, 2) := DX9_spread_56.2.2.1
theorem dX9_spread_62 : decode cX9_spread 62 = .ok (.dadd, 1) := DX9_spread_56.2.2.2.1
theorem dX9_spread_63 : decode cX9_spread 63 = .ok (.dstore 4, 2) := DX9_spread_56.2.2.2.2.1
theorem dX9_spread_65 : decode cX9_spread 65 = .ok (.iinc 6 1, 3) := DX9_spread_56.2.2.2.2.2.1
theorem dX9_spread_68 : decode cX9_spread 68 = .ok (.goto (-44), 3) := DX9_spread_56.2.2.2.2.2.2.1
theorem dX9_spread_71 : decode cX9_spread 71 = .ok (.dload 4, 2) := DX9_spread_56.2.2.2.2.2.2.2.1
theorem dX9_spread_73 : decode cX9_spread 73 = .ok (.aload_n 0, 1) := DX9_spread_56.2.2.2.2.2.2.2.2.1
theorem dX9_spread_74 : decode cX9_spread 74 = .ok (.getfield 247, 3) := DX9_spread_56.2.2.2.2.2.2.2.2.2.1
theorem dX9_spread_77 : decode cX9_spread 77 = .ok (.i2d, 1) := DX9_spread_56.2.2.2.2.2.2.2.2.2.2.1
theorem dX9_spread_78 : decode cX9_spread 78 = .ok (.ddiv, 1) := DX9_spread_56.2.2.2.2.2.2.2.2.2.2.2.1
theorem dX9_spread_79 : decode cX9_spread 79 = .ok (.invokestatic 389, 3) := DX9_spread_56.2.2.2.2.2.2.2.2.2.2.2.2.1
theorem dX9_spread_82 : decode cX9_spread 82 = .ok (.lreturn, 1) := DX9_spread_56.2.2.2.2.2.2.2.2.2.2.2.2.2.1
theorem mX9_spread : gMv yX9_spread cX9_spread 9 (some .long) RX9 1 := ⟨q1279, q1280, q10, q1281, rfl, by decide, by decide, by decide +kernel⟩
noncomputable def bX9_spread_62 (v6 : Int32) (t0 : UInt64) (t1 : UInt64) : Option ((UInt64 × Int32) ⊕ (UInt64)) :=
  (gD (FP.dadd t1 t0)).bind fun u5 =>
  some (.inl (u5, v6 + 1))
set_option maxRecDepth 100000 in
set_option maxHeartbeats 4000000 in
theorem wbX9_spread_62 {z : gZ} {E : gE} {bk : Nat} (F : Fx z sh E "LeapJoinModel" cX9_spread (gR 15) 9) (B : bZ z bk) (hE : gDist sh E) (v1 : Int32) (v2 : UInt64) (v6 : Int32) (t0 : UInt64) (t1 : UInt64) (I : gM) (J : gN) {y : (UInt64 × Int32) ⊕ (UInt64)} (h : bX9_spread_62 v6 t0 t1 = some y) (hl : ∀ s' : UInt64 × Int32, y = .inl s' → G z 24 [(0, .ref (E.2.1 62)), (1, .int v1), (2, .double v2), (4, .double (s'.1)), (6, .int (s'.2))] [] I J) (K24_0 : ∀ x : UInt64, y = .inr x → G z 71 [(0, .ref (E.2.1 62)), (4, .double x)] [] I J) : G z 62 [(0, .ref (E.2.1 62)), (1, .int v1), (2, .double v2), (6, .int v6)] [.double t0, .double t1] I J := by
  unfold bX9_spread_62 at h
  refine u_dadd F dX9_spread_62 h (fun u5 h => ?_)
  refine g_dstore (Ln := [(4, .double u5), (0, .ref (E.2.1 62)), (1, .int v1), (2, .double v2), (6, .int v6)]) F dX9_spread_63 (by decide) rfl ?_
  refine g_iinc (v := v6 + 1) (Ln := [(6, .int (v6 + 1)), (4, .double u5), (0, .ref (E.2.1 62)), (1, .int v1), (2, .double v2)]) F 4 dX9_spread_65 rfl (add_c (by decide)) (by decide) rfl ?_
  refine g_goto (tgt := 24) F dX9_spread_68 (by decide) ?_
  obtain rfl := Option.some.inj h
  refine g_sub (Ln := [(0, .ref (E.2.1 62)), (1, .int v1), (2, .double v2), (4, .double u5), (6, .int (v6 + 1))]) [2, 3, 4, 1, 0] rfl ?_
  exact hl (u5, v6 + 1) rfl
noncomputable def lX9_spread_24 (v1 : Int32) (v2 : UInt64) (I : gM) : (UInt64 × Int32) → Option (UInt64) :=
  itO fun s =>
    if (I 62 26) ≤ s.2 then
      some (.inr s.1)
    else
      (fX9_numberOf s.2 v1 I).bind fun r3 =>
      (gD (FP.dsub (FP.i2d r3) v2)).bind fun u4 =>
      if (0 : Int32) ≤ (Op.cmpValue (FP.dcmp u4 FP.dconst0) .g) then
        bX9_spread_62 s.2 u4 s.1
      else
        bX9_spread_62 s.2 (FP.dneg u4) s.1
set_option maxRecDepth 100000 in
set_option maxHeartbeats 4000000 in
theorem wlX9_spread_24 {z : gZ} {E : gE} {bk : Nat} (F : Fx z sh E "LeapJoinModel" cX9_spread (gR 15) 9) (B : bZ z bk) (hE : gDist sh E) (v1 : Int32) (v2 : UInt64) (I : gM) (J : gN) {r : UInt64} : ∀ s : UInt64 × Int32, lX9_spread_24 v1 v2 I s = some r → (G z 71 [(0, .ref (E.2.1 62)), (4, .double r)] [] I J) → G z 24 [(0, .ref (E.2.1 62)), (1, .int v1), (2, .double v2), (4, .double s.1), (6, .int s.2)] [] I J := by
  intro s h X0
  unfold lX9_spread_24 at h
  revert s
  refine itO_ind (P := fun s : UInt64 × Int32 => G z 24 [(0, .ref (E.2.1 62)), (1, .int v1), (2, .double v2), (4, .double s.1), (6, .int s.2)] [] I J) (fun s y h hl hr => ?_)
  have K24_0 : ∀ x : UInt64, y = .inr x → (G z 71 [(0, .ref (E.2.1 62)), (4, .double x)] [] I J) := fun x q => by have q2 := hr _ q; subst q2; exact X0
  refine g_iload F 4 dX9_spread_24 rfl ?_
  refine g_aload_n F 0 dX9_spread_26 rfl rfl ?_
  refine g_geti (j := 26) (v := I 62 26) F s62 rfl rfl uX9 (by decide) q847 rfl dX9_spread_27 ?_
  refine u_icmp_ge (tgt := 71) F dX9_spread_30 (by decide) h (fun h => ?_) (fun h => ?_)
  · obtain rfl := Option.some.inj h
    refine g_sub (Ln := [(0, .ref (E.2.1 62)), (4, .double s.1)]) [0, 3] rfl ?_
    exact K24_0 s.1 rfl
  · refine g_aload_n F 0 dX9_spread_33 rfl rfl ?_
    refine g_iload F 4 dX9_spread_34 rfl ?_
    refine g_iload_n F 1 dX9_spread_36 rfl rfl ?_
    refine u_callV (k := 62) (As := [.int s.2, .int v1]) (rest := []) (sn := fun r3 => [.int r3]) F B (fun _ => wX9_numberOf (zl z) E hE bk s.2 v1 I J) mX9_numberOf q1170 rfl s62 rfl rfl rfl (Nat.le_of_ble_eq_true rfl) dX9_spread_37 (fun _ => rfl) h (fun r3 h => ?_)
    refine g_i2d F dX9_spread_40 ?_
    refine g_dload_n F 2 dX9_spread_41 rfl rfl ?_
    refine u_dsub F dX9_spread_42 h (fun u4 h => ?_)
    refine g_dstore (Ln := [(7, .double u4), (0, .ref (E.2.1 62)), (1, .int v1), (2, .double v2), (4, .double s.1), (6, .int s.2)]) F dX9_spread_43 (by decide) rfl ?_
    refine g_dload F 4 dX9_spread_45 rfl ?_
    refine g_dload F 0 dX9_spread_47 rfl ?_
    refine g_dconst0 F dX9_spread_49 ?_
    refine g_dcmp F dX9_spread_50 ?_
    refine u_if_ge (tgt := 60) F dX9_spread_51 (by decide) h (fun h => ?_) (fun h => ?_)
    · refine g_dload F 0 dX9_spread_60 rfl ?_
      refine g_sub (Ln := [(0, .ref (E.2.1 62)), (1, .int v1), (2, .double v2), (6, .int s.2)]) [1, 2, 3, 5] rfl ?_
      exact wbX9_spread_62 F B hE v1 v2 s.2 u4 s.1 I J h hl K24_0
    · refine g_dload F 0 dX9_spread_54 rfl ?_
      refine g_dneg F dX9_spread_56 ?_
      refine g_goto (tgt := 62) F dX9_spread_57 (by decide) ?_
      refine g_sub (Ln := [(0, .ref (E.2.1 62)), (1, .int v1), (2, .double v2), (6, .int s.2)]) [1, 2, 3, 5] rfl ?_
      exact wbX9_spread_62 F B hE v1 v2 s.2 (FP.dneg u4) s.1 I J h hl K24_0
noncomputable def fX9_spread (v1 : Int32) (I : gM) : Option (Int64 × gM) :=
  (fX9_hasMean v1 I).bind fun r1 =>
  if r1.1 = 0 then
    some (((-1000000) : Int64), r1.2)
  else
    (fX9_meanOf v1 r1.2).bind fun r2 =>
    (lX9_spread_24 v1 r2 r1.2 (FP.dconst0, (0 : Int32))).bind fun w6 =>
    (gD (FP.ddiv w6 (FP.i2d (r1.2 62 26)))).bind fun u7 =>
    (fJxe99ae_doubleToLongBits_ccdee u7).bind fun r8 =>
    some (r8, r1.2)
set_option maxRecDepth 100000 in
set_option maxHeartbeats 4000000 in
theorem wX9_spread (l : Launch) (E : gE) (hE : gDist sh E) (bk : Nat) (v1 : Int32) (I : gM) (J : gN) {r : Int64 × gM} (h : fX9_spread v1 I = some r) : Cu l sh E bk yX9_spread cX9_spread 9 (some .long) (gR 15) [.ref (E.2.1 62), .int v1] I J (fun r1 I1 J1 => r1 = some (.long r.1) ∧ I1 = r.2 ∧ J1 = J) := by
  refine Cu.of "LeapJoinModel" rfl hE (by decide) (Nat.le_of_ble_eq_true rfl) (fun z F B e hl => ?_)
  subst hl
  unfold fX9_spread at h
  refine g_aload_n F 0 dX9_spread_0 rfl rfl ?_
  refine g_iload_n F 1 dX9_spread_1 rfl rfl ?_
  refine u_callV (k := 62) (As := [.int v1]) (rest := []) (sn := fun r1 => [.int r1.1]) F B (fun _ => wX9_hasMean (zl z) E hE bk v1 I J) mX9_hasMean q1249 rfl s62 rfl rfl rfl (Nat.le_of_ble_eq_true rfl) dX9_spread_2 (fun _ => rfl) h (fun r1 h => ?_)
  refine u_if_ne (tgt := 12) F dX9_spread_5 (by decide) h (fun h => ?_) (fun h => ?_)
  · refine g_ldc2_w F dX9_spread_8 q1264 ?_
    obtain rfl := Option.some.inj h
    exact g_lret F e dX9_spread_11 ⟨rfl, rfl, rfl⟩
  · refine g_aload_n F 0 dX9_spread_12 rfl rfl ?_
    refine g_iload_n F 1 dX9_spread_13 rfl rfl ?_
    refine u_callV (k := 62) (As := [.int v1]) (rest := []) (sn := fun r2 => [.double r2]) F B (fun _ => wX9_meanOf (zl z) E hE bk v1 r1.2 J) mX9_meanOf q1252 rfl s62 rfl rfl rfl (Nat.le_of_ble_eq_true rfl) dX9_spread_14 (fun _ => rfl) h (fun r2 h => ?_)
    refine g_dstore_n (Ln := [(2, .double r2), (0, .ref (E.2.1 62)), (1, .int v1)]) F dX9_spread_17 rfl (by decide) rfl ?_
    refine g_dconst0 F dX9_spread_18 ?_
    refine g_dstore (Ln := [(4, .double FP.dconst0), (2, .double r2), (0, .ref (E.2.1 62)), (1, .int v1)]) F dX9_spread_19 (by decide) rfl ?_
    refine g_iconst (v := 0) F dX9_spread_21 (by decide) ?_
    refine g_istore (Ln := [(6, .int 0), (4, .double FP.dconst0), (2, .double r2), (0, .ref (E.2.1 62)), (1, .int v1)]) F dX9_spread_22 (by decide) rfl ?_
    obtain ⟨w6, ew6, h⟩ := ob h
    refine g_sub (Ln := [(0, .ref (E.2.1 62)), (1, .int v1), (2, .double r2), (4, .double FP.dconst0), (6, .int 0)]) [3, 4, 2, 1, 0] rfl ?_
    refine wlX9_spread_24 F B hE v1 r2 r1.2 J _ ew6 ?_
    refine g_dload F 1 dX9_spread_71 rfl ?_
    refine g_aload_n F 0 dX9_spread_73 rfl rfl ?_
    refine g_geti (j := 26) (v := r1.2 62 26) F s62 rfl rfl uX9 (by decide) q847 rfl dX9_spread_74 ?_
    refine g_i2d F dX9_spread_77 ?_
    refine u_ddiv F dX9_spread_78 h (fun u7 h => ?_)
    refine u_callS (As := [.double u7]) (rest := []) (sn := fun r8 => [.long r8]) F B (fun _ => wJxe99ae_doubleToLongBits_ccdee (zl z) E hE bk u7 r1.2 J) mJxe99ae_doubleToLongBits_ccdee q1255 rfl rfl rfl (Nat.le_of_ble_eq_true rfl) dX9_spread_79 (fun _ => rfl) h (fun r8 h => ?_)
    obtain rfl := Option.some.inj h
    exact g_lret F e dX9_spread_82 ⟨rfl, rfl, rfl⟩
theorem DX9_skew_0 : dAre cX9_skew [(0, .aload_n 0, 1), (1, .iload_n 1, 1), (2, .invokevirtual 382, 3), (5, .ifCond .ne 7, 3), (8, .ldc_w 338, 3), (11, .ireturn, 1), (12, .aload_n 0, 1), (13, .invokevirtual 366, 3), (16, .aload_n 0, 1), (17, .getfield 68, 3), (20, .bipush 100, 2), (22, .iload_n 1, 1), (23, .imul, 1), (24, .aload_n 0, 1), (25, .iload_n 1, 1), (26, .iconst 3, 1)] := dAre0 (by decide +kernel)
theorem dX9_skew_0 : decode cX9_skew 0 = .ok (.aload_n 0, 1) := DX9_skew_0.1
theorem dX9_skew_1 : decode cX9_skew 1 = .ok (.iload_n 1, 1) := DX9_skew_0.2.1
theorem dX9_skew_2 : decode cX9_skew 2 = .ok (.invokevirtual 382, 3) := DX9_skew_0.2.2.1
theorem dX9_skew_5 : decode cX9_skew 5 = .ok (.ifCond .ne 7, 3) := DX9_skew_0.2.2.2.1
theorem dX9_skew_8 : decode cX9_skew 8 = .ok (.ldc_w 338, 3) := DX9_skew_0.2.2.2.2.1
theorem dX9_skew_11 : decode cX9_skew 11 = .ok (.ireturn, 1) := DX9_skew_0.2.2.2.2.2.1
theorem dX9_skew_12 : decode cX9_skew 12 = .ok (.aload_n 0, 1) := DX9_skew_0.2.2.2.2.2.2.1
theorem dX9_skew_13 : decode cX9_skew 13 = .ok (.invokevirtual 366, 3) := DX9_skew_0.2.2.2.2.2.2.2.1
theorem dX9_skew_16 : decode cX9_skew 16 = .ok (.aload_n 0, 1) := DX9_skew_0.2.2.2.2.2.2.2.2.1
theorem dX9_skew_17 : decode cX9_skew 17 = .ok (.getfield 68, 3) := DX9_skew_0.2.2.2.2.2.2.2.2.2.1
theorem dX9_skew_20 : decode cX9_skew 20 = .ok (.bipush 100, 2) := DX9_skew_0.2.2.2.2.2.2.2.2.2.2.1
theorem dX9_skew_22 : decode cX9_skew 22 = .ok (.iload_n 1, 1) := DX9_skew_0.2.2.2.2.2.2.2.2.2.2.2.1
theorem dX9_skew_23 : decode cX9_skew 23 = .ok (.imul, 1) := DX9_skew_0.2.2.2.2.2.2.2.2.2.2.2.2.1
theorem dX9_skew_24 : decode cX9_skew 24 = .ok (.aload_n 0, 1) := DX9_skew_0.2.2.2.2.2.2.2.2.2.2.2.2.2.1
theorem dX9_skew_25 : decode cX9_skew 25 = .ok (.iload_n 1, 1) := DX9_skew_0.2.2.2.2.2.2.2.2.2.2.2.2.2.2.1
theorem dX9_skew_26 : decode cX9_skew 26 = .ok (.iconst 3, 1) := DX9_skew_0.2.2.2.2.2.2.2.2.2.2.2.2.2.2.2.1
theorem DX9_skew_27 : dAre cX9_skew [(27, .invokevirtual 369, 3), (30, .iadd, 1), (31, .iaload, 1), (32, .istore_n 2, 1), (33, .iload_n 2, 1), (34, .i2f, 1), (35, .aload_n 0, 1), (36, .getfield 247, 3), (39, .i2f, 1), (40, .fdiv, 1), (41, .invokestatic 397, 3), (44, .ireturn, 1)] := dAre0 (by decide +kernel)
theorem dX9_skew_27 : decode cX9_skew 27 = .ok (.invokevirtual 369, 3) := DX9_skew_27.1
theorem dX9_skew_30 : decode cX9_skew 30 = .ok (.iadd, 1) := DX9_skew_27.2.1
theorem dX9_skew_31 : decode cX9_skew 31 = .ok (.iaload, 1) := DX9_skew_27.2.2.1
theorem dX9_skew_32 : decode cX9_skew 32 = .ok (.istore_n 2, 1) := DX9_skew_27.2.2.2.1
theorem dX9_skew_33 : decode cX9_skew 33 = .ok (.iload_n 2, 1) := DX9_skew_27.2.2.2.2.1
theorem dX9_skew_34 : decode cX9_skew 34 = .ok (.i2f, 1) := DX9_skew_27.2.2.2.2.2.1
theorem dX9_skew_35 : decode cX9_skew 35 = .ok (.aload_n 0, 1) := DX9_skew_27.2.2.2.2.2.2.1
theorem dX9_skew_36 : decode cX9_skew 36 = .ok (.getfield 247, 3) := DX9_skew_27.2.2.2.2.2.2.2.1
theorem dX9_skew_39 : decode cX9_skew 39 = .ok (.i2f, 1) := DX9_skew_27.2.2.2.2.2.2.2.2.1
theorem dX9_skew_40 : decode cX9_skew 40 = .ok (.fdiv, 1) := DX9_skew_27.2.2.2.2.2.2.2.2.2.1
theorem dX9_skew_41 : decode cX9_skew 41 = .ok (.invokestatic 397, 3) := DX9_skew_27.2.2.2.2.2.2.2.2.2.2.1
theorem dX9_skew_44 : decode cX9_skew 44 = .ok (.ireturn, 1) := DX9_skew_27.2.2.2.2.2.2.2.2.2.2.2.1
theorem mX9_skew : gMv yX9_skew cX9_skew 3 (some .int) RX9 1 := ⟨q1283, q1284, q10, q1285, rfl, by decide, by decide, by decide +kernel⟩
noncomputable def fX9_skew (v1 : Int32) (I : gM) : Option (Int32 × gM) :=
  (fX9_hasMean v1 I).bind fun r1 =>
  if r1.1 = 0 then
    some (((-1000000) : Int32), r1.2)
  else
    (fX9_counts r1.2).bind fun r2 =>
    (fX9_extremeOf v1 (3 : Int32) r2).bind fun r3 =>
    (rI 400 (r2 82) (((100 : Int32) * v1) + r3)).bind fun u4 =>
    (gF (FP.fdiv (FP.i2f u4) (FP.i2f (r2 62 26)))).bind fun u5 =>
    (fJxf58ca_floatToIntBits_5c35a u5).bind fun r6 =>
    some (r6, r2)
set_option maxRecDepth 100000 in
set_option maxHeartbeats 4000000 in
theorem wX9_skew (l : Launch) (E : gE) (hE : gDist sh E) (bk : Nat) (v1 : Int32) (I : gM) (J : gN) {r : Int32 × gM} (h : fX9_skew v1 I = some r) : Cu l sh E bk yX9_skew cX9_skew 3 (some .int) (gR 15) [.ref (E.2.1 62), .int v1] I J (fun r1 I1 J1 => r1 = some (.int r.1) ∧ I1 = r.2 ∧ J1 = J) := by
  refine Cu.of "LeapJoinModel" rfl hE (by decide) (Nat.le_of_ble_eq_true rfl) (fun z F B e hl => ?_)
  subst hl
  unfold fX9_skew at h
  refine g_aload_n F 0 dX9_skew_0 rfl rfl ?_
  refine g_iload_n F 1 dX9_skew_1 rfl rfl ?_
  refine u_callV (k := 62) (As := [.int v1]) (rest := []) (sn := fun r1 => [.int r1.1]) F B (fun _ => wX9_hasMean (zl z) E hE bk v1 I J) mX9_hasMean q1249 rfl s62 rfl rfl rfl (Nat.le_of_ble_eq_true rfl) dX9_skew_2 (fun _ => rfl) h (fun r1 h => ?_)
  refine u_if_ne (tgt := 12) F dX9_skew_5 (by decide) h (fun h => ?_) (fun h => ?_)
  · refine g_ldc_w F dX9_skew_8 q1143 ?_
    obtain rfl := Option.some.inj h
    exact g_iret F e dX9_skew_11 ⟨rfl, rfl, rfl⟩
  · refine g_aload_n F 0 dX9_skew_12 rfl rfl ?_
    refine u_callV (k := 62) (As := []) (rest := []) (sn := fun _ => []) F B (fun _ => wX9_counts (zl z) E hE bk  r1.2 J) mX9_counts q1210 rfl s62 rfl rfl rfl (Nat.le_of_ble_eq_true rfl) dX9_skew_13 (fun _ => rfl) h (fun r2 h => ?_)
    refine g_aload_n F 0 dX9_skew_16 rfl rfl ?_
    refine g_getr (j := 34) (nn := 82) F s62 rfl rfl uX9 (by decide) q855 dX9_skew_17 ?_
    refine g_bipush (v := 100) F dX9_skew_20 (by decide) ?_
    refine g_iload_n F 1 dX9_skew_22 rfl rfl ?_
    refine g_imul (v := (100 : Int32) * v1) F dX9_skew_23 rfl ?_
    refine g_aload_n F 0 dX9_skew_24 rfl rfl ?_
    refine g_iload_n F 1 dX9_skew_25 rfl rfl ?_
    refine g_iconst (v := 3) F dX9_skew_26 (by decide) ?_
    refine u_callV (k := 62) (As := [.int v1, .int 3]) (rest := [.int ((100 : Int32) * v1), .ref (E.2.1 82)]) (sn := fun r3 => [.int r3, .int ((100 : Int32) * v1), .ref (E.2.1 82)]) F B (fun _ => wX9_extremeOf (zl z) E hE bk v1 (3 : Int32) r2 J) mX9_extremeOf q1221 rfl s62 rfl rfl rfl (Nat.le_of_ble_eq_true rfl) dX9_skew_27 (fun _ => rfl) h (fun r3 h => ?_)
    refine g_iadd (v := ((100 : Int32) * v1) + r3) F dX9_skew_30 rfl ?_
    refine u_rI F s82 (by decide) dX9_skew_31 h (fun u4 h => ?_)
    refine g_istore_n (Ln := [(2, .int u4), (0, .ref (E.2.1 62)), (1, .int v1)]) F dX9_skew_32 rfl (by decide) rfl ?_
    refine g_iload_n F 0 dX9_skew_33 rfl rfl ?_
    refine g_i2f F dX9_skew_34 ?_
    refine g_aload_n F 1 dX9_skew_35 rfl rfl ?_
    refine g_geti (j := 26) (v := r2 62 26) F s62 rfl rfl uX9 (by decide) q847 rfl dX9_skew_36 ?_
    refine g_i2f F dX9_skew_39 ?_
    refine u_fdiv F dX9_skew_40 h (fun u5 h => ?_)
    refine u_callS (As := [.float u5]) (rest := []) (sn := fun r6 => [.int r6]) F B (fun _ => wJxf58ca_floatToIntBits_5c35a (zl z) E hE bk u5 r2 J) mJxf58ca_floatToIntBits_5c35a q1269 rfl rfl rfl (Nat.le_of_ble_eq_true rfl) dX9_skew_41 (fun _ => rfl) h (fun r6 h => ?_)
    obtain rfl := Option.some.inj h
    exact g_iret F e dX9_skew_44 ⟨rfl, rfl, rfl⟩
