theorem DX8_rows_0 : dAre cX8_rows [(0, .aload_n 0, 1), (1, .getfield 19, 3), (4, .getfield 134, 3), (7, .ifCond .ne 7, 3), (10, .iconst (-1), 1), (11, .goto 10, 3), (14, .aload_n 0, 1), (15, .getfield 32, 3), (18, .getfield 186, 3), (21, .ireturn, 1)] := dAre0 (by decide +kernel)
theorem dX8_rows_0 : decode cX8_rows 0 = .ok (.aload_n 0, 1) := DX8_rows_0.1
theorem dX8_rows_1 : decode cX8_rows 1 = .ok (.getfield 19, 3) := DX8_rows_0.2.1
theorem dX8_rows_4 : decode cX8_rows 4 = .ok (.getfield 134, 3) := DX8_rows_0.2.2.1
theorem dX8_rows_7 : decode cX8_rows 7 = .ok (.ifCond .ne 7, 3) := DX8_rows_0.2.2.2.1
theorem dX8_rows_10 : decode cX8_rows 10 = .ok (.iconst (-1), 1) := DX8_rows_0.2.2.2.2.1
theorem dX8_rows_11 : decode cX8_rows 11 = .ok (.goto 10, 3) := DX8_rows_0.2.2.2.2.2.1
theorem dX8_rows_14 : decode cX8_rows 14 = .ok (.aload_n 0, 1) := DX8_rows_0.2.2.2.2.2.2.1
theorem dX8_rows_15 : decode cX8_rows 15 = .ok (.getfield 32, 3) := DX8_rows_0.2.2.2.2.2.2.2.1
theorem dX8_rows_18 : decode cX8_rows 18 = .ok (.getfield 186, 3) := DX8_rows_0.2.2.2.2.2.2.2.2.1
theorem dX8_rows_21 : decode cX8_rows 21 = .ok (.ireturn, 1) := DX8_rows_0.2.2.2.2.2.2.2.2.2.1
theorem mX8_rows : gMv yX8_rows cX8_rows 1 (some .int) RX8 0 := ⟨q415, q416, q1, q417, rfl, by decide, by decide, by decide +kernel⟩
noncomputable def fX8_rows (I : gM) : Option (Int32) :=
  if (I 3 0) = 0 then
    some ((-1) : Int32)
  else
    some (I 18 0)
set_option maxRecDepth 100000 in
set_option maxHeartbeats 4000000 in
theorem wX8_rows (l : Launch) (E : gE) (hE : gDist sh E) (bk : Nat) (I : gM) (J : gN) {r : Int32} (h : fX8_rows I = some r) : Cu l sh E bk yX8_rows cX8_rows 1 (some .int) (gR 0) [.ref (E.2.1 0)] I J (fun r1 I1 J1 => r1 = some (.int r) ∧ I1 = I ∧ J1 = J) := by
  refine Cu.of "LeapJoin" rfl hE (by decide) (Nat.le_of_ble_eq_true rfl) (fun z F B e hl => ?_)
  subst hl
  unfold fX8_rows at h
  refine g_aload_n F 0 dX8_rows_0 rfl rfl ?_
  refine g_getr (j := 1) (nn := 3) F s0 rfl rfl uX8 (by decide) q170 dX8_rows_1 ?_
  refine g_geti (j := 0) (v := I 3 0) F shX5_3.1 rfl rfl uX5 (by decide) q49 rfl dX8_rows_4 ?_
  refine u_if_ne (tgt := 14) F dX8_rows_7 (by decide) h (fun h => ?_) (fun h => ?_)
  · refine g_iconst (v := (-1)) F dX8_rows_10 (by decide) ?_
    refine g_goto (tgt := 21) F dX8_rows_11 (by decide) ?_
    obtain rfl := Option.some.inj h
    exact g_iret F e dX8_rows_21 ⟨rfl, rfl, rfl⟩
  · refine g_aload_n F 0 dX8_rows_14 rfl rfl ?_
    refine g_getr (j := 4) (nn := 18) F s0 rfl rfl uX8 (by decide) q173 dX8_rows_15 ?_
    refine g_geti (j := 0) (v := I 18 0) F shX1_18.1 rfl rfl uX1 (by decide) q79 rfl dX8_rows_18 ?_
    obtain rfl := Option.some.inj h
    exact g_iret F e dX8_rows_21 ⟨rfl, rfl, rfl⟩
theorem DX8_isAsked_0 : dAre cX8_isAsked [(0, .iload_n 1, 1), (1, .ifCond .lt 26, 3), (4, .iload_n 1, 1), (5, .iconst 4, 1), (6, .if_icmp .ge 21, 3), (9, .aload_n 0, 1), (10, .getfield 19, 3), (13, .invokevirtual 153, 3), (16, .iload_n 1, 1), (17, .ishr, 1), (18, .iconst 1, 1), (19, .iand, 1), (20, .ifCond .eq 7, 3), (23, .iconst 1, 1), (24, .goto 4, 3), (27, .iconst 0, 1)] := dAre0 (by decide +kernel)
theorem dX8_isAsked_0 : decode cX8_isAsked 0 = .ok (.iload_n 1, 1) := DX8_isAsked_0.1
theorem dX8_isAsked_1 : decode cX8_isAsked 1 = .ok (.ifCond .lt 26, 3) := DX8_isAsked_0.2.1
theorem dX8_isAsked_4 : decode cX8_isAsked 4 = .ok (.iload_n 1, 1) := DX8_isAsked_0.2.2.1
theorem dX8_isAsked_5 : decode cX8_isAsked 5 = .ok (.iconst 4, 1) := DX8_isAsked_0.2.2.2.1
theorem dX8_isAsked_6 : decode cX8_isAsked 6 = .ok (.if_icmp .ge 21, 3) := DX8_isAsked_0.2.2.2.2.1
theorem dX8_isAsked_9 : decode cX8_isAsked 9 = .ok (.aload_n 0, 1) := DX8_isAsked_0.2.2.2.2.2.1
theorem dX8_isAsked_10 : decode cX8_isAsked 10 = .ok (.getfield 19, 3) := DX8_isAsked_0.2.2.2.2.2.2.1
theorem dX8_isAsked_13 : decode cX8_isAsked 13 = .ok (.invokevirtual 153, 3) := DX8_isAsked_0.2.2.2.2.2.2.2.1
theorem dX8_isAsked_16 : decode cX8_isAsked 16 = .ok (.iload_n 1, 1) := DX8_isAsked_0.2.2.2.2.2.2.2.2.1
theorem dX8_isAsked_17 : decode cX8_isAsked 17 = .ok (.ishr, 1) := DX8_isAsked_0.2.2.2.2.2.2.2.2.2.1
theorem dX8_isAsked_18 : decode cX8_isAsked 18 = .ok (.iconst 1, 1) := DX8_isAsked_0.2.2.2.2.2.2.2.2.2.2.1
theorem dX8_isAsked_19 : decode cX8_isAsked 19 = .ok (.iand, 1) := DX8_isAsked_0.2.2.2.2.2.2.2.2.2.2.2.1
theorem dX8_isAsked_20 : decode cX8_isAsked 20 = .ok (.ifCond .eq 7, 3) := DX8_isAsked_0.2.2.2.2.2.2.2.2.2.2.2.2.1
theorem dX8_isAsked_23 : decode cX8_isAsked 23 = .ok (.iconst 1, 1) := DX8_isAsked_0.2.2.2.2.2.2.2.2.2.2.2.2.2.1
theorem dX8_isAsked_24 : decode cX8_isAsked 24 = .ok (.goto 4, 3) := DX8_isAsked_0.2.2.2.2.2.2.2.2.2.2.2.2.2.2.1
theorem dX8_isAsked_27 : decode cX8_isAsked 27 = .ok (.iconst 0, 1) := DX8_isAsked_0.2.2.2.2.2.2.2.2.2.2.2.2.2.2.2.1
theorem dX8_isAsked_28 : decode cX8_isAsked 28 = .ok (.ireturn, 1) := by decide +kernel
theorem mX8_isAsked : gMv yX8_isAsked cX8_isAsked 2 (some .boolean) RX8 1 := ⟨q423, q1368, q1, q424, rfl, by decide, by decide, by decide +kernel⟩
noncomputable def fX8_isAsked (v1 : Int32) (I : gM) : Option (Int32) :=
  if v1 < 0 then
    some (0 : Int32)
  else
    if (4 : Int32) ≤ v1 then
      some (0 : Int32)
    else
      (fX5_asked 3 I).bind fun r1 =>
      if ((r1 >>> (v1 &&& 31)) &&& 1) = 0 then
        some (0 : Int32)
      else
        some (1 : Int32)
set_option maxRecDepth 100000 in
set_option maxHeartbeats 4000000 in
theorem wX8_isAsked (l : Launch) (E : gE) (hE : gDist sh E) (bk : Nat) (v1 : Int32) (I : gM) (J : gN) {r : Int32} (h : fX8_isAsked v1 I = some r) : Cu l sh E bk yX8_isAsked cX8_isAsked 2 (some .boolean) (gR 3) [.ref (E.2.1 0), .int v1] I J (fun r1 I1 J1 => r1 = some (.int r) ∧ I1 = I ∧ J1 = J) := by
  refine Cu.of "LeapJoin" rfl hE (by decide) (Nat.le_of_ble_eq_true rfl) (fun z F B e hl => ?_)
  subst hl
  unfold fX8_isAsked at h
  refine g_iload_n F 1 dX8_isAsked_0 rfl rfl ?_
  refine u_if_lt (tgt := 27) F dX8_isAsked_1 (by decide) h (fun h => ?_) (fun h => ?_)
  · refine g_iconst (v := 0) F dX8_isAsked_27 (by decide) ?_
    obtain rfl := Option.some.inj h
    exact g_zret F rfl e dX8_isAsked_28 ⟨rfl, rfl, rfl⟩
  · refine g_iload_n F 1 dX8_isAsked_4 rfl rfl ?_
    refine g_iconst (v := 4) F dX8_isAsked_5 (by decide) ?_
    refine u_icmp_ge (tgt := 27) F dX8_isAsked_6 (by decide) h (fun h => ?_) (fun h => ?_)
    · refine g_iconst (v := 0) F dX8_isAsked_27 (by decide) ?_
      obtain rfl := Option.some.inj h
      exact g_zret F rfl e dX8_isAsked_28 ⟨rfl, rfl, rfl⟩
    · refine g_aload_n F 0 dX8_isAsked_9 rfl rfl ?_
      refine g_getr (j := 1) (nn := 3) F s0 rfl rfl uX8 (by decide) q170 dX8_isAsked_10 ?_
      refine u_callV (k := 3) (As := []) (rest := []) (sn := fun r1 => [.int r1]) F B (fun _ => wX5_asked (zl z) E hE bk 3 shX5_3 I J) mX5_asked q403 rfl shX5_3.1 rfl rfl rfl (Nat.le_of_ble_eq_true rfl) dX8_isAsked_13 (fun _ => rfl) h (fun r1 h => ?_)
      refine g_iload_n F 1 dX8_isAsked_16 rfl rfl ?_
      refine g_ishr (v := r1 >>> (v1 &&& 31)) F dX8_isAsked_17 rfl ?_
      refine g_iconst (v := 1) F dX8_isAsked_18 (by decide) ?_
      refine g_iand (v := (r1 >>> (v1 &&& 31)) &&& 1) F dX8_isAsked_19 rfl ?_
      refine u_if_eq (tgt := 27) F dX8_isAsked_20 (by decide) h (fun h => ?_) (fun h => ?_)
      · refine g_iconst (v := 0) F dX8_isAsked_27 (by decide) ?_
        obtain rfl := Option.some.inj h
        exact g_zret F rfl e dX8_isAsked_28 ⟨rfl, rfl, rfl⟩
      · refine g_iconst (v := 1) F dX8_isAsked_23 (by decide) ?_
        refine g_goto (tgt := 28) F dX8_isAsked_24 (by decide) ?_
        obtain rfl := Option.some.inj h
        exact g_zret F rfl e dX8_isAsked_28 ⟨rfl, rfl, rfl⟩
theorem DX8_row_0 : dAre cX8_row [(0, .aload_n 0, 1), (1, .iload_n 2, 1), (2, .invokevirtual 187, 3), (5, .ifCond .eq 18, 3), (8, .iload_n 1, 1), (9, .ifCond .lt 14, 3), (12, .iload_n 1, 1), (13, .aload_n 0, 1), (14, .getfield 32, 3), (17, .getfield 186, 3), (20, .if_icmp .lt 5, 3), (23, .iconst (-1), 1), (24, .ireturn, 1), (25, .aload_n 0, 1), (26, .getfield 32, 3), (29, .iload_n 1, 1)] := dAre0 (by decide +kernel)
theorem dX8_row_0 : decode cX8_row 0 = .ok (.aload_n 0, 1) := DX8_row_0.1
theorem dX8_row_1 : decode cX8_row 1 = .ok (.iload_n 2, 1) := DX8_row_0.2.1
theorem dX8_row_2 : decode cX8_row 2 = .ok (.invokevirtual 187, 3) := DX8_row_0.2.2.1
theorem dX8_row_5 : decode cX8_row 5 = .ok (.ifCond .eq 18, 3) := DX8_row_0.2.2.2.1
theorem dX8_row_8 : decode cX8_row 8 = .ok (.iload_n 1, 1) := DX8_row_0.2.2.2.2.1
theorem dX8_row_9 : decode cX8_row 9 = .ok (.ifCond .lt 14, 3) := DX8_row_0.2.2.2.2.2.1
theorem dX8_row_12 : decode cX8_row 12 = .ok (.iload_n 1, 1) := DX8_row_0.2.2.2.2.2.2.1
theorem dX8_row_13 : decode cX8_row 13 = .ok (.aload_n 0, 1) := DX8_row_0.2.2.2.2.2.2.2.1
theorem dX8_row_14 : decode cX8_row 14 = .ok (.getfield 32, 3) := DX8_row_0.2.2.2.2.2.2.2.2.1
theorem dX8_row_17 : decode cX8_row 17 = .ok (.getfield 186, 3) := DX8_row_0.2.2.2.2.2.2.2.2.2.1
theorem dX8_row_20 : decode cX8_row 20 = .ok (.if_icmp .lt 5, 3) := DX8_row_0.2.2.2.2.2.2.2.2.2.2.1
theorem dX8_row_23 : decode cX8_row 23 = .ok (.iconst (-1), 1) := DX8_row_0.2.2.2.2.2.2.2.2.2.2.2.1
theorem dX8_row_24 : decode cX8_row 24 = .ok (.ireturn, 1) := DX8_row_0.2.2.2.2.2.2.2.2.2.2.2.2.1
theorem dX8_row_25 : decode cX8_row 25 = .ok (.aload_n 0, 1) := DX8_row_0.2.2.2.2.2.2.2.2.2.2.2.2.2.1
theorem dX8_row_26 : decode cX8_row 26 = .ok (.getfield 32, 3) := DX8_row_0.2.2.2.2.2.2.2.2.2.2.2.2.2.2.1
theorem dX8_row_29 : decode cX8_row 29 = .ok (.iload_n 1, 1) := DX8_row_0.2.2.2.2.2.2.2.2.2.2.2.2.2.2.2.1
theorem DX8_row_30 : dAre cX8_row [(30, .iload_n 2, 1), (31, .invokevirtual 190, 3), (34, .ireturn, 1)] := dAre0 (by decide +kernel)
theorem dX8_row_30 : decode cX8_row 30 = .ok (.iload_n 2, 1) := DX8_row_30.1
theorem dX8_row_31 : decode cX8_row 31 = .ok (.invokevirtual 190, 3) := DX8_row_30.2.1
theorem dX8_row_34 : decode cX8_row 34 = .ok (.ireturn, 1) := DX8_row_30.2.2.1
theorem mX8_row : gMv yX8_row cX8_row 3 (some .int) RX8 2 := ⟨q419, q420, q1, q421, rfl, by decide, by decide, by decide +kernel⟩
noncomputable def fX8_row (v1 : Int32) (v2 : Int32) (I : gM) : Option (Int32) :=
  (fX8_isAsked v2 I).bind fun r1 =>
  if r1 = 0 then
    some ((-1) : Int32)
  else
    if v1 < 0 then
      some ((-1) : Int32)
    else
      if v1 < (I 18 0) then
        (fX1_numberAt 18 v1 v2 I).bind fun r2 =>
        some r2
      else
        some ((-1) : Int32)
set_option maxRecDepth 100000 in
set_option maxHeartbeats 4000000 in
theorem wX8_row (l : Launch) (E : gE) (hE : gDist sh E) (bk : Nat) (v1 : Int32) (v2 : Int32) (I : gM) (J : gN) {r : Int32} (h : fX8_row v1 v2 I = some r) : Cu l sh E bk yX8_row cX8_row 3 (some .int) (gR 4) [.ref (E.2.1 0), .int v1, .int v2] I J (fun r1 I1 J1 => r1 = some (.int r) ∧ I1 = I ∧ J1 = J) := by
  refine Cu.of "LeapJoin" rfl hE (by decide) (Nat.le_of_ble_eq_true rfl) (fun z F B e hl => ?_)
  subst hl
  unfold fX8_row at h
  refine g_aload_n F 0 dX8_row_0 rfl rfl ?_
  refine g_iload_n F 2 dX8_row_1 rfl rfl ?_
  refine u_callV (k := 0) (As := [.int v2]) (rest := []) (sn := fun r1 => [.int r1]) F B (fun _ => wX8_isAsked (zl z) E hE bk v2 I J) mX8_isAsked q422 rfl s0 rfl rfl rfl (Nat.le_of_ble_eq_true rfl) dX8_row_2 (fun _ => rfl) h (fun r1 h => ?_)
  refine u_if_eq (tgt := 23) F dX8_row_5 (by decide) h (fun h => ?_) (fun h => ?_)
  · refine g_iconst (v := (-1)) F dX8_row_23 (by decide) ?_
    obtain rfl := Option.some.inj h
    exact g_iret F e dX8_row_24 ⟨rfl, rfl, rfl⟩
  · refine g_iload_n F 1 dX8_row_8 rfl rfl ?_
    refine u_if_lt (tgt := 23) F dX8_row_9 (by decide) h (fun h => ?_) (fun h => ?_)
    · refine g_iconst (v := (-1)) F dX8_row_23 (by decide) ?_
      obtain rfl := Option.some.inj h
      exact g_iret F e dX8_row_24 ⟨rfl, rfl, rfl⟩
    · refine g_iload_n F 1 dX8_row_12 rfl rfl ?_
      refine g_aload_n F 0 dX8_row_13 rfl rfl ?_
      refine g_getr (j := 4) (nn := 18) F s0 rfl rfl uX8 (by decide) q173 dX8_row_14 ?_
      refine g_geti (j := 0) (v := I 18 0) F shX1_18.1 rfl rfl uX1 (by decide) q79 rfl dX8_row_17 ?_
      refine u_icmp_lt (tgt := 25) F dX8_row_20 (by decide) h (fun h => ?_) (fun h => ?_)
      · refine g_aload_n F 0 dX8_row_25 rfl rfl ?_
        refine g_getr (j := 4) (nn := 18) F s0 rfl rfl uX8 (by decide) q173 dX8_row_26 ?_
        refine g_iload_n F 1 dX8_row_29 rfl rfl ?_
        refine g_iload_n F 2 dX8_row_30 rfl rfl ?_
        refine u_callV (k := 18) (As := [.int v1, .int v2]) (rest := []) (sn := fun r2 => [.int r2]) F B (fun _ => wX1_numberAt (zl z) E hE bk 18 v1 v2 shX1_18 I J) mX1_numberAt q425 rfl shX1_18.1 rfl rfl rfl (Nat.le_of_ble_eq_true rfl) dX8_row_31 (fun _ => rfl) h (fun r2 h => ?_)
        obtain rfl := Option.some.inj h
        exact g_iret F e dX8_row_34 ⟨rfl, rfl, rfl⟩
      · refine g_iconst (v := (-1)) F dX8_row_23 (by decide) ?_
        obtain rfl := Option.some.inj h
        exact g_iret F e dX8_row_24 ⟨rfl, rfl, rfl⟩
theorem DX8_leaps_0 : dAre cX8_leaps [(0, .aload_n 0, 1), (1, .getfield 19, 3), (4, .getfield 134, 3), (7, .ifCond .ne 7, 3), (10, .iconst (-1), 1), (11, .goto 10, 3), (14, .aload_n 0, 1), (15, .getfield 32, 3), (18, .getfield 193, 3), (21, .ireturn, 1)] := dAre0 (by decide +kernel)
theorem dX8_leaps_0 : decode cX8_leaps 0 = .ok (.aload_n 0, 1) := DX8_leaps_0.1
theorem dX8_leaps_1 : decode cX8_leaps 1 = .ok (.getfield 19, 3) := DX8_leaps_0.2.1
theorem dX8_leaps_4 : decode cX8_leaps 4 = .ok (.getfield 134, 3) := DX8_leaps_0.2.2.1
theorem dX8_leaps_7 : decode cX8_leaps 7 = .ok (.ifCond .ne 7, 3) := DX8_leaps_0.2.2.2.1
theorem dX8_leaps_10 : decode cX8_leaps 10 = .ok (.iconst (-1), 1) := DX8_leaps_0.2.2.2.2.1
theorem dX8_leaps_11 : decode cX8_leaps 11 = .ok (.goto 10, 3) := DX8_leaps_0.2.2.2.2.2.1
theorem dX8_leaps_14 : decode cX8_leaps 14 = .ok (.aload_n 0, 1) := DX8_leaps_0.2.2.2.2.2.2.1
theorem dX8_leaps_15 : decode cX8_leaps 15 = .ok (.getfield 32, 3) := DX8_leaps_0.2.2.2.2.2.2.2.1
theorem dX8_leaps_18 : decode cX8_leaps 18 = .ok (.getfield 193, 3) := DX8_leaps_0.2.2.2.2.2.2.2.2.1
theorem dX8_leaps_21 : decode cX8_leaps 21 = .ok (.ireturn, 1) := DX8_leaps_0.2.2.2.2.2.2.2.2.2.1
theorem mX8_leaps : gMv yX8_leaps cX8_leaps 1 (some .int) RX8 0 := ⟨q434, q435, q1, q436, rfl, by decide, by decide, by decide +kernel⟩
noncomputable def fX8_leaps (I : gM) : Option (Int32) :=
  if (I 3 0) = 0 then
    some ((-1) : Int32)
  else
    some (I 18 1)
set_option maxRecDepth 100000 in
set_option maxHeartbeats 4000000 in
theorem wX8_leaps (l : Launch) (E : gE) (hE : gDist sh E) (bk : Nat) (I : gM) (J : gN) {r : Int32} (h : fX8_leaps I = some r) : Cu l sh E bk yX8_leaps cX8_leaps 1 (some .int) (gR 0) [.ref (E.2.1 0)] I J (fun r1 I1 J1 => r1 = some (.int r) ∧ I1 = I ∧ J1 = J) := by
  refine Cu.of "LeapJoin" rfl hE (by decide) (Nat.le_of_ble_eq_true rfl) (fun z F B e hl => ?_)
  subst hl
  unfold fX8_leaps at h
  refine g_aload_n F 0 dX8_leaps_0 rfl rfl ?_
  refine g_getr (j := 1) (nn := 3) F s0 rfl rfl uX8 (by decide) q170 dX8_leaps_1 ?_
  refine g_geti (j := 0) (v := I 3 0) F shX5_3.1 rfl rfl uX5 (by decide) q49 rfl dX8_leaps_4 ?_
  refine u_if_ne (tgt := 14) F dX8_leaps_7 (by decide) h (fun h => ?_) (fun h => ?_)
  · refine g_iconst (v := (-1)) F dX8_leaps_10 (by decide) ?_
    refine g_goto (tgt := 21) F dX8_leaps_11 (by decide) ?_
    obtain rfl := Option.some.inj h
    exact g_iret F e dX8_leaps_21 ⟨rfl, rfl, rfl⟩
  · refine g_aload_n F 0 dX8_leaps_14 rfl rfl ?_
    refine g_getr (j := 4) (nn := 18) F s0 rfl rfl uX8 (by decide) q173 dX8_leaps_15 ?_
    refine g_geti (j := 1) (v := I 18 1) F shX1_18.1 rfl rfl uX1 (by decide) q82 rfl dX8_leaps_18 ?_
    obtain rfl := Option.some.inj h
    exact g_iret F e dX8_leaps_21 ⟨rfl, rfl, rfl⟩
theorem DX8_beginnings_0 : dAre cX8_beginnings [(0, .aload_n 0, 1), (1, .getfield 19, 3), (4, .getfield 134, 3), (7, .ifCond .eq 19, 3), (10, .iload_n 1, 1), (11, .iconst 1, 1), (12, .if_icmp .lt 14, 3), (15, .iload_n 1, 1), (16, .aload_n 0, 1), (17, .getfield 32, 3), (20, .getfield 196, 3), (23, .if_icmp .le 5, 3), (26, .iconst (-1), 1), (27, .ireturn, 1), (28, .aload_n 0, 1), (29, .getfield 32, 3)] := dAre0 (by decide +kernel)
theorem dX8_beginnings_0 : decode cX8_beginnings 0 = .ok (.aload_n 0, 1) := DX8_beginnings_0.1
theorem dX8_beginnings_1 : decode cX8_beginnings 1 = .ok (.getfield 19, 3) := DX8_beginnings_0.2.1
theorem dX8_beginnings_4 : decode cX8_beginnings 4 = .ok (.getfield 134, 3) := DX8_beginnings_0.2.2.1
theorem dX8_beginnings_7 : decode cX8_beginnings 7 = .ok (.ifCond .eq 19, 3) := DX8_beginnings_0.2.2.2.1
theorem dX8_beginnings_10 : decode cX8_beginnings 10 = .ok (.iload_n 1, 1) := DX8_beginnings_0.2.2.2.2.1
theorem dX8_beginnings_11 : decode cX8_beginnings 11 = .ok (.iconst 1, 1) := DX8_beginnings_0.2.2.2.2.2.1
theorem dX8_beginnings_12 : decode cX8_beginnings 12 = .ok (.if_icmp .lt 14, 3) := DX8_beginnings_0.2.2.2.2.2.2.1
theorem dX8_beginnings_15 : decode cX8_beginnings 15 = .ok (.iload_n 1, 1) := DX8_beginnings_0.2.2.2.2.2.2.2.1
theorem dX8_beginnings_16 : decode cX8_beginnings 16 = .ok (.aload_n 0, 1) := DX8_beginnings_0.2.2.2.2.2.2.2.2.1
theorem dX8_beginnings_17 : decode cX8_beginnings 17 = .ok (.getfield 32, 3) := DX8_beginnings_0.2.2.2.2.2.2.2.2.2.1
theorem dX8_beginnings_20 : decode cX8_beginnings 20 = .ok (.getfield 196, 3) := DX8_beginnings_0.2.2.2.2.2.2.2.2.2.2.1
theorem dX8_beginnings_23 : decode cX8_beginnings 23 = .ok (.if_icmp .le 5, 3) := DX8_beginnings_0.2.2.2.2.2.2.2.2.2.2.2.1
theorem dX8_beginnings_26 : decode cX8_beginnings 26 = .ok (.iconst (-1), 1) := DX8_beginnings_0.2.2.2.2.2.2.2.2.2.2.2.2.1
theorem dX8_beginnings_27 : decode cX8_beginnings 27 = .ok (.ireturn, 1) := DX8_beginnings_0.2.2.2.2.2.2.2.2.2.2.2.2.2.1
theorem dX8_beginnings_28 : decode cX8_beginnings 28 = .ok (.aload_n 0, 1) := DX8_beginnings_0.2.2.2.2.2.2.2.2.2.2.2.2.2.2.1
theorem dX8_beginnings_29 : decode cX8_beginnings 29 = .ok (.getfield 32, 3) := DX8_beginnings_0.2.2.2.2.2.2.2.2.2.2.2.2.2.2.2.1
theorem DX8_beginnings_32 : dAre cX8_beginnings [(32, .getfield 199, 3), (35, .iload_n 1, 1), (36, .iconst 1, 1), (37, .isub, 1), (38, .iaload, 1), (39, .ireturn, 1)] := dAre0 (by decide +kernel)
theorem dX8_beginnings_32 : decode cX8_beginnings 32 = .ok (.getfield 199, 3) := DX8_beginnings_32.1
theorem dX8_beginnings_35 : decode cX8_beginnings 35 = .ok (.iload_n 1, 1) := DX8_beginnings_32.2.1
theorem dX8_beginnings_36 : decode cX8_beginnings 36 = .ok (.iconst 1, 1) := DX8_beginnings_32.2.2.1
theorem dX8_beginnings_37 : decode cX8_beginnings 37 = .ok (.isub, 1) := DX8_beginnings_32.2.2.2.1
theorem dX8_beginnings_38 : decode cX8_beginnings 38 = .ok (.iaload, 1) := DX8_beginnings_32.2.2.2.2.1
theorem dX8_beginnings_39 : decode cX8_beginnings 39 = .ok (.ireturn, 1) := DX8_beginnings_32.2.2.2.2.2.1
theorem mX8_beginnings : gMv yX8_beginnings cX8_beginnings 2 (some .int) RX8 1 := ⟨q438, q439, q1, q440, rfl, by decide, by decide, by decide +kernel⟩
noncomputable def fX8_beginnings (v1 : Int32) (I : gM) : Option (Int32) :=
  if (I 3 0) = 0 then
    some ((-1) : Int32)
  else
    if v1 < 1 then
      some ((-1) : Int32)
    else
      if v1 ≤ (I 18 2) then
        (rI 4 (I 19) (v1 - 1)).bind fun u1 =>
        some u1
      else
        some ((-1) : Int32)
set_option maxRecDepth 100000 in
set_option maxHeartbeats 4000000 in
theorem wX8_beginnings (l : Launch) (E : gE) (hE : gDist sh E) (bk : Nat) (v1 : Int32) (I : gM) (J : gN) {r : Int32} (h : fX8_beginnings v1 I = some r) : Cu l sh E bk yX8_beginnings cX8_beginnings 2 (some .int) (gR 0) [.ref (E.2.1 0), .int v1] I J (fun r1 I1 J1 => r1 = some (.int r) ∧ I1 = I ∧ J1 = J) := by
  refine Cu.of "LeapJoin" rfl hE (by decide) (Nat.le_of_ble_eq_true rfl) (fun z F B e hl => ?_)
  subst hl
  unfold fX8_beginnings at h
  refine g_aload_n F 0 dX8_beginnings_0 rfl rfl ?_
  refine g_getr (j := 1) (nn := 3) F s0 rfl rfl uX8 (by decide) q170 dX8_beginnings_1 ?_
  refine g_geti (j := 0) (v := I 3 0) F shX5_3.1 rfl rfl uX5 (by decide) q49 rfl dX8_beginnings_4 ?_
  refine u_if_eq (tgt := 26) F dX8_beginnings_7 (by decide) h (fun h => ?_) (fun h => ?_)
  · refine g_iconst (v := (-1)) F dX8_beginnings_26 (by decide) ?_
    obtain rfl := Option.some.inj h
    exact g_iret F e dX8_beginnings_27 ⟨rfl, rfl, rfl⟩
  · refine g_iload_n F 1 dX8_beginnings_10 rfl rfl ?_
    refine g_iconst (v := 1) F dX8_beginnings_11 (by decide) ?_
    refine u_icmp_lt (tgt := 26) F dX8_beginnings_12 (by decide) h (fun h => ?_) (fun h => ?_)
    · refine g_iconst (v := (-1)) F dX8_beginnings_26 (by decide) ?_
      obtain rfl := Option.some.inj h
      exact g_iret F e dX8_beginnings_27 ⟨rfl, rfl, rfl⟩
    · refine g_iload_n F 1 dX8_beginnings_15 rfl rfl ?_
      refine g_aload_n F 0 dX8_beginnings_16 rfl rfl ?_
      refine g_getr (j := 4) (nn := 18) F s0 rfl rfl uX8 (by decide) q173 dX8_beginnings_17 ?_
      refine g_geti (j := 2) (v := I 18 2) F shX1_18.1 rfl rfl uX1 (by decide) q84 rfl dX8_beginnings_20 ?_
      refine u_icmp_le (tgt := 28) F dX8_beginnings_23 (by decide) h (fun h => ?_) (fun h => ?_)
      · refine g_aload_n F 0 dX8_beginnings_28 rfl rfl ?_
        refine g_getr (j := 4) (nn := 18) F s0 rfl rfl uX8 (by decide) q173 dX8_beginnings_29 ?_
        refine g_getr (j := 3) (nn := 19) F shX1_18.1 rfl rfl uX1 (by decide) q86 dX8_beginnings_32 ?_
        refine g_iload_n F 1 dX8_beginnings_35 rfl rfl ?_
        refine g_iconst (v := 1) F dX8_beginnings_36 (by decide) ?_
        refine g_isub (v := v1 - 1) F dX8_beginnings_37 rfl ?_
        refine u_rI F shX1_18.2.1 (by decide) dX8_beginnings_38 h (fun u1 h => ?_)
        obtain rfl := Option.some.inj h
        exact g_iret F e dX8_beginnings_39 ⟨rfl, rfl, rfl⟩
      · refine g_iconst (v := (-1)) F dX8_beginnings_26 (by decide) ?_
        obtain rfl := Option.some.inj h
        exact g_iret F e dX8_beginnings_27 ⟨rfl, rfl, rfl⟩
theorem DX8_best_0 : dAre cX8_best [(0, .aload_n 0, 1), (1, .getfield 19, 3), (4, .getfield 134, 3), (7, .ifCond .eq 12, 3), (10, .iload_n 1, 1), (11, .ifCond .lt 8, 3), (14, .iload_n 1, 1), (15, .iconst 1, 1), (16, .if_icmp .le 5, 3), (19, .iconst (-1), 1), (20, .ireturn, 1), (21, .aload_n 0, 1), (22, .getfield 49, 3), (25, .aload_n 0, 1), (26, .getfield 19, 3), (29, .aload_n 0, 1)] := dAre0 (by decide +kernel)
theorem dX8_best_0 : decode cX8_best 0 = .ok (.aload_n 0, 1) := DX8_best_0.1
theorem dX8_best_1 : decode cX8_best 1 = .ok (.getfield 19, 3) := DX8_best_0.2.1
theorem dX8_best_4 : decode cX8_best 4 = .ok (.getfield 134, 3) := DX8_best_0.2.2.1
theorem dX8_best_7 : decode cX8_best 7 = .ok (.ifCond .eq 12, 3) := DX8_best_0.2.2.2.1
theorem dX8_best_10 : decode cX8_best 10 = .ok (.iload_n 1, 1) := DX8_best_0.2.2.2.2.1
theorem dX8_best_11 : decode cX8_best 11 = .ok (.ifCond .lt 8, 3) := DX8_best_0.2.2.2.2.2.1
theorem dX8_best_14 : decode cX8_best 14 = .ok (.iload_n 1, 1) := DX8_best_0.2.2.2.2.2.2.1
theorem dX8_best_15 : decode cX8_best 15 = .ok (.iconst 1, 1) := DX8_best_0.2.2.2.2.2.2.2.1
theorem dX8_best_16 : decode cX8_best 16 = .ok (.if_icmp .le 5, 3) := DX8_best_0.2.2.2.2.2.2.2.2.1
theorem dX8_best_19 : decode cX8_best 19 = .ok (.iconst (-1), 1) := DX8_best_0.2.2.2.2.2.2.2.2.2.1
theorem dX8_best_20 : decode cX8_best 20 = .ok (.ireturn, 1) := DX8_best_0.2.2.2.2.2.2.2.2.2.2.1
theorem dX8_best_21 : decode cX8_best 21 = .ok (.aload_n 0, 1) := DX8_best_0.2.2.2.2.2.2.2.2.2.2.2.1
theorem dX8_best_22 : decode cX8_best 22 = .ok (.getfield 49, 3) := DX8_best_0.2.2.2.2.2.2.2.2.2.2.2.2.1
theorem dX8_best_25 : decode cX8_best 25 = .ok (.aload_n 0, 1) := DX8_best_0.2.2.2.2.2.2.2.2.2.2.2.2.2.1
theorem dX8_best_26 : decode cX8_best 26 = .ok (.getfield 19, 3) := DX8_best_0.2.2.2.2.2.2.2.2.2.2.2.2.2.2.1
theorem dX8_best_29 : decode cX8_best 29 = .ok (.aload_n 0, 1) := DX8_best_0.2.2.2.2.2.2.2.2.2.2.2.2.2.2.2.1
theorem DX8_best_30 : dAre cX8_best [(30, .getfield 36, 3), (33, .invokevirtual 202, 3), (36, .iload_n 1, 1), (37, .ifCond .ne 13, 3), (40, .aload_n 0, 1), (41, .getfield 49, 3), (44, .getfield 206, 3), (47, .goto 10, 3), (50, .aload_n 0, 1), (51, .getfield 49, 3), (54, .getfield 209, 3), (57, .ireturn, 1)] := dAre0 (by decide +kernel)
theorem dX8_best_30 : decode cX8_best 30 = .ok (.getfield 36, 3) := DX8_best_30.1
theorem dX8_best_33 : decode cX8_best 33 = .ok (.invokevirtual 202, 3) := DX8_best_30.2.1
theorem dX8_best_36 : decode cX8_best 36 = .ok (.iload_n 1, 1) := DX8_best_30.2.2.1
theorem dX8_best_37 : decode cX8_best 37 = .ok (.ifCond .ne 13, 3) := DX8_best_30.2.2.2.1
theorem dX8_best_40 : decode cX8_best 40 = .ok (.aload_n 0, 1) := DX8_best_30.2.2.2.2.1
theorem dX8_best_41 : decode cX8_best 41 = .ok (.getfield 49, 3) := DX8_best_30.2.2.2.2.2.1
theorem dX8_best_44 : decode cX8_best 44 = .ok (.getfield 206, 3) := DX8_best_30.2.2.2.2.2.2.1
theorem dX8_best_47 : decode cX8_best 47 = .ok (.goto 10, 3) := DX8_best_30.2.2.2.2.2.2.2.1
theorem dX8_best_50 : decode cX8_best 50 = .ok (.aload_n 0, 1) := DX8_best_30.2.2.2.2.2.2.2.2.1
theorem dX8_best_51 : decode cX8_best 51 = .ok (.getfield 49, 3) := DX8_best_30.2.2.2.2.2.2.2.2.2.1
theorem dX8_best_54 : decode cX8_best 54 = .ok (.getfield 209, 3) := DX8_best_30.2.2.2.2.2.2.2.2.2.2.1
theorem dX8_best_57 : decode cX8_best 57 = .ok (.ireturn, 1) := DX8_best_30.2.2.2.2.2.2.2.2.2.2.2.1
theorem mX8_best : gMv yX8_best cX8_best 2 (some .int) RX8 1 := ⟨q442, q443, q1, q444, rfl, by decide, by decide, by decide +kernel⟩
noncomputable def fX8_best (v1 : Int32) (I : gM) : Option (Int32 × gM) :=
  if (I 3 0) = 0 then
    some (((-1) : Int32), I)
  else
    if v1 < 0 then
      some (((-1) : Int32), I)
    else
      if v1 ≤ 1 then
        (fX7_weigh 3 29 I).bind fun r1 =>
        if v1 = 0 then
          some (r1 43 1, r1)
        else
          some (r1 43 2, r1)
      else
        some (((-1) : Int32), I)
set_option maxRecDepth 100000 in
set_option maxHeartbeats 4000000 in
theorem wX8_best (l : Launch) (E : gE) (hE : gDist sh E) (bk : Nat) (v1 : Int32) (I : gM) (J : gN) {r : Int32 × gM} (h : fX8_best v1 I = some r) : Cu l sh E bk yX8_best cX8_best 2 (some .int) (gR 17) [.ref (E.2.1 0), .int v1] I J (fun r1 I1 J1 => r1 = some (.int r.1) ∧ I1 = r.2 ∧ J1 = J) := by
  refine Cu.of "LeapJoin" rfl hE (by decide) (Nat.le_of_ble_eq_true rfl) (fun z F B e hl => ?_)
  subst hl
  unfold fX8_best at h
  refine g_aload_n F 0 dX8_best_0 rfl rfl ?_
  refine g_getr (j := 1) (nn := 3) F s0 rfl rfl uX8 (by decide) q170 dX8_best_1 ?_
  refine g_geti (j := 0) (v := I 3 0) F shX5_3.1 rfl rfl uX5 (by decide) q49 rfl dX8_best_4 ?_
  refine u_if_eq (tgt := 19) F dX8_best_7 (by decide) h (fun h => ?_) (fun h => ?_)
  · refine g_iconst (v := (-1)) F dX8_best_19 (by decide) ?_
    obtain rfl := Option.some.inj h
    exact g_iret F e dX8_best_20 ⟨rfl, rfl, rfl⟩
  · refine g_iload_n F 1 dX8_best_10 rfl rfl ?_
    refine u_if_lt (tgt := 19) F dX8_best_11 (by decide) h (fun h => ?_) (fun h => ?_)
    · refine g_iconst (v := (-1)) F dX8_best_19 (by decide) ?_
      obtain rfl := Option.some.inj h
      exact g_iret F e dX8_best_20 ⟨rfl, rfl, rfl⟩
    · refine g_iload_n F 1 dX8_best_14 rfl rfl ?_
      refine g_iconst (v := 1) F dX8_best_15 (by decide) ?_
      refine u_icmp_le (tgt := 21) F dX8_best_16 (by decide) h (fun h => ?_) (fun h => ?_)
      · refine g_aload_n F 0 dX8_best_21 rfl rfl ?_
        refine g_getr (j := 7) (nn := 43) F s0 rfl rfl uX8 (by decide) q176 dX8_best_22 ?_
        refine g_aload_n F 0 dX8_best_25 rfl rfl ?_
        refine g_getr (j := 1) (nn := 3) F s0 rfl rfl uX8 (by decide) q170 dX8_best_26 ?_
        refine g_aload_n F 0 dX8_best_29 rfl rfl ?_
        refine g_getr (j := 5) (nn := 29) F s0 rfl rfl uX8 (by decide) q174 dX8_best_30 ?_
        refine u_callV (k := 43) (As := [.ref (E.2.1 3), .ref (E.2.1 29)]) (rest := []) (sn := fun _ => []) F B (fun _ => wX7_weigh (zl z) E hE bk 3 29 shX5_3 shX1_29 I J) mX7_weigh q445 rfl s43 rfl rfl rfl (Nat.le_of_ble_eq_true rfl) dX8_best_33 (fun _ => rfl) h (fun r1 h => ?_)
        refine g_iload_n F 1 dX8_best_36 rfl rfl ?_
        refine u_if_ne (tgt := 50) F dX8_best_37 (by decide) h (fun h => ?_) (fun h => ?_)
        · refine g_aload_n F 0 dX8_best_40 rfl rfl ?_
          refine g_getr (j := 7) (nn := 43) F s0 rfl rfl uX8 (by decide) q176 dX8_best_41 ?_
          refine g_geti (j := 1) (v := r1 43 1) F s43 rfl rfl uX7 (by decide) q127 rfl dX8_best_44 ?_
          refine g_goto (tgt := 57) F dX8_best_47 (by decide) ?_
          obtain rfl := Option.some.inj h
          exact g_iret F e dX8_best_57 ⟨rfl, rfl, rfl⟩
        · refine g_aload_n F 0 dX8_best_50 rfl rfl ?_
          refine g_getr (j := 7) (nn := 43) F s0 rfl rfl uX8 (by decide) q176 dX8_best_51 ?_
          refine g_geti (j := 2) (v := r1 43 2) F s43 rfl rfl uX7 (by decide) q129 rfl dX8_best_54 ?_
          obtain rfl := Option.some.inj h
          exact g_iret F e dX8_best_57 ⟨rfl, rfl, rfl⟩
      · refine g_iconst (v := (-1)) F dX8_best_19 (by decide) ?_
        obtain rfl := Option.some.inj h
        exact g_iret F e dX8_best_20 ⟨rfl, rfl, rfl⟩
theorem DX8_plain_0 : dAre cX8_plain [(0, .aload_n 0, 1), (1, .getfield 19, 3), (4, .getfield 134, 3), (7, .ifCond .ne 5, 3), (10, .iconst (-1), 1), (11, .ireturn, 1), (12, .iconst 1, 1), (13, .istore_n 1, 1), (14, .iconst 0, 1), (15, .istore_n 2, 1), (16, .iload_n 2, 1), (17, .aload_n 0, 1), (18, .getfield 19, 3), (21, .getfield 134, 3), (24, .if_icmp .ge 32, 3), (27, .aload_n 0, 1)] := dAre0 (by decide +kernel)
theorem dX8_plain_0 : decode cX8_plain 0 = .ok (.aload_n 0, 1) := DX8_plain_0.1
theorem dX8_plain_1 : decode cX8_plain 1 = .ok (.getfield 19, 3) := DX8_plain_0.2.1
theorem dX8_plain_4 : decode cX8_plain 4 = .ok (.getfield 134, 3) := DX8_plain_0.2.2.1
theorem dX8_plain_7 : decode cX8_plain 7 = .ok (.ifCond .ne 5, 3) := DX8_plain_0.2.2.2.1
theorem dX8_plain_10 : decode cX8_plain 10 = .ok (.iconst (-1), 1) := DX8_plain_0.2.2.2.2.1
theorem dX8_plain_11 : decode cX8_plain 11 = .ok (.ireturn, 1) := DX8_plain_0.2.2.2.2.2.1
theorem dX8_plain_12 : decode cX8_plain 12 = .ok (.iconst 1, 1) := DX8_plain_0.2.2.2.2.2.2.1
theorem dX8_plain_13 : decode cX8_plain 13 = .ok (.istore_n 1, 1) := DX8_plain_0.2.2.2.2.2.2.2.1
theorem dX8_plain_14 : decode cX8_plain 14 = .ok (.iconst 0, 1) := DX8_plain_0.2.2.2.2.2.2.2.2.1
theorem dX8_plain_15 : decode cX8_plain 15 = .ok (.istore_n 2, 1) := DX8_plain_0.2.2.2.2.2.2.2.2.2.1
theorem dX8_plain_16 : decode cX8_plain 16 = .ok (.iload_n 2, 1) := DX8_plain_0.2.2.2.2.2.2.2.2.2.2.1
theorem dX8_plain_17 : decode cX8_plain 17 = .ok (.aload_n 0, 1) := DX8_plain_0.2.2.2.2.2.2.2.2.2.2.2.1
theorem dX8_plain_18 : decode cX8_plain 18 = .ok (.getfield 19, 3) := DX8_plain_0.2.2.2.2.2.2.2.2.2.2.2.2.1
theorem dX8_plain_21 : decode cX8_plain 21 = .ok (.getfield 134, 3) := DX8_plain_0.2.2.2.2.2.2.2.2.2.2.2.2.2.1
theorem dX8_plain_24 : decode cX8_plain 24 = .ok (.if_icmp .ge 32, 3) := DX8_plain_0.2.2.2.2.2.2.2.2.2.2.2.2.2.2.1
theorem dX8_plain_27 : decode cX8_plain 27 = .ok (.aload_n 0, 1) := DX8_plain_0.2.2.2.2.2.2.2.2.2.2.2.2.2.2.2.1
theorem DX8_plain_28 : dAre cX8_plain [(28, .getfield 19, 3), (31, .iload_n 2, 1), (32, .invokevirtual 179, 3), (35, .ifCond .eq 15, 3), (38, .iload_n 1, 1), (39, .aload_n 0, 1), (40, .getfield 19, 3), (43, .getfield 176, 3), (46, .iload_n 2, 1), (47, .iaload, 1), (48, .imul, 1), (49, .istore_n 1, 1), (50, .iinc 2 1, 3), (53, .goto (-37), 3), (56, .iload_n 1, 1), (57, .ireturn, 1)] := dAre0 (by decide +kernel)
theorem dX8_plain_28 : decode cX8_plain 28 = .ok (.getfield 19, 3) := DX8_plain_28.1
theorem dX8_plain_31 : decode cX8_plain 31 = .ok (.iload_n 2, 1) := DX8_plain_28.2.1
theorem dX8_plain_32 : decode cX8_plain 32 = .ok (.invokevirtual 179, 3) := DX8_plain_28.2.2.1
theorem dX8_plain_35 : decode cX8_plain 35 = .ok (.ifCond .eq 15, 3) := DX8_plain_28.2.2.2.1
theorem dX8_plain_38 : decode cX8_plain 38 = .ok (.iload_n 1, 1) := DX8_plain_28.2.2.2.2.1
theorem dX8_plain_39 : decode cX8_plain 39 = .ok (.aload_n 0, 1) := DX8_plain_28.2.2.2.2.2.1
theorem dX8_plain_40 : decode cX8_plain 40 = .ok (.getfield 19, 3) := DX8_plain_28.2.2.2.2.2.2.1
theorem dX8_plain_43 : decode cX8_plain 43 = .ok (.getfield 176, 3) := DX8_plain_28.2.2.2.2.2.2.2.1
theorem dX8_plain_46 : decode cX8_plain 46 = .ok (.iload_n 2, 1) := DX8_plain_28.2.2.2.2.2.2.2.2.1
theorem dX8_plain_47 : decode cX8_plain 47 = .ok (.iaload, 1) := DX8_plain_28.2.2.2.2.2.2.2.2.2.1
theorem dX8_plain_48 : decode cX8_plain 48 = .ok (.imul, 1) := DX8_plain_28.2.2.2.2.2.2.2.2.2.2.1
theorem dX8_plain_49 : decode cX8_plain 49 = .ok (.istore_n 1, 1) := DX8_plain_28.2.2.2.2.2.2.2.2.2.2.2.1
theorem dX8_plain_50 : decode cX8_plain 50 = .ok (.iinc 2 1, 3) := DX8_plain_28.2.2.2.2.2.2.2.2.2.2.2.2.1
theorem dX8_plain_53 : decode cX8_plain 53 = .ok (.goto (-37), 3) := DX8_plain_28.2.2.2.2.2.2.2.2.2.2.2.2.2.1
theorem dX8_plain_56 : decode cX8_plain 56 = .ok (.iload_n 1, 1) := DX8_plain_28.2.2.2.2.2.2.2.2.2.2.2.2.2.2.1
theorem dX8_plain_57 : decode cX8_plain 57 = .ok (.ireturn, 1) := DX8_plain_28.2.2.2.2.2.2.2.2.2.2.2.2.2.2.2.1
theorem mX8_plain : gMv yX8_plain cX8_plain 3 (some .int) RX8 0 := ⟨q451, q452, q1, q453, rfl, by decide, by decide, by decide +kernel⟩
noncomputable def bX8_plain_50 (v1 : Int32) (v2 : Int32) : Option ((Int32 × Int32) ⊕ (Int32)) :=
  some (.inl (v1, v2 + 1))
set_option maxRecDepth 100000 in
set_option maxHeartbeats 4000000 in
theorem wbX8_plain_50 {z : gZ} {E : gE} {bk : Nat} (F : Fx z sh E "LeapJoin" cX8_plain (gR 2) 3) (B : bZ z bk) (hE : gDist sh E) (v1 : Int32) (v2 : Int32) (I : gM) (J : gN) {y : (Int32 × Int32) ⊕ (Int32)} (h : bX8_plain_50 v1 v2 = some y) (hl : ∀ s' : Int32 × Int32, y = .inl s' → G z 16 [(0, .ref (E.2.1 0)), (1, .int (s'.1)), (2, .int (s'.2))] [] I J) (K16_0 : ∀ x : Int32, y = .inr x → G z 56 [(1, .int x)] [] I J) : G z 50 [(0, .ref (E.2.1 0)), (1, .int v1), (2, .int v2)] [] I J := by
  unfold bX8_plain_50 at h
  refine g_iinc (v := v2 + 1) (Ln := [(2, .int (v2 + 1)), (0, .ref (E.2.1 0)), (1, .int v1)]) F 2 dX8_plain_50 rfl (add_c (by decide)) (by decide) rfl ?_
  refine g_goto (tgt := 16) F dX8_plain_53 (by decide) ?_
  obtain rfl := Option.some.inj h
  refine g_sub (Ln := [(0, .ref (E.2.1 0)), (1, .int v1), (2, .int (v2 + 1))]) [1, 2, 0] rfl ?_
  exact hl (v1, v2 + 1) rfl
noncomputable def lX8_plain_16 (I : gM) : (Int32 × Int32) → Option (Int32) :=
  itO fun s =>
    if (I 3 0) ≤ s.2 then
      some (.inr s.1)
    else
      (fX5_isUsed 3 s.2 I).bind fun r1 =>
      if r1 = 0 then
        bX8_plain_50 s.1 s.2
      else
        (rI 4 (I 5) s.2).bind fun u2 =>
        bX8_plain_50 (s.1 * u2) s.2
set_option maxRecDepth 100000 in
set_option maxHeartbeats 4000000 in
theorem wlX8_plain_16 {z : gZ} {E : gE} {bk : Nat} (F : Fx z sh E "LeapJoin" cX8_plain (gR 2) 3) (B : bZ z bk) (hE : gDist sh E) (I : gM) (J : gN) {r : Int32} : ∀ s : Int32 × Int32, lX8_plain_16 I s = some r → (G z 56 [(1, .int r)] [] I J) → G z 16 [(0, .ref (E.2.1 0)), (1, .int s.1), (2, .int s.2)] [] I J := by
  intro s h X0
  unfold lX8_plain_16 at h
  revert s
  refine itO_ind (P := fun s : Int32 × Int32 => G z 16 [(0, .ref (E.2.1 0)), (1, .int s.1), (2, .int s.2)] [] I J) (fun s y h hl hr => ?_)
  have K16_0 : ∀ x : Int32, y = .inr x → (G z 56 [(1, .int x)] [] I J) := fun x q => by have q2 := hr _ q; subst q2; exact X0
  refine g_iload_n F 2 dX8_plain_16 rfl rfl ?_
  refine g_aload_n F 0 dX8_plain_17 rfl rfl ?_
  refine g_getr (j := 1) (nn := 3) F s0 rfl rfl uX8 (by decide) q170 dX8_plain_18 ?_
  refine g_geti (j := 0) (v := I 3 0) F shX5_3.1 rfl rfl uX5 (by decide) q49 rfl dX8_plain_21 ?_
  refine u_icmp_ge (tgt := 56) F dX8_plain_24 (by decide) h (fun h => ?_) (fun h => ?_)
  · obtain rfl := Option.some.inj h
    refine g_sub (Ln := [(1, .int s.1)]) [1] rfl ?_
    exact K16_0 s.1 rfl
  · refine g_aload_n F 0 dX8_plain_27 rfl rfl ?_
    refine g_getr (j := 1) (nn := 3) F s0 rfl rfl uX8 (by decide) q170 dX8_plain_28 ?_
    refine g_iload_n F 2 dX8_plain_31 rfl rfl ?_
    refine u_callV (k := 3) (As := [.int s.2]) (rest := []) (sn := fun r1 => [.int r1]) F B (fun _ => wX5_isUsed (zl z) E hE bk 3 s.2 shX5_3 I J) mX5_isUsed q454 rfl shX5_3.1 rfl rfl rfl (Nat.le_of_ble_eq_true rfl) dX8_plain_32 (fun _ => rfl) h (fun r1 h => ?_)
    refine u_if_eq (tgt := 50) F dX8_plain_35 (by decide) h (fun h => ?_) (fun h => ?_)
    · refine g_sub (Ln := [(0, .ref (E.2.1 0)), (1, .int s.1), (2, .int s.2)]) [0, 1, 2] rfl ?_
      exact wbX8_plain_50 F B hE s.1 s.2 I J h hl K16_0
    · refine g_iload_n F 1 dX8_plain_38 rfl rfl ?_
      refine g_aload_n F 0 dX8_plain_39 rfl rfl ?_
      refine g_getr (j := 1) (nn := 3) F s0 rfl rfl uX8 (by decide) q170 dX8_plain_40 ?_
      refine g_getr (j := 4) (nn := 5) F shX5_3.1 rfl rfl uX5 (by decide) q61 dX8_plain_43 ?_
      refine g_iload_n F 2 dX8_plain_46 rfl rfl ?_
      refine u_rI F shX5_3.2.2.1 (by decide) dX8_plain_47 h (fun u2 h => ?_)
      refine g_imul (v := s.1 * u2) F dX8_plain_48 rfl ?_
      refine g_istore_n (Ln := [(1, .int (s.1 * u2)), (0, .ref (E.2.1 0)), (2, .int s.2)]) F dX8_plain_49 rfl (by decide) rfl ?_
      refine g_sub (Ln := [(0, .ref (E.2.1 0)), (1, .int (s.1 * u2)), (2, .int s.2)]) [1, 0, 2] rfl ?_
      exact wbX8_plain_50 F B hE (s.1 * u2) s.2 I J h hl K16_0
noncomputable def fX8_plain (I : gM) : Option (Int32) :=
  if (I 3 0) = 0 then
    some ((-1) : Int32)
  else
    (lX8_plain_16 I ((1 : Int32), (0 : Int32))).bind fun w3 =>
    some w3
set_option maxRecDepth 100000 in
set_option maxHeartbeats 4000000 in
theorem wX8_plain (l : Launch) (E : gE) (hE : gDist sh E) (bk : Nat) (I : gM) (J : gN) {r : Int32} (h : fX8_plain I = some r) : Cu l sh E bk yX8_plain cX8_plain 3 (some .int) (gR 2) [.ref (E.2.1 0)] I J (fun r1 I1 J1 => r1 = some (.int r) ∧ I1 = I ∧ J1 = J) := by
  refine Cu.of "LeapJoin" rfl hE (by decide) (Nat.le_of_ble_eq_true rfl) (fun z F B e hl => ?_)
  subst hl
  unfold fX8_plain at h
  refine g_aload_n F 0 dX8_plain_0 rfl rfl ?_
  refine g_getr (j := 1) (nn := 3) F s0 rfl rfl uX8 (by decide) q170 dX8_plain_1 ?_
  refine g_geti (j := 0) (v := I 3 0) F shX5_3.1 rfl rfl uX5 (by decide) q49 rfl dX8_plain_4 ?_
  refine u_if_ne (tgt := 12) F dX8_plain_7 (by decide) h (fun h => ?_) (fun h => ?_)
  · refine g_iconst (v := (-1)) F dX8_plain_10 (by decide) ?_
    obtain rfl := Option.some.inj h
    exact g_iret F e dX8_plain_11 ⟨rfl, rfl, rfl⟩
  · refine g_iconst (v := 1) F dX8_plain_12 (by decide) ?_
    refine g_istore_n (Ln := [(1, .int 1), (0, .ref (E.2.1 0))]) F dX8_plain_13 rfl (by decide) rfl ?_
    refine g_iconst (v := 0) F dX8_plain_14 (by decide) ?_
    refine g_istore_n (Ln := [(2, .int 0), (1, .int 1), (0, .ref (E.2.1 0))]) F dX8_plain_15 rfl (by decide) rfl ?_
    obtain ⟨w3, ew3, h⟩ := ob h
    refine g_sub (Ln := [(0, .ref (E.2.1 0)), (1, .int 1), (2, .int 0)]) [2, 1, 0] rfl ?_
    refine wlX8_plain_16 F B hE I J _ ew3 ?_
    refine g_iload_n F 0 dX8_plain_56 rfl rfl ?_
    obtain rfl := Option.some.inj h
    exact g_iret F e dX8_plain_57 ⟨rfl, rfl, rfl⟩
theorem DX8_given_0 : dAre cX8_given [(0, .aload_n 0, 1), (1, .getfield 19, 3), (4, .iload_n 1, 1), (5, .invokevirtual 159, 3), (8, .ifCond .eq 22, 3), (11, .aload_n 0, 1), (12, .getfield 42, 3), (15, .aload_n 0, 1), (16, .getfield 32, 3), (19, .aload_n 0, 1), (20, .getfield 19, 3), (23, .iload_n 1, 1), (24, .invokevirtual 212, 3), (27, .goto 4, 3), (30, .iconst (-1), 1), (31, .ireturn, 1)] := dAre0 (by decide +kernel)
theorem dX8_given_0 : decode cX8_given 0 = .ok (.aload_n 0, 1) := DX8_given_0.1
theorem dX8_given_1 : decode cX8_given 1 = .ok (.getfield 19, 3) := DX8_given_0.2.1
theorem dX8_given_4 : decode cX8_given 4 = .ok (.iload_n 1, 1) := DX8_given_0.2.2.1
theorem dX8_given_5 : decode cX8_given 5 = .ok (.invokevirtual 159, 3) := DX8_given_0.2.2.2.1
theorem dX8_given_8 : decode cX8_given 8 = .ok (.ifCond .eq 22, 3) := DX8_given_0.2.2.2.2.1
theorem dX8_given_11 : decode cX8_given 11 = .ok (.aload_n 0, 1) := DX8_given_0.2.2.2.2.2.1
theorem dX8_given_12 : decode cX8_given 12 = .ok (.getfield 42, 3) := DX8_given_0.2.2.2.2.2.2.1
theorem dX8_given_15 : decode cX8_given 15 = .ok (.aload_n 0, 1) := DX8_given_0.2.2.2.2.2.2.2.1
theorem dX8_given_16 : decode cX8_given 16 = .ok (.getfield 32, 3) := DX8_given_0.2.2.2.2.2.2.2.2.1
theorem dX8_given_19 : decode cX8_given 19 = .ok (.aload_n 0, 1) := DX8_given_0.2.2.2.2.2.2.2.2.2.1
theorem dX8_given_20 : decode cX8_given 20 = .ok (.getfield 19, 3) := DX8_given_0.2.2.2.2.2.2.2.2.2.2.1
theorem dX8_given_23 : decode cX8_given 23 = .ok (.iload_n 1, 1) := DX8_given_0.2.2.2.2.2.2.2.2.2.2.2.1
theorem dX8_given_24 : decode cX8_given 24 = .ok (.invokevirtual 212, 3) := DX8_given_0.2.2.2.2.2.2.2.2.2.2.2.2.1
theorem dX8_given_27 : decode cX8_given 27 = .ok (.goto 4, 3) := DX8_given_0.2.2.2.2.2.2.2.2.2.2.2.2.2.1
theorem dX8_given_30 : decode cX8_given 30 = .ok (.iconst (-1), 1) := DX8_given_0.2.2.2.2.2.2.2.2.2.2.2.2.2.2.1
theorem dX8_given_31 : decode cX8_given 31 = .ok (.ireturn, 1) := DX8_given_0.2.2.2.2.2.2.2.2.2.2.2.2.2.2.2.1
theorem mX8_given : gMv yX8_given cX8_given 2 (some .int) RX8 1 := ⟨q456, q457, q1, q458, rfl, by decide, by decide, by decide +kernel⟩
noncomputable def fX8_given (v1 : Int32) (I : gM) : Option (Int32) :=
  (fX5_isTable 3 v1 I).bind fun r1 =>
  if r1 = 0 then
    some ((-1) : Int32)
  else
    (fX0_givenBits 18 3 v1 I).bind fun r2 =>
    some r2
set_option maxRecDepth 100000 in
set_option maxHeartbeats 4000000 in
theorem wX8_given (l : Launch) (E : gE) (hE : gDist sh E) (bk : Nat) (v1 : Int32) (I : gM) (J : gN) {r : Int32} (h : fX8_given v1 I = some r) : Cu l sh E bk yX8_given cX8_given 2 (some .int) (gR 3) [.ref (E.2.1 0), .int v1] I J (fun r1 I1 J1 => r1 = some (.int r) ∧ I1 = I ∧ J1 = J) := by
  refine Cu.of "LeapJoin" rfl hE (by decide) (Nat.le_of_ble_eq_true rfl) (fun z F B e hl => ?_)
  subst hl
  unfold fX8_given at h
  refine g_aload_n F 0 dX8_given_0 rfl rfl ?_
  refine g_getr (j := 1) (nn := 3) F s0 rfl rfl uX8 (by decide) q170 dX8_given_1 ?_
  refine g_iload_n F 1 dX8_given_4 rfl rfl ?_
  refine u_callV (k := 3) (As := [.int v1]) (rest := []) (sn := fun r1 => [.int r1]) F B (fun _ => wX5_isTable (zl z) E hE bk 3 v1 shX5_3 I J) mX5_isTable q412 rfl shX5_3.1 rfl rfl rfl (Nat.le_of_ble_eq_true rfl) dX8_given_5 (fun _ => rfl) h (fun r1 h => ?_)
  refine u_if_eq (tgt := 30) F dX8_given_8 (by decide) h (fun h => ?_) (fun h => ?_)
  · refine g_iconst (v := (-1)) F dX8_given_30 (by decide) ?_
    obtain rfl := Option.some.inj h
    exact g_iret F e dX8_given_31 ⟨rfl, rfl, rfl⟩
  · refine g_aload_n F 0 dX8_given_11 rfl rfl ?_
    refine g_getr (j := 6) (nn := 40) F s0 rfl rfl uX8 (by decide) q175 dX8_given_12 ?_
    refine g_aload_n F 0 dX8_given_15 rfl rfl ?_
    refine g_getr (j := 4) (nn := 18) F s0 rfl rfl uX8 (by decide) q173 dX8_given_16 ?_
    refine g_aload_n F 0 dX8_given_19 rfl rfl ?_
    refine g_getr (j := 1) (nn := 3) F s0 rfl rfl uX8 (by decide) q170 dX8_given_20 ?_
    refine g_iload_n F 1 dX8_given_23 rfl rfl ?_
    refine u_callV (k := 40) (As := [.ref (E.2.1 18), .ref (E.2.1 3), .int v1]) (rest := []) (sn := fun r2 => [.int r2]) F B (fun _ => wX0_givenBits (zl z) E hE bk 18 3 v1 shX1_18 shX5_3 I J) mX0_givenBits q459 rfl s40 rfl rfl rfl (Nat.le_of_ble_eq_true rfl) dX8_given_24 (fun _ => rfl) h (fun r2 h => ?_)
    refine g_goto (tgt := 31) F dX8_given_27 (by decide) ?_
    obtain rfl := Option.some.inj h
    exact g_iret F e dX8_given_31 ⟨rfl, rfl, rfl⟩
theorem DX8_without_0 : dAre cX8_without [(0, .aload_n 0, 1), (1, .getfield 19, 3), (4, .iload_n 1, 1), (5, .invokevirtual 159, 3), (8, .ifCond .ne 5, 3), (11, .iconst (-1), 1), (12, .ireturn, 1), (13, .aload_n 0, 1), (14, .getfield 19, 3), (17, .getfield 150, 3), (20, .iconst 1, 1), (21, .iload_n 1, 1), (22, .ishl, 1), (23, .iconst (-1), 1), (24, .ixor, 1), (25, .iand, 1)] := dAre0 (by decide +kernel)
theorem dX8_without_0 : decode cX8_without 0 = .ok (.aload_n 0, 1) := DX8_without_0.1
theorem dX8_without_1 : decode cX8_without 1 = .ok (.getfield 19, 3) := DX8_without_0.2.1
theorem dX8_without_4 : decode cX8_without 4 = .ok (.iload_n 1, 1) := DX8_without_0.2.2.1
theorem dX8_without_5 : decode cX8_without 5 = .ok (.invokevirtual 159, 3) := DX8_without_0.2.2.2.1
theorem dX8_without_8 : decode cX8_without 8 = .ok (.ifCond .ne 5, 3) := DX8_without_0.2.2.2.2.1
theorem dX8_without_11 : decode cX8_without 11 = .ok (.iconst (-1), 1) := DX8_without_0.2.2.2.2.2.1
theorem dX8_without_12 : decode cX8_without 12 = .ok (.ireturn, 1) := DX8_without_0.2.2.2.2.2.2.1
theorem dX8_without_13 : decode cX8_without 13 = .ok (.aload_n 0, 1) := DX8_without_0.2.2.2.2.2.2.2.1
theorem dX8_without_14 : decode cX8_without 14 = .ok (.getfield 19, 3) := DX8_without_0.2.2.2.2.2.2.2.2.1
theorem dX8_without_17 : decode cX8_without 17 = .ok (.getfield 150, 3) := DX8_without_0.2.2.2.2.2.2.2.2.2.1
theorem dX8_without_20 : decode cX8_without 20 = .ok (.iconst 1, 1) := DX8_without_0.2.2.2.2.2.2.2.2.2.2.1
theorem dX8_without_21 : decode cX8_without 21 = .ok (.iload_n 1, 1) := DX8_without_0.2.2.2.2.2.2.2.2.2.2.2.1
theorem dX8_without_22 : decode cX8_without 22 = .ok (.ishl, 1) := DX8_without_0.2.2.2.2.2.2.2.2.2.2.2.2.1
theorem dX8_without_23 : decode cX8_without 23 = .ok (.iconst (-1), 1) := DX8_without_0.2.2.2.2.2.2.2.2.2.2.2.2.2.1
theorem dX8_without_24 : decode cX8_without 24 = .ok (.ixor, 1) := DX8_without_0.2.2.2.2.2.2.2.2.2.2.2.2.2.2.1
theorem dX8_without_25 : decode cX8_without 25 = .ok (.iand, 1) := DX8_without_0.2.2.2.2.2.2.2.2.2.2.2.2.2.2.2.1
theorem DX8_without_26 : dAre cX8_without [(26, .istore_n 2, 1), (27, .iload_n 2, 1), (28, .ifCond .ne 5, 3), (31, .iconst (-1), 1), (32, .ireturn, 1), (33, .aload_n 0, 1), (34, .getfield 23, 3), (37, .aload_n 0, 1), (38, .getfield 19, 3), (41, .invokevirtual 123, 3), (44, .aload_n 0, 1), (45, .getfield 23, 3), (48, .iload_n 2, 1), (49, .putfield 150, 3), (52, .aload_n 0, 1), (53, .getfield 36, 3)] := dAre0 (by decide +kernel)
theorem dX8_without_26 : decode cX8_without 26 = .ok (.istore_n 2, 1) := DX8_without_26.1
theorem dX8_without_27 : decode cX8_without 27 = .ok (.iload_n 2, 1) := DX8_without_26.2.1
theorem dX8_without_28 : decode cX8_without 28 = .ok (.ifCond .ne 5, 3) := DX8_without_26.2.2.1
theorem dX8_without_31 : decode cX8_without 31 = .ok (.iconst (-1), 1) := DX8_without_26.2.2.2.1
theorem dX8_without_32 : decode cX8_without 32 = .ok (.ireturn, 1) := DX8_without_26.2.2.2.2.1
theorem dX8_without_33 : decode cX8_without 33 = .ok (.aload_n 0, 1) := DX8_without_26.2.2.2.2.2.1
theorem dX8_without_34 : decode cX8_without 34 = .ok (.getfield 23, 3) := DX8_without_26.2.2.2.2.2.2.1
theorem dX8_without_37 : decode cX8_without 37 = .ok (.aload_n 0, 1) := DX8_without_26.2.2.2.2.2.2.2.1
theorem dX8_without_38 : decode cX8_without 38 = .ok (.getfield 19, 3) := DX8_without_26.2.2.2.2.2.2.2.2.1
theorem dX8_without_41 : decode cX8_without 41 = .ok (.invokevirtual 123, 3) := DX8_without_26.2.2.2.2.2.2.2.2.2.1
theorem dX8_without_44 : decode cX8_without 44 = .ok (.aload_n 0, 1) := DX8_without_26.2.2.2.2.2.2.2.2.2.2.1
theorem dX8_without_45 : decode cX8_without 45 = .ok (.getfield 23, 3) := DX8_without_26.2.2.2.2.2.2.2.2.2.2.2.1
theorem dX8_without_48 : decode cX8_without 48 = .ok (.iload_n 2, 1) := DX8_without_26.2.2.2.2.2.2.2.2.2.2.2.2.1
theorem dX8_without_49 : decode cX8_without 49 = .ok (.putfield 150, 3) := DX8_without_26.2.2.2.2.2.2.2.2.2.2.2.2.2.1
theorem dX8_without_52 : decode cX8_without 52 = .ok (.aload_n 0, 1) := DX8_without_26.2.2.2.2.2.2.2.2.2.2.2.2.2.2.1
theorem dX8_without_53 : decode cX8_without 53 = .ok (.getfield 36, 3) := DX8_without_26.2.2.2.2.2.2.2.2.2.2.2.2.2.2.2.1
theorem DX8_without_56 : dAre cX8_without [(56, .aload_n 0, 1), (57, .getfield 23, 3), (60, .aload_n 0, 1), (61, .getfield 23, 3), (64, .getfield 140, 3), (67, .invokevirtual 143, 3), (70, .aload_n 0, 1), (71, .getfield 36, 3), (74, .getfield 186, 3), (77, .ireturn, 1)] := dAre0 (by decide +kernel)
theorem dX8_without_56 : decode cX8_without 56 = .ok (.aload_n 0, 1) := DX8_without_56.1
theorem dX8_without_57 : decode cX8_without 57 = .ok (.getfield 23, 3) := DX8_without_56.2.1
theorem dX8_without_60 : decode cX8_without 60 = .ok (.aload_n 0, 1) := DX8_without_56.2.2.1
theorem dX8_without_61 : decode cX8_without 61 = .ok (.getfield 23, 3) := DX8_without_56.2.2.2.1
theorem dX8_without_64 : decode cX8_without 64 = .ok (.getfield 140, 3) := DX8_without_56.2.2.2.2.1
theorem dX8_without_67 : decode cX8_without 67 = .ok (.invokevirtual 143, 3) := DX8_without_56.2.2.2.2.2.1
theorem dX8_without_70 : decode cX8_without 70 = .ok (.aload_n 0, 1) := DX8_without_56.2.2.2.2.2.2.1
theorem dX8_without_71 : decode cX8_without 71 = .ok (.getfield 36, 3) := DX8_without_56.2.2.2.2.2.2.2.1
theorem dX8_without_74 : decode cX8_without 74 = .ok (.getfield 186, 3) := DX8_without_56.2.2.2.2.2.2.2.2.1
theorem dX8_without_77 : decode cX8_without 77 = .ok (.ireturn, 1) := DX8_without_56.2.2.2.2.2.2.2.2.2.1
theorem mX8_without : gMv yX8_without cX8_without 3 (some .int) RX8 1 := ⟨q471, q472, q1, q473, rfl, by decide, by decide, by decide +kernel⟩
noncomputable def fX8_without (v1 : Int32) (I : gM) : Option (Int32 × gM) :=
  (fX5_isTable 3 v1 I).bind fun r1 =>
  if r1 = 0 then
    some (((-1) : Int32), I)
  else
    if ((I 3 1) &&& (((1 : Int32) <<< (v1 &&& 31)) ^^^ (-1))) = 0 then
      some (((-1) : Int32), I)
    else
      (fX5_copyFrom 8 3 I).bind fun r2 =>
      (pU r2 8 1 ((I 3 1) &&& (((1 : Int32) <<< (v1 &&& 31)) ^^^ (-1)))).bind fun I3 =>
      (fX1_findBy 29 8 (I3 8 2) I3).bind fun r4 =>
      some (r4 29 0, r4)
set_option maxRecDepth 100000 in
set_option maxHeartbeats 4000000 in
theorem wX8_without (l : Launch) (E : gE) (hE : gDist sh E) (bk : Nat) (v1 : Int32) (I : gM) (J : gN) {r : Int32 × gM} (h : fX8_without v1 I = some r) : Cu l sh E bk yX8_without cX8_without 3 (some .int) (gR 16) [.ref (E.2.1 0), .int v1] I J (fun r1 I1 J1 => r1 = some (.int r.1) ∧ I1 = r.2 ∧ J1 = J) := by
  refine Cu.of "LeapJoin" rfl hE (by decide) (Nat.le_of_ble_eq_true rfl) (fun z F B e hl => ?_)
  subst hl
  unfold fX8_without at h
  refine g_aload_n F 0 dX8_without_0 rfl rfl ?_
  refine g_getr (j := 1) (nn := 3) F s0 rfl rfl uX8 (by decide) q170 dX8_without_1 ?_
  refine g_iload_n F 1 dX8_without_4 rfl rfl ?_
  refine u_callV (k := 3) (As := [.int v1]) (rest := []) (sn := fun r1 => [.int r1]) F B (fun _ => wX5_isTable (zl z) E hE bk 3 v1 shX5_3 I J) mX5_isTable q412 rfl shX5_3.1 rfl rfl rfl (Nat.le_of_ble_eq_true rfl) dX8_without_5 (fun _ => rfl) h (fun r1 h => ?_)
  refine u_if_ne (tgt := 13) F dX8_without_8 (by decide) h (fun h => ?_) (fun h => ?_)
  · refine g_iconst (v := (-1)) F dX8_without_11 (by decide) ?_
    obtain rfl := Option.some.inj h
    exact g_iret F e dX8_without_12 ⟨rfl, rfl, rfl⟩
  · refine g_aload_n F 0 dX8_without_13 rfl rfl ?_
    refine g_getr (j := 1) (nn := 3) F s0 rfl rfl uX8 (by decide) q170 dX8_without_14 ?_
    refine g_geti (j := 1) (v := I 3 1) F shX5_3.1 rfl rfl uX5 (by decide) q52 rfl dX8_without_17 ?_
    refine g_iconst (v := 1) F dX8_without_20 (by decide) ?_
    refine g_iload_n F 1 dX8_without_21 rfl rfl ?_
    refine g_ishl (v := (1 : Int32) <<< (v1 &&& 31)) F dX8_without_22 rfl ?_
    refine g_iconst (v := (-1)) F dX8_without_23 (by decide) ?_
    refine g_ixor (v := ((1 : Int32) <<< (v1 &&& 31)) ^^^ (-1)) F dX8_without_24 rfl ?_
    refine g_iand (v := (I 3 1) &&& (((1 : Int32) <<< (v1 &&& 31)) ^^^ (-1))) F dX8_without_25 rfl ?_
    refine g_istore_n (Ln := [(2, .int ((I 3 1) &&& (((1 : Int32) <<< (v1 &&& 31)) ^^^ (-1)))), (0, .ref (E.2.1 0)), (1, .int v1)]) F dX8_without_26 rfl (by decide) rfl ?_
    refine g_iload_n F 0 dX8_without_27 rfl rfl ?_
    refine u_if_ne (tgt := 33) F dX8_without_28 (by decide) h (fun h => ?_) (fun h => ?_)
    · refine g_iconst (v := (-1)) F dX8_without_31 (by decide) ?_
      obtain rfl := Option.some.inj h
      exact g_iret F e dX8_without_32 ⟨rfl, rfl, rfl⟩
    · refine g_aload_n F 1 dX8_without_33 rfl rfl ?_
      refine g_getr (j := 2) (nn := 8) F s0 rfl rfl uX8 (by decide) q171 dX8_without_34 ?_
      refine g_aload_n F 1 dX8_without_37 rfl rfl ?_
      refine g_getr (j := 1) (nn := 3) F s0 rfl rfl uX8 (by decide) q170 dX8_without_38 ?_
      refine u_callV (k := 8) (As := [.ref (E.2.1 3)]) (rest := []) (sn := fun _ => []) F B (fun _ => wX5_copyFrom (zl z) E hE bk 8 3 shX5_8 shX5_3 I J) mX5_copyFrom q314 rfl shX5_8.1 rfl rfl rfl (Nat.le_of_ble_eq_true rfl) dX8_without_41 (fun _ => rfl) h (fun r2 h => ?_)
      refine g_aload_n F 1 dX8_without_44 rfl rfl ?_
      refine g_getr (j := 2) (nn := 8) F s0 rfl rfl uX8 (by decide) q171 dX8_without_45 ?_
      refine g_iload_n F 0 dX8_without_48 rfl rfl ?_
      refine u_puti (j := 1) F shX5_8.1 rfl rfl uX5 (by decide) q52 tyX5_ok nmX5 rfl rfl rfl dX8_without_49 h (fun I3 h => ?_)
      refine g_aload_n F 1 dX8_without_52 rfl rfl ?_
      refine g_getr (j := 5) (nn := 29) F s0 rfl rfl uX8 (by decide) q174 dX8_without_53 ?_
      refine g_aload_n F 1 dX8_without_56 rfl rfl ?_
      refine g_getr (j := 2) (nn := 8) F s0 rfl rfl uX8 (by decide) q171 dX8_without_57 ?_
      refine g_aload_n F 1 dX8_without_60 rfl rfl ?_
      refine g_getr (j := 2) (nn := 8) F s0 rfl rfl uX8 (by decide) q171 dX8_without_61 ?_
      refine g_geti (j := 2) (v := I3 8 2) F shX5_8.1 rfl rfl uX5 (by decide) q54 rfl dX8_without_64 ?_
      refine u_callV (k := 29) (As := [.ref (E.2.1 8), .int (I3 8 2)]) (rest := []) (sn := fun _ => []) F B (fun _ => wX1_findBy (zl z) E hE bk 29 8 (I3 8 2) shX1_29 shX5_8 I3 J) mX1_findBy q331 rfl shX1_29.1 rfl rfl rfl (Nat.le_of_ble_eq_true rfl) dX8_without_67 (fun _ => rfl) h (fun r4 h => ?_)
      refine g_aload_n F 1 dX8_without_70 rfl rfl ?_
      refine g_getr (j := 5) (nn := 29) F s0 rfl rfl uX8 (by decide) q174 dX8_without_71 ?_
      refine g_geti (j := 0) (v := r4 29 0) F shX1_29.1 rfl rfl uX1 (by decide) q79 rfl dX8_without_74 ?_
      obtain rfl := Option.some.inj h
      exact g_iret F e dX8_without_77 ⟨rfl, rfl, rfl⟩
theorem DX8_projected_0 : dAre cX8_projected [(0, .aload_n 0, 1), (1, .getfield 19, 3), (4, .getfield 134, 3), (7, .ifCond .eq 28, 3), (10, .iload_n 1, 1), (11, .iconst 1, 1), (12, .if_icmp .lt 23, 3), (15, .iload_n 1, 1), (16, .bipush 15, 2), (18, .if_icmp .gt 17, 3), (21, .iload_n 1, 1), (22, .aload_n 0, 1), (23, .getfield 19, 3), (26, .invokevirtual 153, 3), (29, .iconst (-1), 1), (30, .ixor, 1)] := dAre0 (by decide +kernel)
theorem dX8_projected_0 : decode cX8_projected 0 = .ok (.aload_n 0, 1) := DX8_projected_0.1
theorem dX8_projected_1 : decode cX8_projected 1 = .ok (.getfield 19, 3) := DX8_projected_0.2.1
theorem dX8_projected_4 : decode cX8_projected 4 = .ok (.getfield 134, 3) := DX8_projected_0.2.2.1
theorem dX8_projected_7 : decode cX8_projected 7 = .ok (.ifCond .eq 28, 3) := DX8_projected_0.2.2.2.1
theorem dX8_projected_10 : decode cX8_projected 10 = .ok (.iload_n 1, 1) := DX8_projected_0.2.2.2.2.1
theorem dX8_projected_11 : decode cX8_projected 11 = .ok (.iconst 1, 1) := DX8_projected_0.2.2.2.2.2.1
theorem dX8_projected_12 : decode cX8_projected 12 = .ok (.if_icmp .lt 23, 3) := DX8_projected_0.2.2.2.2.2.2.1
theorem dX8_projected_15 : decode cX8_projected 15 = .ok (.iload_n 1, 1) := DX8_projected_0.2.2.2.2.2.2.2.1
theorem dX8_projected_16 : decode cX8_projected 16 = .ok (.bipush 15, 2) := DX8_projected_0.2.2.2.2.2.2.2.2.1
theorem dX8_projected_18 : decode cX8_projected 18 = .ok (.if_icmp .gt 17, 3) := DX8_projected_0.2.2.2.2.2.2.2.2.2.1
theorem dX8_projected_21 : decode cX8_projected 21 = .ok (.iload_n 1, 1) := DX8_projected_0.2.2.2.2.2.2.2.2.2.2.1
theorem dX8_projected_22 : decode cX8_projected 22 = .ok (.aload_n 0, 1) := DX8_projected_0.2.2.2.2.2.2.2.2.2.2.2.1
theorem dX8_projected_23 : decode cX8_projected 23 = .ok (.getfield 19, 3) := DX8_projected_0.2.2.2.2.2.2.2.2.2.2.2.2.1
theorem dX8_projected_26 : decode cX8_projected 26 = .ok (.invokevirtual 153, 3) := DX8_projected_0.2.2.2.2.2.2.2.2.2.2.2.2.2.1
theorem dX8_projected_29 : decode cX8_projected 29 = .ok (.iconst (-1), 1) := DX8_projected_0.2.2.2.2.2.2.2.2.2.2.2.2.2.2.1
theorem dX8_projected_30 : decode cX8_projected 30 = .ok (.ixor, 1) := DX8_projected_0.2.2.2.2.2.2.2.2.2.2.2.2.2.2.2.1
theorem DX8_projected_31 : dAre cX8_projected [(31, .iand, 1), (32, .ifCond .eq 5, 3), (35, .iconst (-1), 1), (36, .ireturn, 1), (37, .aload_n 0, 1), (38, .getfield 36, 3), (41, .aload_n 0, 1), (42, .getfield 19, 3), (45, .iload_n 1, 1), (46, .invokevirtual 216, 3), (49, .aload_n 0, 1), (50, .getfield 42, 3), (53, .aload_n 0, 1), (54, .getfield 36, 3), (57, .iload_n 1, 1), (58, .invokevirtual 219, 3)] := dAre0 (by decide +kernel)
theorem dX8_projected_31 : decode cX8_projected 31 = .ok (.iand, 1) := DX8_projected_31.1
theorem dX8_projected_32 : decode cX8_projected 32 = .ok (.ifCond .eq 5, 3) := DX8_projected_31.2.1
theorem dX8_projected_35 : decode cX8_projected 35 = .ok (.iconst (-1), 1) := DX8_projected_31.2.2.1
theorem dX8_projected_36 : decode cX8_projected 36 = .ok (.ireturn, 1) := DX8_projected_31.2.2.2.1
theorem dX8_projected_37 : decode cX8_projected 37 = .ok (.aload_n 0, 1) := DX8_projected_31.2.2.2.2.1
theorem dX8_projected_38 : decode cX8_projected 38 = .ok (.getfield 36, 3) := DX8_projected_31.2.2.2.2.2.1
theorem dX8_projected_41 : decode cX8_projected 41 = .ok (.aload_n 0, 1) := DX8_projected_31.2.2.2.2.2.2.1
theorem dX8_projected_42 : decode cX8_projected 42 = .ok (.getfield 19, 3) := DX8_projected_31.2.2.2.2.2.2.2.1
theorem dX8_projected_45 : decode cX8_projected 45 = .ok (.iload_n 1, 1) := DX8_projected_31.2.2.2.2.2.2.2.2.1
theorem dX8_projected_46 : decode cX8_projected 46 = .ok (.invokevirtual 216, 3) := DX8_projected_31.2.2.2.2.2.2.2.2.2.1
theorem dX8_projected_49 : decode cX8_projected 49 = .ok (.aload_n 0, 1) := DX8_projected_31.2.2.2.2.2.2.2.2.2.2.1
theorem dX8_projected_50 : decode cX8_projected 50 = .ok (.getfield 42, 3) := DX8_projected_31.2.2.2.2.2.2.2.2.2.2.2.1
theorem dX8_projected_53 : decode cX8_projected 53 = .ok (.aload_n 0, 1) := DX8_projected_31.2.2.2.2.2.2.2.2.2.2.2.2.1
theorem dX8_projected_54 : decode cX8_projected 54 = .ok (.getfield 36, 3) := DX8_projected_31.2.2.2.2.2.2.2.2.2.2.2.2.2.1
theorem dX8_projected_57 : decode cX8_projected 57 = .ok (.iload_n 1, 1) := DX8_projected_31.2.2.2.2.2.2.2.2.2.2.2.2.2.2.1
theorem dX8_projected_58 : decode cX8_projected 58 = .ok (.invokevirtual 219, 3) := DX8_projected_31.2.2.2.2.2.2.2.2.2.2.2.2.2.2.2.1
theorem dX8_projected_61 : decode cX8_projected 61 = .ok (.ireturn, 1) := by decide +kernel
theorem mX8_projected : gMv yX8_projected cX8_projected 2 (some .int) RX8 1 := ⟨q475, q476, q1, q477, rfl, by decide, by decide, by decide +kernel⟩
noncomputable def fX8_projected (v1 : Int32) (I : gM) : Option (Int32 × gM) :=
  if (I 3 0) = 0 then
    some (((-1) : Int32), I)
  else
    if v1 < 1 then
      some (((-1) : Int32), I)
    else
      if (15 : Int32) < v1 then
        some (((-1) : Int32), I)
      else
        (fX5_asked 3 I).bind fun r1 =>
        if (v1 &&& (r1 ^^^ (-1))) = 0 then
          (fX1_findLeading 29 3 v1 I).bind fun r2 =>
          (fX0_unlike 29 v1 r2).bind fun r3 =>
          some (r3, r2)
        else
          some (((-1) : Int32), I)
set_option maxRecDepth 100000 in
set_option maxHeartbeats 4000000 in
theorem wX8_projected (l : Launch) (E : gE) (hE : gDist sh E) (bk : Nat) (v1 : Int32) (I : gM) (J : gN) {r : Int32 × gM} (h : fX8_projected v1 I = some r) : Cu l sh E bk yX8_projected cX8_projected 2 (some .int) (gR 16) [.ref (E.2.1 0), .int v1] I J (fun r1 I1 J1 => r1 = some (.int r.1) ∧ I1 = r.2 ∧ J1 = J) := by
  refine Cu.of "LeapJoin" rfl hE (by decide) (Nat.le_of_ble_eq_true rfl) (fun z F B e hl => ?_)
  subst hl
  unfold fX8_projected at h
  refine g_aload_n F 0 dX8_projected_0 rfl rfl ?_
  refine g_getr (j := 1) (nn := 3) F s0 rfl rfl uX8 (by decide) q170 dX8_projected_1 ?_
  refine g_geti (j := 0) (v := I 3 0) F shX5_3.1 rfl rfl uX5 (by decide) q49 rfl dX8_projected_4 ?_
  refine u_if_eq (tgt := 35) F dX8_projected_7 (by decide) h (fun h => ?_) (fun h => ?_)
  · refine g_iconst (v := (-1)) F dX8_projected_35 (by decide) ?_
    obtain rfl := Option.some.inj h
    exact g_iret F e dX8_projected_36 ⟨rfl, rfl, rfl⟩
  · refine g_iload_n F 1 dX8_projected_10 rfl rfl ?_
    refine g_iconst (v := 1) F dX8_projected_11 (by decide) ?_
    refine u_icmp_lt (tgt := 35) F dX8_projected_12 (by decide) h (fun h => ?_) (fun h => ?_)
    · refine g_iconst (v := (-1)) F dX8_projected_35 (by decide) ?_
      obtain rfl := Option.some.inj h
      exact g_iret F e dX8_projected_36 ⟨rfl, rfl, rfl⟩
    · refine g_iload_n F 1 dX8_projected_15 rfl rfl ?_
      refine g_bipush (v := 15) F dX8_projected_16 (by decide) ?_
      refine u_icmp_gt (tgt := 35) F dX8_projected_18 (by decide) h (fun h => ?_) (fun h => ?_)
      · refine g_iconst (v := (-1)) F dX8_projected_35 (by decide) ?_
        obtain rfl := Option.some.inj h
        exact g_iret F e dX8_projected_36 ⟨rfl, rfl, rfl⟩
      · refine g_iload_n F 1 dX8_projected_21 rfl rfl ?_
        refine g_aload_n F 0 dX8_projected_22 rfl rfl ?_
        refine g_getr (j := 1) (nn := 3) F s0 rfl rfl uX8 (by decide) q170 dX8_projected_23 ?_
        refine u_callV (k := 3) (As := []) (rest := [.int v1]) (sn := fun r1 => [.int r1, .int v1]) F B (fun _ => wX5_asked (zl z) E hE bk 3 shX5_3 I J) mX5_asked q403 rfl shX5_3.1 rfl rfl rfl (Nat.le_of_ble_eq_true rfl) dX8_projected_26 (fun _ => rfl) h (fun r1 h => ?_)
        refine g_iconst (v := (-1)) F dX8_projected_29 (by decide) ?_
        refine g_ixor (v := r1 ^^^ (-1)) F dX8_projected_30 rfl ?_
        refine g_iand (v := v1 &&& (r1 ^^^ (-1))) F dX8_projected_31 rfl ?_
        refine u_if_eq (tgt := 37) F dX8_projected_32 (by decide) h (fun h => ?_) (fun h => ?_)
        · refine g_aload_n F 0 dX8_projected_37 rfl rfl ?_
          refine g_getr (j := 5) (nn := 29) F s0 rfl rfl uX8 (by decide) q174 dX8_projected_38 ?_
          refine g_aload_n F 0 dX8_projected_41 rfl rfl ?_
          refine g_getr (j := 1) (nn := 3) F s0 rfl rfl uX8 (by decide) q170 dX8_projected_42 ?_
          refine g_iload_n F 1 dX8_projected_45 rfl rfl ?_
          refine u_callV (k := 29) (As := [.ref (E.2.1 3), .int v1]) (rest := []) (sn := fun _ => []) F B (fun _ => wX1_findLeading (zl z) E hE bk 29 3 v1 shX1_29 shX5_3 I J) mX1_findLeading q478 rfl shX1_29.1 rfl rfl rfl (Nat.le_of_ble_eq_true rfl) dX8_projected_46 (fun _ => rfl) h (fun r2 h => ?_)
          refine g_aload_n F 0 dX8_projected_49 rfl rfl ?_
          refine g_getr (j := 6) (nn := 40) F s0 rfl rfl uX8 (by decide) q175 dX8_projected_50 ?_
          refine g_aload_n F 0 dX8_projected_53 rfl rfl ?_
          refine g_getr (j := 5) (nn := 29) F s0 rfl rfl uX8 (by decide) q174 dX8_projected_54 ?_
          refine g_iload_n F 1 dX8_projected_57 rfl rfl ?_
          refine u_callV (k := 40) (As := [.ref (E.2.1 29), .int v1]) (rest := []) (sn := fun r3 => [.int r3]) F B (fun _ => wX0_unlike (zl z) E hE bk 29 v1 shX1_29 r2 J) mX0_unlike q482 rfl s40 rfl rfl rfl (Nat.le_of_ble_eq_true rfl) dX8_projected_58 (fun _ => rfl) h (fun r3 h => ?_)
          obtain rfl := Option.some.inj h
          exact g_iret F e dX8_projected_61 ⟨rfl, rfl, rfl⟩
        · refine g_iconst (v := (-1)) F dX8_projected_35 (by decide) ?_
          obtain rfl := Option.some.inj h
          exact g_iret F e dX8_projected_36 ⟨rfl, rfl, rfl⟩
theorem DX8_times_0 : dAre cX8_times [(0, .aload_n 0, 1), (1, .iload_n 1, 1), (2, .invokevirtual 187, 3), (5, .ifCond .ne 5, 3), (8, .iconst (-1), 1), (9, .ireturn, 1), (10, .iload_n 2, 1), (11, .ifCond .lt 9, 3), (14, .iload_n 2, 1), (15, .bipush 100, 2), (17, .if_icmp .lt 5, 3), (20, .iconst 0, 1), (21, .ireturn, 1), (22, .aload_n 0, 1), (23, .getfield 42, 3), (26, .aload_n 0, 1)] := dAre0 (by decide +kernel)
theorem dX8_times_0 : decode cX8_times 0 = .ok (.aload_n 0, 1) := DX8_times_0.1
theorem dX8_times_1 : decode cX8_times 1 = .ok (.iload_n 1, 1) := DX8_times_0.2.1
theorem dX8_times_2 : decode cX8_times 2 = .ok (.invokevirtual 187, 3) := DX8_times_0.2.2.1
theorem dX8_times_5 : decode cX8_times 5 = .ok (.ifCond .ne 5, 3) := DX8_times_0.2.2.2.1
theorem dX8_times_8 : decode cX8_times 8 = .ok (.iconst (-1), 1) := DX8_times_0.2.2.2.2.1
theorem dX8_times_9 : decode cX8_times 9 = .ok (.ireturn, 1) := DX8_times_0.2.2.2.2.2.1
theorem dX8_times_10 : decode cX8_times 10 = .ok (.iload_n 2, 1) := DX8_times_0.2.2.2.2.2.2.1
theorem dX8_times_11 : decode cX8_times 11 = .ok (.ifCond .lt 9, 3) := DX8_times_0.2.2.2.2.2.2.2.1
theorem dX8_times_14 : decode cX8_times 14 = .ok (.iload_n 2, 1) := DX8_times_0.2.2.2.2.2.2.2.2.1
theorem dX8_times_15 : decode cX8_times 15 = .ok (.bipush 100, 2) := DX8_times_0.2.2.2.2.2.2.2.2.2.1
theorem dX8_times_17 : decode cX8_times 17 = .ok (.if_icmp .lt 5, 3) := DX8_times_0.2.2.2.2.2.2.2.2.2.2.1
theorem dX8_times_20 : decode cX8_times 20 = .ok (.iconst 0, 1) := DX8_times_0.2.2.2.2.2.2.2.2.2.2.2.1
theorem dX8_times_21 : decode cX8_times 21 = .ok (.ireturn, 1) := DX8_times_0.2.2.2.2.2.2.2.2.2.2.2.2.1
theorem dX8_times_22 : decode cX8_times 22 = .ok (.aload_n 0, 1) := DX8_times_0.2.2.2.2.2.2.2.2.2.2.2.2.2.1
theorem dX8_times_23 : decode cX8_times 23 = .ok (.getfield 42, 3) := DX8_times_0.2.2.2.2.2.2.2.2.2.2.2.2.2.2.1
theorem dX8_times_26 : decode cX8_times 26 = .ok (.aload_n 0, 1) := DX8_times_0.2.2.2.2.2.2.2.2.2.2.2.2.2.2.2.1
theorem DX8_times_27 : dAre cX8_times [(27, .getfield 32, 3), (30, .iload_n 1, 1), (31, .invokevirtual 223, 3), (34, .aload_n 0, 1), (35, .getfield 42, 3), (38, .getfield 227, 3), (41, .iload_n 2, 1), (42, .iaload, 1), (43, .ireturn, 1)] := dAre0 (by decide +kernel)
theorem dX8_times_27 : decode cX8_times 27 = .ok (.getfield 32, 3) := DX8_times_27.1
theorem dX8_times_30 : decode cX8_times 30 = .ok (.iload_n 1, 1) := DX8_times_27.2.1
theorem dX8_times_31 : decode cX8_times 31 = .ok (.invokevirtual 223, 3) := DX8_times_27.2.2.1
theorem dX8_times_34 : decode cX8_times 34 = .ok (.aload_n 0, 1) := DX8_times_27.2.2.2.1
theorem dX8_times_35 : decode cX8_times 35 = .ok (.getfield 42, 3) := DX8_times_27.2.2.2.2.1
theorem dX8_times_38 : decode cX8_times 38 = .ok (.getfield 227, 3) := DX8_times_27.2.2.2.2.2.1
theorem dX8_times_41 : decode cX8_times 41 = .ok (.iload_n 2, 1) := DX8_times_27.2.2.2.2.2.2.1
theorem dX8_times_42 : decode cX8_times 42 = .ok (.iaload, 1) := DX8_times_27.2.2.2.2.2.2.2.1
theorem dX8_times_43 : decode cX8_times 43 = .ok (.ireturn, 1) := DX8_times_27.2.2.2.2.2.2.2.2.1
theorem mX8_times : gMv yX8_times cX8_times 3 (some .int) RX8 2 := ⟨q487, q488, q1, q489, rfl, by decide, by decide, by decide +kernel⟩
noncomputable def fX8_times (v1 : Int32) (v2 : Int32) (I : gM) : Option (Int32 × gM) :=
  (fX8_isAsked v1 I).bind fun r1 =>
  if r1 = 0 then
    some (((-1) : Int32), I)
  else
    if v2 < 0 then
      some ((0 : Int32), I)
    else
      if v2 < 100 then
        (fX0_tallyUp 18 v1 I).bind fun r2 =>
        (rI 100 (r2 41) v2).bind fun u3 =>
        some (u3, r2)
      else
        some ((0 : Int32), I)
set_option maxRecDepth 100000 in
set_option maxHeartbeats 4000000 in
theorem wX8_times (l : Launch) (E : gE) (hE : gDist sh E) (bk : Nat) (v1 : Int32) (v2 : Int32) (I : gM) (J : gN) {r : Int32 × gM} (h : fX8_times v1 v2 I = some r) : Cu l sh E bk yX8_times cX8_times 3 (some .int) (gR 4) [.ref (E.2.1 0), .int v1, .int v2] I J (fun r1 I1 J1 => r1 = some (.int r.1) ∧ I1 = r.2 ∧ J1 = J) := by
  refine Cu.of "LeapJoin" rfl hE (by decide) (Nat.le_of_ble_eq_true rfl) (fun z F B e hl => ?_)
  subst hl
  unfold fX8_times at h
  refine g_aload_n F 0 dX8_times_0 rfl rfl ?_
  refine g_iload_n F 1 dX8_times_1 rfl rfl ?_
  refine u_callV (k := 0) (As := [.int v1]) (rest := []) (sn := fun r1 => [.int r1]) F B (fun _ => wX8_isAsked (zl z) E hE bk v1 I J) mX8_isAsked q422 rfl s0 rfl rfl rfl (Nat.le_of_ble_eq_true rfl) dX8_times_2 (fun _ => rfl) h (fun r1 h => ?_)
  refine u_if_ne (tgt := 10) F dX8_times_5 (by decide) h (fun h => ?_) (fun h => ?_)
  · refine g_iconst (v := (-1)) F dX8_times_8 (by decide) ?_
    obtain rfl := Option.some.inj h
    exact g_iret F e dX8_times_9 ⟨rfl, rfl, rfl⟩
  · refine g_iload_n F 2 dX8_times_10 rfl rfl ?_
    refine u_if_lt (tgt := 20) F dX8_times_11 (by decide) h (fun h => ?_) (fun h => ?_)
    · refine g_iconst (v := 0) F dX8_times_20 (by decide) ?_
      obtain rfl := Option.some.inj h
      exact g_iret F e dX8_times_21 ⟨rfl, rfl, rfl⟩
    · refine g_iload_n F 2 dX8_times_14 rfl rfl ?_
      refine g_bipush (v := 100) F dX8_times_15 (by decide) ?_
      refine u_icmp_lt (tgt := 22) F dX8_times_17 (by decide) h (fun h => ?_) (fun h => ?_)
      · refine g_aload_n F 0 dX8_times_22 rfl rfl ?_
        refine g_getr (j := 6) (nn := 40) F s0 rfl rfl uX8 (by decide) q175 dX8_times_23 ?_
        refine g_aload_n F 0 dX8_times_26 rfl rfl ?_
        refine g_getr (j := 4) (nn := 18) F s0 rfl rfl uX8 (by decide) q173 dX8_times_27 ?_
        refine g_iload_n F 1 dX8_times_30 rfl rfl ?_
        refine u_callV (k := 40) (As := [.ref (E.2.1 18), .int v1]) (rest := []) (sn := fun _ => []) F B (fun _ => wX0_tallyUp (zl z) E hE bk 18 v1 shX1_18 I J) mX0_tallyUp q490 rfl s40 rfl rfl rfl (Nat.le_of_ble_eq_true rfl) dX8_times_31 (fun _ => rfl) h (fun r2 h => ?_)
        refine g_aload_n F 0 dX8_times_34 rfl rfl ?_
        refine g_getr (j := 6) (nn := 40) F s0 rfl rfl uX8 (by decide) q175 dX8_times_35 ?_
        refine g_getr (j := 0) (nn := 41) F s40 rfl rfl uX0 (by decide) q115 dX8_times_38 ?_
        refine g_iload_n F 2 dX8_times_41 rfl rfl ?_
        refine u_rI F s41 (by decide) dX8_times_42 h (fun u3 h => ?_)
        obtain rfl := Option.some.inj h
        exact g_iret F e dX8_times_43 ⟨rfl, rfl, rfl⟩
      · refine g_iconst (v := 0) F dX8_times_20 (by decide) ?_
        obtain rfl := Option.some.inj h
        exact g_iret F e dX8_times_21 ⟨rfl, rfl, rfl⟩
theorem dX8_distinct_32 : decode cX8_distinct 32 = .ok (.tableswitch 52 0 2 #[28, 36, 44], 28) := by decide +kernel
theorem DX8_distinct_0 : dAre cX8_distinct [(0, .aload_n 0, 1), (1, .iload_n 1, 1), (2, .invokevirtual 187, 3), (5, .ifCond .eq 12, 3), (8, .iload_n 2, 1), (9, .ifCond .lt 8, 3), (12, .iload_n 2, 1), (13, .iconst 3, 1), (14, .if_icmp .le 5, 3), (17, .iconst (-1), 1), (18, .ireturn, 1), (19, .aload_n 0, 1), (20, .getfield 42, 3), (23, .aload_n 0, 1), (24, .getfield 32, 3), (27, .iload_n 1, 1)] := dAre0 (by decide +kernel)
theorem dX8_distinct_0 : decode cX8_distinct 0 = .ok (.aload_n 0, 1) := DX8_distinct_0.1
theorem dX8_distinct_1 : decode cX8_distinct 1 = .ok (.iload_n 1, 1) := DX8_distinct_0.2.1
theorem dX8_distinct_2 : decode cX8_distinct 2 = .ok (.invokevirtual 187, 3) := DX8_distinct_0.2.2.1
theorem dX8_distinct_5 : decode cX8_distinct 5 = .ok (.ifCond .eq 12, 3) := DX8_distinct_0.2.2.2.1
theorem dX8_distinct_8 : decode cX8_distinct 8 = .ok (.iload_n 2, 1) := DX8_distinct_0.2.2.2.2.1
theorem dX8_distinct_9 : decode cX8_distinct 9 = .ok (.ifCond .lt 8, 3) := DX8_distinct_0.2.2.2.2.2.1
theorem dX8_distinct_12 : decode cX8_distinct 12 = .ok (.iload_n 2, 1) := DX8_distinct_0.2.2.2.2.2.2.1
theorem dX8_distinct_13 : decode cX8_distinct 13 = .ok (.iconst 3, 1) := DX8_distinct_0.2.2.2.2.2.2.2.1
theorem dX8_distinct_14 : decode cX8_distinct 14 = .ok (.if_icmp .le 5, 3) := DX8_distinct_0.2.2.2.2.2.2.2.2.1
theorem dX8_distinct_17 : decode cX8_distinct 17 = .ok (.iconst (-1), 1) := DX8_distinct_0.2.2.2.2.2.2.2.2.2.1
theorem dX8_distinct_18 : decode cX8_distinct 18 = .ok (.ireturn, 1) := DX8_distinct_0.2.2.2.2.2.2.2.2.2.2.1
theorem dX8_distinct_19 : decode cX8_distinct 19 = .ok (.aload_n 0, 1) := DX8_distinct_0.2.2.2.2.2.2.2.2.2.2.2.1
theorem dX8_distinct_20 : decode cX8_distinct 20 = .ok (.getfield 42, 3) := DX8_distinct_0.2.2.2.2.2.2.2.2.2.2.2.2.1
theorem dX8_distinct_23 : decode cX8_distinct 23 = .ok (.aload_n 0, 1) := DX8_distinct_0.2.2.2.2.2.2.2.2.2.2.2.2.2.1
theorem dX8_distinct_24 : decode cX8_distinct 24 = .ok (.getfield 32, 3) := DX8_distinct_0.2.2.2.2.2.2.2.2.2.2.2.2.2.2.1
theorem dX8_distinct_27 : decode cX8_distinct 27 = .ok (.iload_n 1, 1) := DX8_distinct_0.2.2.2.2.2.2.2.2.2.2.2.2.2.2.2.1
theorem DX8_distinct_28 : dAre cX8_distinct [(28, .invokevirtual 223, 3), (31, .iload_n 2, 1), (60, .aload_n 0, 1), (61, .getfield 42, 3), (64, .invokevirtual 230, 3), (67, .ireturn, 1), (68, .aload_n 0, 1), (69, .getfield 42, 3), (72, .invokevirtual 233, 3), (75, .ireturn, 1), (76, .aload_n 0, 1), (77, .getfield 42, 3), (80, .invokevirtual 236, 3), (83, .ireturn, 1), (84, .aload_n 0, 1), (85, .getfield 42, 3)] := dAre0 (by decide +kernel)
theorem dX8_distinct_28 : decode cX8_distinct 28 = .ok (.invokevirtual 223, 3) := DX8_distinct_28.1
theorem dX8_distinct_31 : decode cX8_distinct 31 = .ok (.iload_n 2, 1) := DX8_distinct_28.2.1
theorem dX8_distinct_60 : decode cX8_distinct 60 = .ok (.aload_n 0, 1) := DX8_distinct_28.2.2.1
theorem dX8_distinct_61 : decode cX8_distinct 61 = .ok (.getfield 42, 3) := DX8_distinct_28.2.2.2.1
theorem dX8_distinct_64 : decode cX8_distinct 64 = .ok (.invokevirtual 230, 3) := DX8_distinct_28.2.2.2.2.1
theorem dX8_distinct_67 : decode cX8_distinct 67 = .ok (.ireturn, 1) := DX8_distinct_28.2.2.2.2.2.1
theorem dX8_distinct_68 : decode cX8_distinct 68 = .ok (.aload_n 0, 1) := DX8_distinct_28.2.2.2.2.2.2.1
theorem dX8_distinct_69 : decode cX8_distinct 69 = .ok (.getfield 42, 3) := DX8_distinct_28.2.2.2.2.2.2.2.1
theorem dX8_distinct_72 : decode cX8_distinct 72 = .ok (.invokevirtual 233, 3) := DX8_distinct_28.2.2.2.2.2.2.2.2.1
theorem dX8_distinct_75 : decode cX8_distinct 75 = .ok (.ireturn, 1) := DX8_distinct_28.2.2.2.2.2.2.2.2.2.1
theorem dX8_distinct_76 : decode cX8_distinct 76 = .ok (.aload_n 0, 1) := DX8_distinct_28.2.2.2.2.2.2.2.2.2.2.1
theorem dX8_distinct_77 : decode cX8_distinct 77 = .ok (.getfield 42, 3) := DX8_distinct_28.2.2.2.2.2.2.2.2.2.2.2.1
theorem dX8_distinct_80 : decode cX8_distinct 80 = .ok (.invokevirtual 236, 3) := DX8_distinct_28.2.2.2.2.2.2.2.2.2.2.2.2.1
theorem dX8_distinct_83 : decode cX8_distinct 83 = .ok (.ireturn, 1) := DX8_distinct_28.2.2.2.2.2.2.2.2.2.2.2.2.2.1
theorem dX8_distinct_84 : decode cX8_distinct 84 = .ok (.aload_n 0, 1) := DX8_distinct_28.2.2.2.2.2.2.2.2.2.2.2.2.2.2.1
theorem dX8_distinct_85 : decode cX8_distinct 85 = .ok (.getfield 42, 3) := DX8_distinct_28.2.2.2.2.2.2.2.2.2.2.2.2.2.2.2.1
theorem dX8_distinct_88 : decode cX8_distinct 88 = .ok (.invokevirtual 239, 3) := by decide +kernel
theorem dX8_distinct_91 : decode cX8_distinct 91 = .ok (.ireturn, 1) := by decide +kernel
theorem mX8_distinct : gMv yX8_distinct cX8_distinct 3 (some .int) RX8 2 := ⟨q497, q498, q1, q499, rfl, by decide, by decide, by decide +kernel⟩
noncomputable def fX8_distinct (v1 : Int32) (v2 : Int32) (I : gM) : Option (Int32 × gM) :=
  (fX8_isAsked v1 I).bind fun r1 =>
  if r1 = 0 then
    some (((-1) : Int32), I)
  else
    if v2 < 0 then
      some (((-1) : Int32), I)
    else
      if v2 ≤ 3 then
        (fX0_tallyUp 18 v1 I).bind fun r2 =>
        if v2 = 0 then
          (fX0_numbers r2).bind fun r3 =>
          some (r3, r2)
        else
        if v2 = 1 then
          (fX0_least r2).bind fun r4 =>
          some (r4, r2)
        else
        if v2 = 2 then
          (fX0_greatest r2).bind fun r5 =>
          some (r5, r2)
        else
        (fX0_oftenest r2).bind fun r6 =>
        some (r6, r2)
      else
        some (((-1) : Int32), I)
set_option maxRecDepth 100000 in
set_option maxHeartbeats 4000000 in
theorem wX8_distinct (l : Launch) (E : gE) (hE : gDist sh E) (bk : Nat) (v1 : Int32) (v2 : Int32) (I : gM) (J : gN) {r : Int32 × gM} (h : fX8_distinct v1 v2 I = some r) : Cu l sh E bk yX8_distinct cX8_distinct 3 (some .int) (gR 4) [.ref (E.2.1 0), .int v1, .int v2] I J (fun r1 I1 J1 => r1 = some (.int r.1) ∧ I1 = r.2 ∧ J1 = J) := by
  refine Cu.of "LeapJoin" rfl hE (by decide) (Nat.le_of_ble_eq_true rfl) (fun z F B e hl => ?_)
  subst hl
  unfold fX8_distinct at h
  refine g_aload_n F 0 dX8_distinct_0 rfl rfl ?_
  refine g_iload_n F 1 dX8_distinct_1 rfl rfl ?_
  refine u_callV (k := 0) (As := [.int v1]) (rest := []) (sn := fun r1 => [.int r1]) F B (fun _ => wX8_isAsked (zl z) E hE bk v1 I J) mX8_isAsked q422 rfl s0 rfl rfl rfl (Nat.le_of_ble_eq_true rfl) dX8_distinct_2 (fun _ => rfl) h (fun r1 h => ?_)
  refine u_if_eq (tgt := 17) F dX8_distinct_5 (by decide) h (fun h => ?_) (fun h => ?_)
  · refine g_iconst (v := (-1)) F dX8_distinct_17 (by decide) ?_
    obtain rfl := Option.some.inj h
    exact g_iret F e dX8_distinct_18 ⟨rfl, rfl, rfl⟩
  · refine g_iload_n F 2 dX8_distinct_8 rfl rfl ?_
    refine u_if_lt (tgt := 17) F dX8_distinct_9 (by decide) h (fun h => ?_) (fun h => ?_)
    · refine g_iconst (v := (-1)) F dX8_distinct_17 (by decide) ?_
      obtain rfl := Option.some.inj h
      exact g_iret F e dX8_distinct_18 ⟨rfl, rfl, rfl⟩
    · refine g_iload_n F 2 dX8_distinct_12 rfl rfl ?_
      refine g_iconst (v := 3) F dX8_distinct_13 (by decide) ?_
      refine u_icmp_le (tgt := 19) F dX8_distinct_14 (by decide) h (fun h => ?_) (fun h => ?_)
      · refine g_aload_n F 0 dX8_distinct_19 rfl rfl ?_
        refine g_getr (j := 6) (nn := 40) F s0 rfl rfl uX8 (by decide) q175 dX8_distinct_20 ?_
        refine g_aload_n F 0 dX8_distinct_23 rfl rfl ?_
        refine g_getr (j := 4) (nn := 18) F s0 rfl rfl uX8 (by decide) q173 dX8_distinct_24 ?_
        refine g_iload_n F 1 dX8_distinct_27 rfl rfl ?_
        refine u_callV (k := 40) (As := [.ref (E.2.1 18), .int v1]) (rest := []) (sn := fun _ => []) F B (fun _ => wX0_tallyUp (zl z) E hE bk 18 v1 shX1_18 I J) mX0_tallyUp q490 rfl s40 rfl rfl rfl (Nat.le_of_ble_eq_true rfl) dX8_distinct_28 (fun _ => rfl) h (fun r2 h => ?_)
        refine g_iload_n F 2 dX8_distinct_31 rfl rfl ?_
        rcases oi h with ⟨c32_0, h⟩ | ⟨c32_0, h⟩
        · refine g_tableIn (tgt := 60) F dX8_distinct_32 (by rw [c32_0]; decide) (by rw [c32_0]; decide) (by rw [c32_0]; rfl) (by decide) ?_
          refine g_aload_n F 0 dX8_distinct_60 rfl rfl ?_
          refine g_getr (j := 6) (nn := 40) F s0 rfl rfl uX8 (by decide) q175 dX8_distinct_61 ?_
          refine u_callV (k := 40) (As := []) (rest := []) (sn := fun r3 => [.int r3]) F B (fun _ => wX0_numbers (zl z) E hE bk  r2 J) mX0_numbers q500 rfl s40 rfl rfl rfl (Nat.le_of_ble_eq_true rfl) dX8_distinct_64 (fun _ => rfl) h (fun r3 h => ?_)
          obtain rfl := Option.some.inj h
          exact g_iret F e dX8_distinct_67 ⟨rfl, rfl, rfl⟩
        rcases oi h with ⟨c32_1, h⟩ | ⟨c32_1, h⟩
        · refine g_tableIn (tgt := 68) F dX8_distinct_32 (by rw [c32_1]; decide) (by rw [c32_1]; decide) (by rw [c32_1]; rfl) (by decide) ?_
          refine g_aload_n F 0 dX8_distinct_68 rfl rfl ?_
          refine g_getr (j := 6) (nn := 40) F s0 rfl rfl uX8 (by decide) q175 dX8_distinct_69 ?_
          refine u_callV (k := 40) (As := []) (rest := []) (sn := fun r4 => [.int r4]) F B (fun _ => wX0_least (zl z) E hE bk  r2 J) mX0_least q504 rfl s40 rfl rfl rfl (Nat.le_of_ble_eq_true rfl) dX8_distinct_72 (fun _ => rfl) h (fun r4 h => ?_)
          obtain rfl := Option.some.inj h
          exact g_iret F e dX8_distinct_75 ⟨rfl, rfl, rfl⟩
        rcases oi h with ⟨c32_2, h⟩ | ⟨c32_2, h⟩
        · refine g_tableIn (tgt := 76) F dX8_distinct_32 (by rw [c32_2]; decide) (by rw [c32_2]; decide) (by rw [c32_2]; rfl) (by decide) ?_
          refine g_aload_n F 0 dX8_distinct_76 rfl rfl ?_
          refine g_getr (j := 6) (nn := 40) F s0 rfl rfl uX8 (by decide) q175 dX8_distinct_77 ?_
          refine u_callV (k := 40) (As := []) (rest := []) (sn := fun r5 => [.int r5]) F B (fun _ => wX0_greatest (zl z) E hE bk  r2 J) mX0_greatest q508 rfl s40 rfl rfl rfl (Nat.le_of_ble_eq_true rfl) dX8_distinct_80 (fun _ => rfl) h (fun r5 h => ?_)
          obtain rfl := Option.some.inj h
          exact g_iret F e dX8_distinct_83 ⟨rfl, rfl, rfl⟩
        refine g_tableOut (tgt := 84) F dX8_distinct_32 (by have q0 : ¬ (v2).toInt = 0 := fun q => c32_0 (Int32.toInt_inj.mp (q.trans (by decide))); have q1 : ¬ (v2).toInt = 1 := fun q => c32_1 (Int32.toInt_inj.mp (q.trans (by decide))); have q2 : ¬ (v2).toInt = 2 := fun q => c32_2 (Int32.toInt_inj.mp (q.trans (by decide))); omega) (by decide) ?_
        refine g_aload_n F 0 dX8_distinct_84 rfl rfl ?_
        refine g_getr (j := 6) (nn := 40) F s0 rfl rfl uX8 (by decide) q175 dX8_distinct_85 ?_
        refine u_callV (k := 40) (As := []) (rest := []) (sn := fun r6 => [.int r6]) F B (fun _ => wX0_oftenest (zl z) E hE bk  r2 J) mX0_oftenest q512 rfl s40 rfl rfl rfl (Nat.le_of_ble_eq_true rfl) dX8_distinct_88 (fun _ => rfl) h (fun r6 h => ?_)
        obtain rfl := Option.some.inj h
        exact g_iret F e dX8_distinct_91 ⟨rfl, rfl, rfl⟩
      · refine g_iconst (v := (-1)) F dX8_distinct_17 (by decide) ?_
        obtain rfl := Option.some.inj h
        exact g_iret F e dX8_distinct_18 ⟨rfl, rfl, rfl⟩
theorem DX8_tells_0 : dAre cX8_tells [(0, .aload_n 0, 1), (1, .iload_n 1, 1), (2, .invokevirtual 187, 3), (5, .ifCond .eq 31, 3), (8, .aload_n 0, 1), (9, .iload_n 2, 1), (10, .invokevirtual 187, 3), (13, .ifCond .eq 23, 3), (16, .aload_n 0, 1), (17, .getfield 42, 3), (20, .aload_n 0, 1), (21, .getfield 32, 3), (24, .iload_n 1, 1), (25, .iload_n 2, 1), (26, .invokevirtual 242, 3), (29, .ifCond .eq 7, 3)] := dAre0 (by decide +kernel)
theorem dX8_tells_0 : decode cX8_tells 0 = .ok (.aload_n 0, 1) := DX8_tells_0.1
theorem dX8_tells_1 : decode cX8_tells 1 = .ok (.iload_n 1, 1) := DX8_tells_0.2.1
theorem dX8_tells_2 : decode cX8_tells 2 = .ok (.invokevirtual 187, 3) := DX8_tells_0.2.2.1
theorem dX8_tells_5 : decode cX8_tells 5 = .ok (.ifCond .eq 31, 3) := DX8_tells_0.2.2.2.1
theorem dX8_tells_8 : decode cX8_tells 8 = .ok (.aload_n 0, 1) := DX8_tells_0.2.2.2.2.1
theorem dX8_tells_9 : decode cX8_tells 9 = .ok (.iload_n 2, 1) := DX8_tells_0.2.2.2.2.2.1
theorem dX8_tells_10 : decode cX8_tells 10 = .ok (.invokevirtual 187, 3) := DX8_tells_0.2.2.2.2.2.2.1
theorem dX8_tells_13 : decode cX8_tells 13 = .ok (.ifCond .eq 23, 3) := DX8_tells_0.2.2.2.2.2.2.2.1
theorem dX8_tells_16 : decode cX8_tells 16 = .ok (.aload_n 0, 1) := DX8_tells_0.2.2.2.2.2.2.2.2.1
theorem dX8_tells_17 : decode cX8_tells 17 = .ok (.getfield 42, 3) := DX8_tells_0.2.2.2.2.2.2.2.2.2.1
theorem dX8_tells_20 : decode cX8_tells 20 = .ok (.aload_n 0, 1) := DX8_tells_0.2.2.2.2.2.2.2.2.2.2.1
theorem dX8_tells_21 : decode cX8_tells 21 = .ok (.getfield 32, 3) := DX8_tells_0.2.2.2.2.2.2.2.2.2.2.2.1
theorem dX8_tells_24 : decode cX8_tells 24 = .ok (.iload_n 1, 1) := DX8_tells_0.2.2.2.2.2.2.2.2.2.2.2.2.1
theorem dX8_tells_25 : decode cX8_tells 25 = .ok (.iload_n 2, 1) := DX8_tells_0.2.2.2.2.2.2.2.2.2.2.2.2.2.1
theorem dX8_tells_26 : decode cX8_tells 26 = .ok (.invokevirtual 242, 3) := DX8_tells_0.2.2.2.2.2.2.2.2.2.2.2.2.2.2.1
theorem dX8_tells_29 : decode cX8_tells 29 = .ok (.ifCond .eq 7, 3) := DX8_tells_0.2.2.2.2.2.2.2.2.2.2.2.2.2.2.2.1
theorem DX8_tells_32 : dAre cX8_tells [(32, .iconst 1, 1), (33, .goto 4, 3), (36, .iconst 0, 1), (37, .ireturn, 1)] := dAre0 (by decide +kernel)
theorem dX8_tells_32 : decode cX8_tells 32 = .ok (.iconst 1, 1) := DX8_tells_32.1
theorem dX8_tells_33 : decode cX8_tells 33 = .ok (.goto 4, 3) := DX8_tells_32.2.1
theorem dX8_tells_36 : decode cX8_tells 36 = .ok (.iconst 0, 1) := DX8_tells_32.2.2.1
theorem dX8_tells_37 : decode cX8_tells 37 = .ok (.ireturn, 1) := DX8_tells_32.2.2.2.1
theorem mX8_tells : gMv yX8_tells cX8_tells 3 (some .boolean) RX8 2 := ⟨q517, q518, q1, q519, rfl, by decide, by decide, by decide +kernel⟩
noncomputable def fX8_tells (v1 : Int32) (v2 : Int32) (I : gM) : Option (Int32 × gM) :=
  (fX8_isAsked v1 I).bind fun r1 =>
  if r1 = 0 then
    some ((0 : Int32), I)
  else
    (fX8_isAsked v2 I).bind fun r2 =>
    if r2 = 0 then
      some ((0 : Int32), I)
    else
      (fX0_isTold 18 v1 v2 I).bind fun r3 =>
      if r3.1 = 0 then
        some ((0 : Int32), r3.2)
      else
        some ((1 : Int32), r3.2)
set_option maxRecDepth 100000 in
set_option maxHeartbeats 4000000 in
theorem wX8_tells (l : Launch) (E : gE) (hE : gDist sh E) (bk : Nat) (v1 : Int32) (v2 : Int32) (I : gM) (J : gN) {r : Int32 × gM} (h : fX8_tells v1 v2 I = some r) : Cu l sh E bk yX8_tells cX8_tells 3 (some .boolean) (gR 4) [.ref (E.2.1 0), .int v1, .int v2] I J (fun r1 I1 J1 => r1 = some (.int r.1) ∧ I1 = r.2 ∧ J1 = J) := by
  refine Cu.of "LeapJoin" rfl hE (by decide) (Nat.le_of_ble_eq_true rfl) (fun z F B e hl => ?_)
  subst hl
  unfold fX8_tells at h
  refine g_aload_n F 0 dX8_tells_0 rfl rfl ?_
  refine g_iload_n F 1 dX8_tells_1 rfl rfl ?_
  refine u_callV (k := 0) (As := [.int v1]) (rest := []) (sn := fun r1 => [.int r1]) F B (fun _ => wX8_isAsked (zl z) E hE bk v1 I J) mX8_isAsked q422 rfl s0 rfl rfl rfl (Nat.le_of_ble_eq_true rfl) dX8_tells_2 (fun _ => rfl) h (fun r1 h => ?_)
  refine u_if_eq (tgt := 36) F dX8_tells_5 (by decide) h (fun h => ?_) (fun h => ?_)
  · refine g_iconst (v := 0) F dX8_tells_36 (by decide) ?_
    obtain rfl := Option.some.inj h
    exact g_zret F rfl e dX8_tells_37 ⟨rfl, rfl, rfl⟩
  · refine g_aload_n F 0 dX8_tells_8 rfl rfl ?_
    refine g_iload_n F 2 dX8_tells_9 rfl rfl ?_
    refine u_callV (k := 0) (As := [.int v2]) (rest := []) (sn := fun r2 => [.int r2]) F B (fun _ => wX8_isAsked (zl z) E hE bk v2 I J) mX8_isAsked q422 rfl s0 rfl rfl rfl (Nat.le_of_ble_eq_true rfl) dX8_tells_10 (fun _ => rfl) h (fun r2 h => ?_)
    refine u_if_eq (tgt := 36) F dX8_tells_13 (by decide) h (fun h => ?_) (fun h => ?_)
    · refine g_iconst (v := 0) F dX8_tells_36 (by decide) ?_
      obtain rfl := Option.some.inj h
      exact g_zret F rfl e dX8_tells_37 ⟨rfl, rfl, rfl⟩
    · refine g_aload_n F 0 dX8_tells_16 rfl rfl ?_
      refine g_getr (j := 6) (nn := 40) F s0 rfl rfl uX8 (by decide) q175 dX8_tells_17 ?_
      refine g_aload_n F 0 dX8_tells_20 rfl rfl ?_
      refine g_getr (j := 4) (nn := 18) F s0 rfl rfl uX8 (by decide) q173 dX8_tells_21 ?_
      refine g_iload_n F 1 dX8_tells_24 rfl rfl ?_
      refine g_iload_n F 2 dX8_tells_25 rfl rfl ?_
      refine u_callV (k := 40) (As := [.ref (E.2.1 18), .int v1, .int v2]) (rest := []) (sn := fun r3 => [.int r3.1]) F B (fun _ => wX0_isTold (zl z) E hE bk 18 v1 v2 shX1_18 I J) mX0_isTold q520 rfl s40 rfl rfl rfl (Nat.le_of_ble_eq_true rfl) dX8_tells_26 (fun _ => rfl) h (fun r3 h => ?_)
      refine u_if_eq (tgt := 36) F dX8_tells_29 (by decide) h (fun h => ?_) (fun h => ?_)
      · refine g_iconst (v := 0) F dX8_tells_36 (by decide) ?_
        obtain rfl := Option.some.inj h
        exact g_zret F rfl e dX8_tells_37 ⟨rfl, rfl, rfl⟩
      · refine g_iconst (v := 1) F dX8_tells_32 (by decide) ?_
        refine g_goto (tgt := 37) F dX8_tells_33 (by decide) ?_
        obtain rfl := Option.some.inj h
        exact g_zret F rfl e dX8_tells_37 ⟨rfl, rfl, rfl⟩
theorem DX8_behind_0 : dAre cX8_behind [(0, .aload_n 0, 1), (1, .getfield 19, 3), (4, .getfield 134, 3), (7, .ifCond .ne 5, 3), (10, .iconst (-1), 1), (11, .ireturn, 1), (12, .iconst 0, 1), (13, .istore 5, 2), (15, .iload 5, 2), (17, .aload_n 0, 1), (18, .getfield 32, 3), (21, .getfield 186, 3), (24, .if_icmp .ge 29, 3), (27, .aload_n 0, 1), (28, .getfield 32, 3), (31, .iload 5, 2)] := dAre0 (by decide +kernel)
theorem dX8_behind_0 : decode cX8_behind 0 = .ok (.aload_n 0, 1) := DX8_behind_0.1
theorem dX8_behind_1 : decode cX8_behind 1 = .ok (.getfield 19, 3) := DX8_behind_0.2.1
theorem dX8_behind_4 : decode cX8_behind 4 = .ok (.getfield 134, 3) := DX8_behind_0.2.2.1
theorem dX8_behind_7 : decode cX8_behind 7 = .ok (.ifCond .ne 5, 3) := DX8_behind_0.2.2.2.1
theorem dX8_behind_10 : decode cX8_behind 10 = .ok (.iconst (-1), 1) := DX8_behind_0.2.2.2.2.1
theorem dX8_behind_11 : decode cX8_behind 11 = .ok (.ireturn, 1) := DX8_behind_0.2.2.2.2.2.1
theorem dX8_behind_12 : decode cX8_behind 12 = .ok (.iconst 0, 1) := DX8_behind_0.2.2.2.2.2.2.1
theorem dX8_behind_13 : decode cX8_behind 13 = .ok (.istore 5, 2) := DX8_behind_0.2.2.2.2.2.2.2.1
theorem dX8_behind_15 : decode cX8_behind 15 = .ok (.iload 5, 2) := DX8_behind_0.2.2.2.2.2.2.2.2.1
theorem dX8_behind_17 : decode cX8_behind 17 = .ok (.aload_n 0, 1) := DX8_behind_0.2.2.2.2.2.2.2.2.2.1
theorem dX8_behind_18 : decode cX8_behind 18 = .ok (.getfield 32, 3) := DX8_behind_0.2.2.2.2.2.2.2.2.2.2.1
theorem dX8_behind_21 : decode cX8_behind 21 = .ok (.getfield 186, 3) := DX8_behind_0.2.2.2.2.2.2.2.2.2.2.2.1
theorem dX8_behind_24 : decode cX8_behind 24 = .ok (.if_icmp .ge 29, 3) := DX8_behind_0.2.2.2.2.2.2.2.2.2.2.2.2.1
theorem dX8_behind_27 : decode cX8_behind 27 = .ok (.aload_n 0, 1) := DX8_behind_0.2.2.2.2.2.2.2.2.2.2.2.2.2.1
theorem dX8_behind_28 : decode cX8_behind 28 = .ok (.getfield 32, 3) := DX8_behind_0.2.2.2.2.2.2.2.2.2.2.2.2.2.2.1
theorem dX8_behind_31 : decode cX8_behind 31 = .ok (.iload 5, 2) := DX8_behind_0.2.2.2.2.2.2.2.2.2.2.2.2.2.2.2.1
theorem DX8_behind_33 : dAre cX8_behind [(33, .iload_n 1, 1), (34, .iload_n 2, 1), (35, .iload_n 3, 1), (36, .iload 4, 2), (38, .invokevirtual 246, 3), (41, .ifCond .le 6, 3), (44, .iload 5, 2), (46, .ireturn, 1), (47, .iinc 5 1, 3), (50, .goto (-35), 3), (53, .iconst (-1), 1), (54, .ireturn, 1)] := dAre0 (by decide +kernel)
theorem dX8_behind_33 : decode cX8_behind 33 = .ok (.iload_n 1, 1) := DX8_behind_33.1
theorem dX8_behind_34 : decode cX8_behind 34 = .ok (.iload_n 2, 1) := DX8_behind_33.2.1
theorem dX8_behind_35 : decode cX8_behind 35 = .ok (.iload_n 3, 1) := DX8_behind_33.2.2.1
theorem dX8_behind_36 : decode cX8_behind 36 = .ok (.iload 4, 2) := DX8_behind_33.2.2.2.1
theorem dX8_behind_38 : decode cX8_behind 38 = .ok (.invokevirtual 246, 3) := DX8_behind_33.2.2.2.2.1
theorem dX8_behind_41 : decode cX8_behind 41 = .ok (.ifCond .le 6, 3) := DX8_behind_33.2.2.2.2.2.1
theorem dX8_behind_44 : decode cX8_behind 44 = .ok (.iload 5, 2) := DX8_behind_33.2.2.2.2.2.2.1
theorem dX8_behind_46 : decode cX8_behind 46 = .ok (.ireturn, 1) := DX8_behind_33.2.2.2.2.2.2.2.1
theorem dX8_behind_47 : decode cX8_behind 47 = .ok (.iinc 5 1, 3) := DX8_behind_33.2.2.2.2.2.2.2.2.1
theorem dX8_behind_50 : decode cX8_behind 50 = .ok (.goto (-35), 3) := DX8_behind_33.2.2.2.2.2.2.2.2.2.1
theorem dX8_behind_53 : decode cX8_behind 53 = .ok (.iconst (-1), 1) := DX8_behind_33.2.2.2.2.2.2.2.2.2.2.1
theorem dX8_behind_54 : decode cX8_behind 54 = .ok (.ireturn, 1) := DX8_behind_33.2.2.2.2.2.2.2.2.2.2.2.1
theorem mX8_behind : gMv yX8_behind cX8_behind 6 (some .int) RX8 4 := ⟨q525, q526, q1, q527, rfl, by decide, by decide, by decide +kernel⟩
noncomputable def lX8_behind_15 (v1 : Int32) (v2 : Int32) (v3 : Int32) (v4 : Int32) (I : gM) : Int32 → Option ((Int32) ⊕ (Unit)) :=
  itO fun s =>
    if (I 18 0) ≤ s then
      some (.inr (.inr ()))
    else
      (fX1_compareAt 18 s v1 v2 v3 v4 I).bind fun r1 =>
      if r1 ≤ 0 then
        some (.inl (s + 1))
      else
        some (.inr (.inl s))
set_option maxRecDepth 100000 in
set_option maxHeartbeats 4000000 in
theorem wlX8_behind_15 {z : gZ} {E : gE} {bk : Nat} (F : Fx z sh E "LeapJoin" cX8_behind (gR 3) 6) (B : bZ z bk) (hE : gDist sh E) (v1 : Int32) (v2 : Int32) (v3 : Int32) (v4 : Int32) (I : gM) (J : gN) {r : (Int32) ⊕ (Unit)} : ∀ s : Int32, lX8_behind_15 v1 v2 v3 v4 I s = some r → (∀ x : Int32, r = .inl x → G z 44 [(5, .int x)] [] I J) → (∀ x : Unit, r = .inr x → G z 53 [] [] I J) → G z 15 [(0, .ref (E.2.1 0)), (1, .int v1), (2, .int v2), (3, .int v3), (4, .int v4), (5, .int s)] [] I J := by
  intro s h X0 X1
  unfold lX8_behind_15 at h
  revert s
  refine itO_ind (P := fun s : Int32 => G z 15 [(0, .ref (E.2.1 0)), (1, .int v1), (2, .int v2), (3, .int v3), (4, .int v4), (5, .int s)] [] I J) (fun s y h hl hr => ?_)
  have K15_0 := fun (x : Int32) (q : y = .inr (.inl x)) => X0 x (hr _ q).symm
  have K15_1 := fun (x : Unit) (q : y = .inr (.inr x)) => X1 x (hr _ q).symm
  refine g_iload F 5 dX8_behind_15 rfl ?_
  refine g_aload_n F 0 dX8_behind_17 rfl rfl ?_
  refine g_getr (j := 4) (nn := 18) F s0 rfl rfl uX8 (by decide) q173 dX8_behind_18 ?_
  refine g_geti (j := 0) (v := I 18 0) F shX1_18.1 rfl rfl uX1 (by decide) q79 rfl dX8_behind_21 ?_
  refine u_icmp_ge (tgt := 53) F dX8_behind_24 (by decide) h (fun h => ?_) (fun h => ?_)
  · obtain rfl := Option.some.inj h
    refine g_sub (Ln := []) [] rfl ?_
    exact K15_1 () rfl
  · refine g_aload_n F 0 dX8_behind_27 rfl rfl ?_
    refine g_getr (j := 4) (nn := 18) F s0 rfl rfl uX8 (by decide) q173 dX8_behind_28 ?_
    refine g_iload F 5 dX8_behind_31 rfl ?_
    refine g_iload_n F 1 dX8_behind_33 rfl rfl ?_
    refine g_iload_n F 2 dX8_behind_34 rfl rfl ?_
    refine g_iload_n F 3 dX8_behind_35 rfl rfl ?_
    refine g_iload F 4 dX8_behind_36 rfl ?_
    refine u_callV (k := 18) (As := [.int s, .int v1, .int v2, .int v3, .int v4]) (rest := []) (sn := fun r1 => [.int r1]) F B (fun _ => wX1_compareAt (zl z) E hE bk 18 s v1 v2 v3 v4 shX1_18 I J) mX1_compareAt q528 rfl shX1_18.1 rfl rfl rfl (Nat.le_of_ble_eq_true rfl) dX8_behind_38 (fun _ => rfl) h (fun r1 h => ?_)
    refine u_if_le (tgt := 47) F dX8_behind_41 (by decide) h (fun h => ?_) (fun h => ?_)
    · refine g_iinc (v := s + 1) (Ln := [(5, .int (s + 1)), (0, .ref (E.2.1 0)), (1, .int v1), (2, .int v2), (3, .int v3), (4, .int v4)]) F 5 dX8_behind_47 rfl (add_c (by decide)) (by decide) rfl ?_
      refine g_goto (tgt := 15) F dX8_behind_50 (by decide) ?_
      obtain rfl := Option.some.inj h
      refine g_sub (Ln := [(0, .ref (E.2.1 0)), (1, .int v1), (2, .int v2), (3, .int v3), (4, .int v4), (5, .int (s + 1))]) [1, 2, 3, 4, 5, 0] rfl ?_
      exact hl (s + 1) rfl
    · obtain rfl := Option.some.inj h
      refine g_sub (Ln := [(5, .int s)]) [5] rfl ?_
      exact K15_0 s rfl
noncomputable def fX8_behind (v1 : Int32) (v2 : Int32) (v3 : Int32) (v4 : Int32) (I : gM) : Option (Int32) :=
  if (I 3 0) = 0 then
    some ((-1) : Int32)
  else
    (lX8_behind_15 v1 v2 v3 v4 I (0 : Int32)).bind fun w2 =>
    Sum.elim (fun w2_0 =>
      some w2_0)
    (fun w2_1 =>
      some ((-1) : Int32)) w2
set_option maxRecDepth 100000 in
set_option maxHeartbeats 4000000 in
theorem wX8_behind (l : Launch) (E : gE) (hE : gDist sh E) (bk : Nat) (v1 : Int32) (v2 : Int32) (v3 : Int32) (v4 : Int32) (I : gM) (J : gN) {r : Int32} (h : fX8_behind v1 v2 v3 v4 I = some r) : Cu l sh E bk yX8_behind cX8_behind 6 (some .int) (gR 3) [.ref (E.2.1 0), .int v1, .int v2, .int v3, .int v4] I J (fun r1 I1 J1 => r1 = some (.int r) ∧ I1 = I ∧ J1 = J) := by
  refine Cu.of "LeapJoin" rfl hE (by decide) (Nat.le_of_ble_eq_true rfl) (fun z F B e hl => ?_)
  subst hl
  unfold fX8_behind at h
  refine g_aload_n F 0 dX8_behind_0 rfl rfl ?_
  refine g_getr (j := 1) (nn := 3) F s0 rfl rfl uX8 (by decide) q170 dX8_behind_1 ?_
  refine g_geti (j := 0) (v := I 3 0) F shX5_3.1 rfl rfl uX5 (by decide) q49 rfl dX8_behind_4 ?_
  refine u_if_ne (tgt := 12) F dX8_behind_7 (by decide) h (fun h => ?_) (fun h => ?_)
  · refine g_iconst (v := (-1)) F dX8_behind_10 (by decide) ?_
    obtain rfl := Option.some.inj h
    exact g_iret F e dX8_behind_11 ⟨rfl, rfl, rfl⟩
  · refine g_iconst (v := 0) F dX8_behind_12 (by decide) ?_
    refine g_istore (Ln := [(5, .int 0), (0, .ref (E.2.1 0)), (1, .int v1), (2, .int v2), (3, .int v3), (4, .int v4)]) F dX8_behind_13 (by decide) rfl ?_
    obtain ⟨w2, ew2, h⟩ := ob h
    refine g_sub (Ln := [(0, .ref (E.2.1 0)), (1, .int v1), (2, .int v2), (3, .int v3), (4, .int v4), (5, .int 0)]) [1, 2, 3, 4, 5, 0] rfl ?_
    refine wlX8_behind_15 F B hE v1 v2 v3 v4 I J _ ew2 (fun w2_0 q => ?_) (fun w2_1 q => ?_)
    · subst q
      replace h := oE1 h
      refine g_iload F 0 dX8_behind_44 rfl ?_
      obtain rfl := Option.some.inj h
      exact g_iret F e dX8_behind_46 ⟨rfl, rfl, rfl⟩
    · subst q
      replace h := oE2 h
      refine g_iconst (v := (-1)) F dX8_behind_53 (by decide) ?_
      obtain rfl := Option.some.inj h
      exact g_iret F e dX8_behind_54 ⟨rfl, rfl, rfl⟩
theorem DX8_has_0 : dAre cX8_has [(0, .aload_n 0, 1), (1, .getfield 19, 3), (4, .getfield 134, 3), (7, .ifCond .ne 5, 3), (10, .iconst 0, 1), (11, .ireturn, 1), (12, .iconst 0, 1), (13, .istore 5, 2), (15, .iload 5, 2), (17, .aload_n 0, 1), (18, .getfield 32, 3), (21, .getfield 186, 3), (24, .if_icmp .ge 28, 3), (27, .aload_n 0, 1), (28, .getfield 32, 3), (31, .iload 5, 2)] := dAre0 (by decide +kernel)
theorem dX8_has_0 : decode cX8_has 0 = .ok (.aload_n 0, 1) := DX8_has_0.1
theorem dX8_has_1 : decode cX8_has 1 = .ok (.getfield 19, 3) := DX8_has_0.2.1
theorem dX8_has_4 : decode cX8_has 4 = .ok (.getfield 134, 3) := DX8_has_0.2.2.1
theorem dX8_has_7 : decode cX8_has 7 = .ok (.ifCond .ne 5, 3) := DX8_has_0.2.2.2.1
theorem dX8_has_10 : decode cX8_has 10 = .ok (.iconst 0, 1) := DX8_has_0.2.2.2.2.1
theorem dX8_has_11 : decode cX8_has 11 = .ok (.ireturn, 1) := DX8_has_0.2.2.2.2.2.1
theorem dX8_has_12 : decode cX8_has 12 = .ok (.iconst 0, 1) := DX8_has_0.2.2.2.2.2.2.1
theorem dX8_has_13 : decode cX8_has 13 = .ok (.istore 5, 2) := DX8_has_0.2.2.2.2.2.2.2.1
theorem dX8_has_15 : decode cX8_has 15 = .ok (.iload 5, 2) := DX8_has_0.2.2.2.2.2.2.2.2.1
theorem dX8_has_17 : decode cX8_has 17 = .ok (.aload_n 0, 1) := DX8_has_0.2.2.2.2.2.2.2.2.2.1
theorem dX8_has_18 : decode cX8_has 18 = .ok (.getfield 32, 3) := DX8_has_0.2.2.2.2.2.2.2.2.2.2.1
theorem dX8_has_21 : decode cX8_has 21 = .ok (.getfield 186, 3) := DX8_has_0.2.2.2.2.2.2.2.2.2.2.2.1
theorem dX8_has_24 : decode cX8_has 24 = .ok (.if_icmp .ge 28, 3) := DX8_has_0.2.2.2.2.2.2.2.2.2.2.2.2.1
theorem dX8_has_27 : decode cX8_has 27 = .ok (.aload_n 0, 1) := DX8_has_0.2.2.2.2.2.2.2.2.2.2.2.2.2.1
theorem dX8_has_28 : decode cX8_has 28 = .ok (.getfield 32, 3) := DX8_has_0.2.2.2.2.2.2.2.2.2.2.2.2.2.2.1
theorem dX8_has_31 : decode cX8_has 31 = .ok (.iload 5, 2) := DX8_has_0.2.2.2.2.2.2.2.2.2.2.2.2.2.2.2.1
theorem DX8_has_33 : dAre cX8_has [(33, .iload_n 1, 1), (34, .iload_n 2, 1), (35, .iload_n 3, 1), (36, .iload 4, 2), (38, .invokevirtual 246, 3), (41, .ifCond .ne 5, 3), (44, .iconst 1, 1), (45, .ireturn, 1), (46, .iinc 5 1, 3), (49, .goto (-34), 3), (52, .iconst 0, 1), (53, .ireturn, 1)] := dAre0 (by decide +kernel)
theorem dX8_has_33 : decode cX8_has 33 = .ok (.iload_n 1, 1) := DX8_has_33.1
theorem dX8_has_34 : decode cX8_has 34 = .ok (.iload_n 2, 1) := DX8_has_33.2.1
theorem dX8_has_35 : decode cX8_has 35 = .ok (.iload_n 3, 1) := DX8_has_33.2.2.1
theorem dX8_has_36 : decode cX8_has 36 = .ok (.iload 4, 2) := DX8_has_33.2.2.2.1
theorem dX8_has_38 : decode cX8_has 38 = .ok (.invokevirtual 246, 3) := DX8_has_33.2.2.2.2.1
theorem dX8_has_41 : decode cX8_has 41 = .ok (.ifCond .ne 5, 3) := DX8_has_33.2.2.2.2.2.1
theorem dX8_has_44 : decode cX8_has 44 = .ok (.iconst 1, 1) := DX8_has_33.2.2.2.2.2.2.1
theorem dX8_has_45 : decode cX8_has 45 = .ok (.ireturn, 1) := DX8_has_33.2.2.2.2.2.2.2.1
theorem dX8_has_46 : decode cX8_has 46 = .ok (.iinc 5 1, 3) := DX8_has_33.2.2.2.2.2.2.2.2.1
theorem dX8_has_49 : decode cX8_has 49 = .ok (.goto (-34), 3) := DX8_has_33.2.2.2.2.2.2.2.2.2.1
theorem dX8_has_52 : decode cX8_has 52 = .ok (.iconst 0, 1) := DX8_has_33.2.2.2.2.2.2.2.2.2.2.1
theorem dX8_has_53 : decode cX8_has 53 = .ok (.ireturn, 1) := DX8_has_33.2.2.2.2.2.2.2.2.2.2.2.1
theorem mX8_has : gMv yX8_has cX8_has 6 (some .boolean) RX8 4 := ⟨q534, q535, q1, q536, rfl, by decide, by decide, by decide +kernel⟩
noncomputable def lX8_has_15 (v1 : Int32) (v2 : Int32) (v3 : Int32) (v4 : Int32) (I : gM) : Int32 → Option ((Unit) ⊕ (Unit)) :=
  itO fun s =>
    if (I 18 0) ≤ s then
      some (.inr (.inr ()))
    else
      (fX1_compareAt 18 s v1 v2 v3 v4 I).bind fun r1 =>
      if r1 = 0 then
        some (.inr (.inl ()))
      else
        some (.inl (s + 1))
set_option maxRecDepth 100000 in
set_option maxHeartbeats 4000000 in
theorem wlX8_has_15 {z : gZ} {E : gE} {bk : Nat} (F : Fx z sh E "LeapJoin" cX8_has (gR 3) 6) (B : bZ z bk) (hE : gDist sh E) (v1 : Int32) (v2 : Int32) (v3 : Int32) (v4 : Int32) (I : gM) (J : gN) {r : (Unit) ⊕ (Unit)} : ∀ s : Int32, lX8_has_15 v1 v2 v3 v4 I s = some r → (∀ x : Unit, r = .inl x → G z 44 [] [] I J) → (∀ x : Unit, r = .inr x → G z 52 [] [] I J) → G z 15 [(0, .ref (E.2.1 0)), (1, .int v1), (2, .int v2), (3, .int v3), (4, .int v4), (5, .int s)] [] I J := by
  intro s h X0 X1
  unfold lX8_has_15 at h
  revert s
  refine itO_ind (P := fun s : Int32 => G z 15 [(0, .ref (E.2.1 0)), (1, .int v1), (2, .int v2), (3, .int v3), (4, .int v4), (5, .int s)] [] I J) (fun s y h hl hr => ?_)
  have K15_0 := fun (x : Unit) (q : y = .inr (.inl x)) => X0 x (hr _ q).symm
  have K15_1 := fun (x : Unit) (q : y = .inr (.inr x)) => X1 x (hr _ q).symm
  refine g_iload F 5 dX8_has_15 rfl ?_
  refine g_aload_n F 0 dX8_has_17 rfl rfl ?_
  refine g_getr (j := 4) (nn := 18) F s0 rfl rfl uX8 (by decide) q173 dX8_has_18 ?_
  refine g_geti (j := 0) (v := I 18 0) F shX1_18.1 rfl rfl uX1 (by decide) q79 rfl dX8_has_21 ?_
  refine u_icmp_ge (tgt := 52) F dX8_has_24 (by decide) h (fun h => ?_) (fun h => ?_)
  · obtain rfl := Option.some.inj h
    refine g_sub (Ln := []) [] rfl ?_
    exact K15_1 () rfl
  · refine g_aload_n F 0 dX8_has_27 rfl rfl ?_
    refine g_getr (j := 4) (nn := 18) F s0 rfl rfl uX8 (by decide) q173 dX8_has_28 ?_
    refine g_iload F 5 dX8_has_31 rfl ?_
    refine g_iload_n F 1 dX8_has_33 rfl rfl ?_
    refine g_iload_n F 2 dX8_has_34 rfl rfl ?_
    refine g_iload_n F 3 dX8_has_35 rfl rfl ?_
    refine g_iload F 4 dX8_has_36 rfl ?_
    refine u_callV (k := 18) (As := [.int s, .int v1, .int v2, .int v3, .int v4]) (rest := []) (sn := fun r1 => [.int r1]) F B (fun _ => wX1_compareAt (zl z) E hE bk 18 s v1 v2 v3 v4 shX1_18 I J) mX1_compareAt q528 rfl shX1_18.1 rfl rfl rfl (Nat.le_of_ble_eq_true rfl) dX8_has_38 (fun _ => rfl) h (fun r1 h => ?_)
    refine u_if_ne (tgt := 46) F dX8_has_41 (by decide) h (fun h => ?_) (fun h => ?_)
    · obtain rfl := Option.some.inj h
      refine g_sub (Ln := []) [] rfl ?_
      exact K15_0 () rfl
    · refine g_iinc (v := s + 1) (Ln := [(5, .int (s + 1)), (0, .ref (E.2.1 0)), (1, .int v1), (2, .int v2), (3, .int v3), (4, .int v4)]) F 5 dX8_has_46 rfl (add_c (by decide)) (by decide) rfl ?_
      refine g_goto (tgt := 15) F dX8_has_49 (by decide) ?_
      obtain rfl := Option.some.inj h
      refine g_sub (Ln := [(0, .ref (E.2.1 0)), (1, .int v1), (2, .int v2), (3, .int v3), (4, .int v4), (5, .int (s + 1))]) [1, 2, 3, 4, 5, 0] rfl ?_
      exact hl (s + 1) rfl
noncomputable def fX8_has (v1 : Int32) (v2 : Int32) (v3 : Int32) (v4 : Int32) (I : gM) : Option (Int32) :=
  if (I 3 0) = 0 then
    some (0 : Int32)
  else
    (lX8_has_15 v1 v2 v3 v4 I (0 : Int32)).bind fun w2 =>
    Sum.elim (fun w2_0 =>
      some (1 : Int32))
    (fun w2_1 =>
      some (0 : Int32)) w2
set_option maxRecDepth 100000 in
set_option maxHeartbeats 4000000 in
theorem wX8_has (l : Launch) (E : gE) (hE : gDist sh E) (bk : Nat) (v1 : Int32) (v2 : Int32) (v3 : Int32) (v4 : Int32) (I : gM) (J : gN) {r : Int32} (h : fX8_has v1 v2 v3 v4 I = some r) : Cu l sh E bk yX8_has cX8_has 6 (some .boolean) (gR 3) [.ref (E.2.1 0), .int v1, .int v2, .int v3, .int v4] I J (fun r1 I1 J1 => r1 = some (.int r) ∧ I1 = I ∧ J1 = J) := by
  refine Cu.of "LeapJoin" rfl hE (by decide) (Nat.le_of_ble_eq_true rfl) (fun z F B e hl => ?_)
  subst hl
  unfold fX8_has at h
  refine g_aload_n F 0 dX8_has_0 rfl rfl ?_
  refine g_getr (j := 1) (nn := 3) F s0 rfl rfl uX8 (by decide) q170 dX8_has_1 ?_
  refine g_geti (j := 0) (v := I 3 0) F shX5_3.1 rfl rfl uX5 (by decide) q49 rfl dX8_has_4 ?_
  refine u_if_ne (tgt := 12) F dX8_has_7 (by decide) h (fun h => ?_) (fun h => ?_)
  · refine g_iconst (v := 0) F dX8_has_10 (by decide) ?_
    obtain rfl := Option.some.inj h
    exact g_zret F rfl e dX8_has_11 ⟨rfl, rfl, rfl⟩
  · refine g_iconst (v := 0) F dX8_has_12 (by decide) ?_
    refine g_istore (Ln := [(5, .int 0), (0, .ref (E.2.1 0)), (1, .int v1), (2, .int v2), (3, .int v3), (4, .int v4)]) F dX8_has_13 (by decide) rfl ?_
    obtain ⟨w2, ew2, h⟩ := ob h
    refine g_sub (Ln := [(0, .ref (E.2.1 0)), (1, .int v1), (2, .int v2), (3, .int v3), (4, .int v4), (5, .int 0)]) [1, 2, 3, 4, 5, 0] rfl ?_
    refine wlX8_has_15 F B hE v1 v2 v3 v4 I J _ ew2 (fun w2_0 q => ?_) (fun w2_1 q => ?_)
    · subst q
      replace h := oE1 h
      refine g_iconst (v := 1) F dX8_has_44 (by decide) ?_
      obtain rfl := Option.some.inj h
      exact g_zret F rfl e dX8_has_45 ⟨rfl, rfl, rfl⟩
    · subst q
      replace h := oE2 h
      refine g_iconst (v := 0) F dX8_has_52 (by decide) ?_
      obtain rfl := Option.some.inj h
      exact g_zret F rfl e dX8_has_53 ⟨rfl, rfl, rfl⟩
theorem DX8_attempt_0 : dAre cX8_attempt [(0, .aload_n 0, 1), (1, .getfield 19, 3), (4, .iload_n 1, 1), (5, .iload_n 2, 1), (6, .iload_n 3, 1), (7, .iload 4, 2), (9, .iload 5, 2), (11, .invokevirtual 275, 3), (14, .istore 6, 2), (16, .iload 6, 2), (18, .iconst (-1), 1), (19, .if_icmp .eq 6, 3), (22, .iload 6, 2), (24, .ireturn, 1), (25, .iload_n 3, 1), (26, .iload 4, 2)] := dAre0 (by decide +kernel)
theorem dX8_attempt_0 : decode cX8_attempt 0 = .ok (.aload_n 0, 1) := DX8_attempt_0.1
theorem dX8_attempt_1 : decode cX8_attempt 1 = .ok (.getfield 19, 3) := DX8_attempt_0.2.1
theorem dX8_attempt_4 : decode cX8_attempt 4 = .ok (.iload_n 1, 1) := DX8_attempt_0.2.2.1
theorem dX8_attempt_5 : decode cX8_attempt 5 = .ok (.iload_n 2, 1) := DX8_attempt_0.2.2.2.1
theorem dX8_attempt_6 : decode cX8_attempt 6 = .ok (.iload_n 3, 1) := DX8_attempt_0.2.2.2.2.1
theorem dX8_attempt_7 : decode cX8_attempt 7 = .ok (.iload 4, 2) := DX8_attempt_0.2.2.2.2.2.1
theorem dX8_attempt_9 : decode cX8_attempt 9 = .ok (.iload 5, 2) := DX8_attempt_0.2.2.2.2.2.2.1
theorem dX8_attempt_11 : decode cX8_attempt 11 = .ok (.invokevirtual 275, 3) := DX8_attempt_0.2.2.2.2.2.2.2.1
theorem dX8_attempt_14 : decode cX8_attempt 14 = .ok (.istore 6, 2) := DX8_attempt_0.2.2.2.2.2.2.2.2.1
theorem dX8_attempt_16 : decode cX8_attempt 16 = .ok (.iload 6, 2) := DX8_attempt_0.2.2.2.2.2.2.2.2.2.1
theorem dX8_attempt_18 : decode cX8_attempt 18 = .ok (.iconst (-1), 1) := DX8_attempt_0.2.2.2.2.2.2.2.2.2.2.1
theorem dX8_attempt_19 : decode cX8_attempt 19 = .ok (.if_icmp .eq 6, 3) := DX8_attempt_0.2.2.2.2.2.2.2.2.2.2.2.1
theorem dX8_attempt_22 : decode cX8_attempt 22 = .ok (.iload 6, 2) := DX8_attempt_0.2.2.2.2.2.2.2.2.2.2.2.2.1
theorem dX8_attempt_24 : decode cX8_attempt 24 = .ok (.ireturn, 1) := DX8_attempt_0.2.2.2.2.2.2.2.2.2.2.2.2.2.1
theorem dX8_attempt_25 : decode cX8_attempt 25 = .ok (.iload_n 3, 1) := DX8_attempt_0.2.2.2.2.2.2.2.2.2.2.2.2.2.2.1
theorem dX8_attempt_26 : decode cX8_attempt 26 = .ok (.iload 4, 2) := DX8_attempt_0.2.2.2.2.2.2.2.2.2.2.2.2.2.2.2.1
theorem DX8_attempt_28 : dAre cX8_attempt [(28, .iload 5, 2), (30, .invokestatic 278, 3), (33, .istore 7, 2), (35, .aload_n 0, 1), (36, .getfield 66, 3), (39, .iload_n 1, 1), (40, .iload_n 1, 1), (41, .iconst 3, 1), (42, .if_icmp .ne 13, 3), (45, .aload_n 0, 1), (46, .getfield 19, 3), (49, .getfield 140, 3), (52, .goto 4, 3), (55, .iload_n 2, 1), (56, .iload 7, 2), (58, .invokevirtual 282, 3)] := dAre0 (by decide +kernel)
theorem dX8_attempt_28 : decode cX8_attempt 28 = .ok (.iload 5, 2) := DX8_attempt_28.1
theorem dX8_attempt_30 : decode cX8_attempt 30 = .ok (.invokestatic 278, 3) := DX8_attempt_28.2.1
theorem dX8_attempt_33 : decode cX8_attempt 33 = .ok (.istore 7, 2) := DX8_attempt_28.2.2.1
theorem dX8_attempt_35 : decode cX8_attempt 35 = .ok (.aload_n 0, 1) := DX8_attempt_28.2.2.2.1
theorem dX8_attempt_36 : decode cX8_attempt 36 = .ok (.getfield 66, 3) := DX8_attempt_28.2.2.2.2.1
theorem dX8_attempt_39 : decode cX8_attempt 39 = .ok (.iload_n 1, 1) := DX8_attempt_28.2.2.2.2.2.1
theorem dX8_attempt_40 : decode cX8_attempt 40 = .ok (.iload_n 1, 1) := DX8_attempt_28.2.2.2.2.2.2.1
theorem dX8_attempt_41 : decode cX8_attempt 41 = .ok (.iconst 3, 1) := DX8_attempt_28.2.2.2.2.2.2.2.1
theorem dX8_attempt_42 : decode cX8_attempt 42 = .ok (.if_icmp .ne 13, 3) := DX8_attempt_28.2.2.2.2.2.2.2.2.1
theorem dX8_attempt_45 : decode cX8_attempt 45 = .ok (.aload_n 0, 1) := DX8_attempt_28.2.2.2.2.2.2.2.2.2.1
theorem dX8_attempt_46 : decode cX8_attempt 46 = .ok (.getfield 19, 3) := DX8_attempt_28.2.2.2.2.2.2.2.2.2.2.1
theorem dX8_attempt_49 : decode cX8_attempt 49 = .ok (.getfield 140, 3) := DX8_attempt_28.2.2.2.2.2.2.2.2.2.2.2.1
theorem dX8_attempt_52 : decode cX8_attempt 52 = .ok (.goto 4, 3) := DX8_attempt_28.2.2.2.2.2.2.2.2.2.2.2.2.1
theorem dX8_attempt_55 : decode cX8_attempt 55 = .ok (.iload_n 2, 1) := DX8_attempt_28.2.2.2.2.2.2.2.2.2.2.2.2.2.1
theorem dX8_attempt_56 : decode cX8_attempt 56 = .ok (.iload 7, 2) := DX8_attempt_28.2.2.2.2.2.2.2.2.2.2.2.2.2.2.1
theorem dX8_attempt_58 : decode cX8_attempt 58 = .ok (.invokevirtual 282, 3) := DX8_attempt_28.2.2.2.2.2.2.2.2.2.2.2.2.2.2.2.1
theorem DX8_attempt_61 : dAre cX8_attempt [(61, .aload_n 0, 1), (62, .getfield 19, 3), (65, .iload_n 1, 1), (66, .iload_n 2, 1), (67, .iload 7, 2), (69, .invokevirtual 286, 3), (72, .aload_n 0, 1), (73, .invokevirtual 131, 3), (76, .aload_n 0, 1), (77, .getfield 56, 3), (80, .iload_n 1, 1), (81, .iload_n 2, 1), (82, .aload_n 0, 1), (83, .getfield 32, 3), (86, .getfield 186, 3), (89, .invokevirtual 289, 3)] := dAre0 (by decide +kernel)
theorem dX8_attempt_61 : decode cX8_attempt 61 = .ok (.aload_n 0, 1) := DX8_attempt_61.1
theorem dX8_attempt_62 : decode cX8_attempt 62 = .ok (.getfield 19, 3) := DX8_attempt_61.2.1
theorem dX8_attempt_65 : decode cX8_attempt 65 = .ok (.iload_n 1, 1) := DX8_attempt_61.2.2.1
theorem dX8_attempt_66 : decode cX8_attempt 66 = .ok (.iload_n 2, 1) := DX8_attempt_61.2.2.2.1
theorem dX8_attempt_67 : decode cX8_attempt 67 = .ok (.iload 7, 2) := DX8_attempt_61.2.2.2.2.1
theorem dX8_attempt_69 : decode cX8_attempt 69 = .ok (.invokevirtual 286, 3) := DX8_attempt_61.2.2.2.2.2.1
theorem dX8_attempt_72 : decode cX8_attempt 72 = .ok (.aload_n 0, 1) := DX8_attempt_61.2.2.2.2.2.2.1
theorem dX8_attempt_73 : decode cX8_attempt 73 = .ok (.invokevirtual 131, 3) := DX8_attempt_61.2.2.2.2.2.2.2.1
theorem dX8_attempt_76 : decode cX8_attempt 76 = .ok (.aload_n 0, 1) := DX8_attempt_61.2.2.2.2.2.2.2.2.1
theorem dX8_attempt_77 : decode cX8_attempt 77 = .ok (.getfield 56, 3) := DX8_attempt_61.2.2.2.2.2.2.2.2.2.1
theorem dX8_attempt_80 : decode cX8_attempt 80 = .ok (.iload_n 1, 1) := DX8_attempt_61.2.2.2.2.2.2.2.2.2.2.1
theorem dX8_attempt_81 : decode cX8_attempt 81 = .ok (.iload_n 2, 1) := DX8_attempt_61.2.2.2.2.2.2.2.2.2.2.2.1
theorem dX8_attempt_82 : decode cX8_attempt 82 = .ok (.aload_n 0, 1) := DX8_attempt_61.2.2.2.2.2.2.2.2.2.2.2.2.1
theorem dX8_attempt_83 : decode cX8_attempt 83 = .ok (.getfield 32, 3) := DX8_attempt_61.2.2.2.2.2.2.2.2.2.2.2.2.2.1
theorem dX8_attempt_86 : decode cX8_attempt 86 = .ok (.getfield 186, 3) := DX8_attempt_61.2.2.2.2.2.2.2.2.2.2.2.2.2.2.1
theorem dX8_attempt_89 : decode cX8_attempt 89 = .ok (.invokevirtual 289, 3) := DX8_attempt_61.2.2.2.2.2.2.2.2.2.2.2.2.2.2.2.1
theorem dX8_attempt_92 : decode cX8_attempt 92 = .ok (.iconst (-1), 1) := by decide +kernel
theorem dX8_attempt_93 : decode cX8_attempt 93 = .ok (.ireturn, 1) := by decide +kernel
theorem mX8_attempt : gMv yX8_attempt cX8_attempt 8 (some .int) RX8 5 := ⟨q582, q1370, q1, q583, rfl, by decide, by decide, by decide +kernel⟩
noncomputable def bX8_attempt_56 (v1 : Int32) (v2 : Int32) (v7 : Int32) (t0 : Int32) (t1 : Int32) (I : gM) : Option (Int32 × gM) :=
  (fX3_add t1 t0 v7 I).bind fun r3 =>
  (fX5_change 3 v1 v2 v7 r3).bind fun r4 =>
  (fX8_renew r4).bind fun r5 =>
  (fX2_add 44 v1 v2 (r5 18 0) r5).bind fun r6 =>
  some (((-1) : Int32), r6)
set_option maxRecDepth 100000 in
set_option maxHeartbeats 4000000 in
theorem wbX8_attempt_56 {z : gZ} {E : gE} {bk : Nat} (F : Fx z sh E "LeapJoin" cX8_attempt (gR 17) 8) (B : bZ z bk) (hE : gDist sh E) (v1 : Int32) (v2 : Int32) (v7 : Int32) (t0 : Int32) (t1 : Int32) (I : gM) (J : gN) {y : Int32 × gM} (h : bX8_attempt_56 v1 v2 v7 t0 t1 I = some y) (e : Fe z sh E (some .int) (fun r1 I1 J1 => r1 = some (.int y.1) ∧ I1 = y.2 ∧ J1 = J)) : G z 56 [(0, .ref (E.2.1 0)), (1, .int v1), (2, .int v2), (7, .int v7)] [.int t0, .int t1, .ref (E.2.1 48)] I J := by
  unfold bX8_attempt_56 at h
  refine g_iload F 3 dX8_attempt_56 rfl ?_
  refine u_callV (k := 48) (As := [.int t1, .int t0, .int v7]) (rest := []) (sn := fun _ => []) F B (fun _ => wX3_add (zl z) E hE bk t1 t0 v7 I J) mX3_add q596 rfl s48 rfl rfl rfl (Nat.le_of_ble_eq_true rfl) dX8_attempt_58 (fun _ => rfl) h (fun r3 h => ?_)
  refine g_aload_n F 0 dX8_attempt_61 rfl rfl ?_
  refine g_getr (j := 1) (nn := 3) F s0 rfl rfl uX8 (by decide) q170 dX8_attempt_62 ?_
  refine g_iload_n F 1 dX8_attempt_65 rfl rfl ?_
  refine g_iload_n F 2 dX8_attempt_66 rfl rfl ?_
  refine g_iload F 3 dX8_attempt_67 rfl ?_
  refine u_callV (k := 3) (As := [.int v1, .int v2, .int v7]) (rest := []) (sn := fun _ => []) F B (fun _ => wX5_change (zl z) E hE bk 3 v1 v2 v7 shX5_3 r3 J) mX5_change q603 rfl shX5_3.1 rfl rfl rfl (Nat.le_of_ble_eq_true rfl) dX8_attempt_69 (fun _ => rfl) h (fun r4 h => ?_)
  refine g_aload_n F 0 dX8_attempt_72 rfl rfl ?_
  refine u_callV (k := 0) (As := []) (rest := []) (sn := fun _ => []) F B (fun _ => wX8_renew (zl z) E hE bk  r4 J) mX8_renew q328 rfl s0 rfl rfl rfl (Nat.le_of_ble_eq_true rfl) dX8_attempt_73 (fun _ => rfl) h (fun r5 h => ?_)
  refine g_aload_n F 0 dX8_attempt_76 rfl rfl ?_
  refine g_getr (j := 8) (nn := 44) F s0 rfl rfl uX8 (by decide) q177 dX8_attempt_77 ?_
  refine g_iload_n F 1 dX8_attempt_80 rfl rfl ?_
  refine g_iload_n F 2 dX8_attempt_81 rfl rfl ?_
  refine g_aload_n F 0 dX8_attempt_82 rfl rfl ?_
  refine g_getr (j := 4) (nn := 18) F s0 rfl rfl uX8 (by decide) q173 dX8_attempt_83 ?_
  refine g_geti (j := 0) (v := r5 18 0) F shX1_18.1 rfl rfl uX1 (by decide) q79 rfl dX8_attempt_86 ?_
  refine u_callV (k := 44) (As := [.int v1, .int v2, .int (r5 18 0)]) (rest := []) (sn := fun _ => []) F B (fun _ => wX2_add (zl z) E hE bk 44 v1 v2 (r5 18 0) shX2_44 r5 J) mX2_add q611 rfl shX2_44.1 rfl rfl rfl (Nat.le_of_ble_eq_true rfl) dX8_attempt_89 (fun _ => rfl) h (fun r6 h => ?_)
  refine g_iconst (v := (-1)) F dX8_attempt_92 (by decide) ?_
  obtain rfl := Option.some.inj h
  exact g_iret F e dX8_attempt_93 ⟨rfl, rfl, rfl⟩
noncomputable def fX8_attempt (v1 : Int32) (v2 : Int32) (v3 : Int32) (v4 : Int32) (v5 : Int32) (I : gM) : Option (Int32 × gM) :=
  (fX5_refusal 3 v1 v2 v3 v4 v5 I).bind fun r1 =>
  if r1 = (-1) then
    (fX5_packed v3 v4 v5).bind fun r2 =>
    if v1 = 3 then
      bX8_attempt_56 v1 v2 r2 (I 3 2) v1 I
    else
      bX8_attempt_56 v1 v2 r2 v2 v1 I
  else
    some (r1, I)
set_option maxRecDepth 100000 in
set_option maxHeartbeats 4000000 in
theorem wX8_attempt (l : Launch) (E : gE) (hE : gDist sh E) (bk : Nat) (v1 : Int32) (v2 : Int32) (v3 : Int32) (v4 : Int32) (v5 : Int32) (I : gM) (J : gN) {r : Int32 × gM} (h : fX8_attempt v1 v2 v3 v4 v5 I = some r) : Cu l sh E bk yX8_attempt cX8_attempt 8 (some .int) (gR 17) [.ref (E.2.1 0), .int v1, .int v2, .int v3, .int v4, .int v5] I J (fun r1 I1 J1 => r1 = some (.int r.1) ∧ I1 = r.2 ∧ J1 = J) := by
  refine Cu.of "LeapJoin" rfl hE (by decide) (Nat.le_of_ble_eq_true rfl) (fun z F B e hl => ?_)
  subst hl
  unfold fX8_attempt at h
  refine g_aload_n F 0 dX8_attempt_0 rfl rfl ?_
  refine g_getr (j := 1) (nn := 3) F s0 rfl rfl uX8 (by decide) q170 dX8_attempt_1 ?_
  refine g_iload_n F 1 dX8_attempt_4 rfl rfl ?_
  refine g_iload_n F 2 dX8_attempt_5 rfl rfl ?_
  refine g_iload_n F 3 dX8_attempt_6 rfl rfl ?_
  refine g_iload F 4 dX8_attempt_7 rfl ?_
  refine g_iload F 5 dX8_attempt_9 rfl ?_
  refine u_callV (k := 3) (As := [.int v1, .int v2, .int v3, .int v4, .int v5]) (rest := []) (sn := fun r1 => [.int r1]) F B (fun _ => wX5_refusal (zl z) E hE bk 3 v1 v2 v3 v4 v5 shX5_3 I J) mX5_refusal q584 rfl shX5_3.1 rfl rfl rfl (Nat.le_of_ble_eq_true rfl) dX8_attempt_11 (fun _ => rfl) h (fun r1 h => ?_)
  refine g_istore (Ln := [(6, .int r1), (0, .ref (E.2.1 0)), (1, .int v1), (2, .int v2), (3, .int v3), (4, .int v4), (5, .int v5)]) F dX8_attempt_14 (by decide) rfl ?_
  refine g_iload F 0 dX8_attempt_16 rfl ?_
  refine g_iconst (v := (-1)) F dX8_attempt_18 (by decide) ?_
  refine u_icmp_eq (tgt := 25) F dX8_attempt_19 (by decide) h (fun h => ?_) (fun h => ?_)
  · refine g_iload_n F 4 dX8_attempt_25 rfl rfl ?_
    refine g_iload F 5 dX8_attempt_26 rfl ?_
    refine g_iload F 6 dX8_attempt_28 rfl ?_
    refine u_callS (As := [.int v3, .int v4, .int v5]) (rest := []) (sn := fun r2 => [.int r2]) F B (fun _ => wX5_packed (zl z) E hE bk v3 v4 v5 I J) mX5_packed q595 rfl rfl rfl (Nat.le_of_ble_eq_true rfl) dX8_attempt_30 (fun _ => rfl) h (fun r2 h => ?_)
    refine g_istore (Ln := [(7, .int r2), (6, .int r1), (0, .ref (E.2.1 0)), (1, .int v1), (2, .int v2), (3, .int v3), (4, .int v4), (5, .int v5)]) F dX8_attempt_33 (by decide) rfl ?_
    refine g_aload_n F 2 dX8_attempt_35 rfl rfl ?_
    refine g_getr (j := 10) (nn := 48) F s0 rfl rfl uX8 (by decide) q179 dX8_attempt_36 ?_
    refine g_iload_n F 3 dX8_attempt_39 rfl rfl ?_
    refine g_iload_n F 3 dX8_attempt_40 rfl rfl ?_
    refine g_iconst (v := 3) F dX8_attempt_41 (by decide) ?_
    refine u_icmp_ne (tgt := 55) F dX8_attempt_42 (by decide) h (fun h => ?_) (fun h => ?_)
    · refine g_aload_n F 2 dX8_attempt_45 rfl rfl ?_
      refine g_getr (j := 1) (nn := 3) F s0 rfl rfl uX8 (by decide) q170 dX8_attempt_46 ?_
      refine g_geti (j := 2) (v := I 3 2) F shX5_3.1 rfl rfl uX5 (by decide) q54 rfl dX8_attempt_49 ?_
      refine g_goto (tgt := 56) F dX8_attempt_52 (by decide) ?_
      refine g_sub (Ln := [(0, .ref (E.2.1 0)), (1, .int v1), (2, .int v2), (7, .int r2)]) [2, 3, 4, 0] rfl ?_
      exact wbX8_attempt_56 F B hE v1 v2 r2 (I 3 2) v1 I J h e
    · refine g_iload_n F 4 dX8_attempt_55 rfl rfl ?_
      refine g_sub (Ln := [(0, .ref (E.2.1 0)), (1, .int v1), (2, .int v2), (7, .int r2)]) [2, 3, 4, 0] rfl ?_
      exact wbX8_attempt_56 F B hE v1 v2 r2 v2 v1 I J h e
  · refine g_iload F 0 dX8_attempt_22 rfl ?_
    obtain rfl := Option.some.inj h
    exact g_iret F e dX8_attempt_24 ⟨rfl, rfl, rfl⟩
theorem DX8_isDone_0 : dAre cX8_isDone [(0, .aload_n 0, 1), (1, .iload_n 1, 1), (2, .iload_n 2, 1), (3, .iload_n 3, 1), (4, .iload 4, 2), (6, .iload 5, 2), (8, .invokevirtual 272, 3), (11, .istore 6, 2), (13, .iload 6, 2), (15, .ifCond .lt 20, 3), (18, .iload 6, 2), (20, .iconst 4, 1), (21, .if_icmp .ge 14, 3), (24, .aload_n 0, 1), (25, .getfield 81, 3), (28, .iload 6, 2)] := dAre0 (by decide +kernel)
theorem dX8_isDone_0 : decode cX8_isDone 0 = .ok (.aload_n 0, 1) := DX8_isDone_0.1
theorem dX8_isDone_1 : decode cX8_isDone 1 = .ok (.iload_n 1, 1) := DX8_isDone_0.2.1
theorem dX8_isDone_2 : decode cX8_isDone 2 = .ok (.iload_n 2, 1) := DX8_isDone_0.2.2.1
theorem dX8_isDone_3 : decode cX8_isDone 3 = .ok (.iload_n 3, 1) := DX8_isDone_0.2.2.2.1
theorem dX8_isDone_4 : decode cX8_isDone 4 = .ok (.iload 4, 2) := DX8_isDone_0.2.2.2.2.1
theorem dX8_isDone_6 : decode cX8_isDone 6 = .ok (.iload 5, 2) := DX8_isDone_0.2.2.2.2.2.1
theorem dX8_isDone_8 : decode cX8_isDone 8 = .ok (.invokevirtual 272, 3) := DX8_isDone_0.2.2.2.2.2.2.1
theorem dX8_isDone_11 : decode cX8_isDone 11 = .ok (.istore 6, 2) := DX8_isDone_0.2.2.2.2.2.2.2.1
theorem dX8_isDone_13 : decode cX8_isDone 13 = .ok (.iload 6, 2) := DX8_isDone_0.2.2.2.2.2.2.2.2.1
theorem dX8_isDone_15 : decode cX8_isDone 15 = .ok (.ifCond .lt 20, 3) := DX8_isDone_0.2.2.2.2.2.2.2.2.2.1
theorem dX8_isDone_18 : decode cX8_isDone 18 = .ok (.iload 6, 2) := DX8_isDone_0.2.2.2.2.2.2.2.2.2.2.1
theorem dX8_isDone_20 : decode cX8_isDone 20 = .ok (.iconst 4, 1) := DX8_isDone_0.2.2.2.2.2.2.2.2.2.2.2.1
theorem dX8_isDone_21 : decode cX8_isDone 21 = .ok (.if_icmp .ge 14, 3) := DX8_isDone_0.2.2.2.2.2.2.2.2.2.2.2.2.1
theorem dX8_isDone_24 : decode cX8_isDone 24 = .ok (.aload_n 0, 1) := DX8_isDone_0.2.2.2.2.2.2.2.2.2.2.2.2.2.1
theorem dX8_isDone_25 : decode cX8_isDone 25 = .ok (.getfield 81, 3) := DX8_isDone_0.2.2.2.2.2.2.2.2.2.2.2.2.2.2.1
theorem dX8_isDone_28 : decode cX8_isDone 28 = .ok (.iload 6, 2) := DX8_isDone_0.2.2.2.2.2.2.2.2.2.2.2.2.2.2.2.1
theorem DX8_isDone_30 : dAre cX8_isDone [(30, .dup2, 1), (31, .iaload, 1), (32, .iconst 1, 1), (33, .iadd, 1), (34, .iastore, 1), (35, .iload 6, 2), (37, .iconst (-1), 1), (38, .if_icmp .ne 7, 3), (41, .iconst 1, 1), (42, .goto 4, 3), (45, .iconst 0, 1), (46, .ireturn, 1)] := dAre0 (by decide +kernel)
theorem dX8_isDone_30 : decode cX8_isDone 30 = .ok (.dup2, 1) := DX8_isDone_30.1
theorem dX8_isDone_31 : decode cX8_isDone 31 = .ok (.iaload, 1) := DX8_isDone_30.2.1
theorem dX8_isDone_32 : decode cX8_isDone 32 = .ok (.iconst 1, 1) := DX8_isDone_30.2.2.1
theorem dX8_isDone_33 : decode cX8_isDone 33 = .ok (.iadd, 1) := DX8_isDone_30.2.2.2.1
theorem dX8_isDone_34 : decode cX8_isDone 34 = .ok (.iastore, 1) := DX8_isDone_30.2.2.2.2.1
theorem dX8_isDone_35 : decode cX8_isDone 35 = .ok (.iload 6, 2) := DX8_isDone_30.2.2.2.2.2.1
theorem dX8_isDone_37 : decode cX8_isDone 37 = .ok (.iconst (-1), 1) := DX8_isDone_30.2.2.2.2.2.2.1
theorem dX8_isDone_38 : decode cX8_isDone 38 = .ok (.if_icmp .ne 7, 3) := DX8_isDone_30.2.2.2.2.2.2.2.1
theorem dX8_isDone_41 : decode cX8_isDone 41 = .ok (.iconst 1, 1) := DX8_isDone_30.2.2.2.2.2.2.2.2.1
theorem dX8_isDone_42 : decode cX8_isDone 42 = .ok (.goto 4, 3) := DX8_isDone_30.2.2.2.2.2.2.2.2.2.1
theorem dX8_isDone_45 : decode cX8_isDone 45 = .ok (.iconst 0, 1) := DX8_isDone_30.2.2.2.2.2.2.2.2.2.2.1
theorem dX8_isDone_46 : decode cX8_isDone 46 = .ok (.ireturn, 1) := DX8_isDone_30.2.2.2.2.2.2.2.2.2.2.2.1
theorem mX8_isDone : gMv yX8_isDone cX8_isDone 7 (some .boolean) RX8 5 := ⟨q579, q1369, q1, q580, rfl, by decide, by decide, by decide +kernel⟩
noncomputable def bX8_isDone_35 (v6 : Int32) (I : gM) : Option (Int32 × gM) :=
  if v6 = (-1) then
    some ((1 : Int32), I)
  else
    some ((0 : Int32), I)
set_option maxRecDepth 100000 in
set_option maxHeartbeats 4000000 in
theorem wbX8_isDone_35 {z : gZ} {E : gE} {bk : Nat} (F : Fx z sh E "LeapJoin" cX8_isDone (gR 18) 7) (B : bZ z bk) (hE : gDist sh E) (v6 : Int32) (I : gM) (J : gN) {y : Int32 × gM} (h : bX8_isDone_35 v6 I = some y) (e : Fe z sh E (some .boolean) (fun r1 I1 J1 => r1 = some (.int y.1) ∧ I1 = y.2 ∧ J1 = J)) : G z 35 [(6, .int v6)] [] I J := by
  unfold bX8_isDone_35 at h
  refine g_iload F 0 dX8_isDone_35 rfl ?_
  refine g_iconst (v := (-1)) F dX8_isDone_37 (by decide) ?_
  refine u_icmp_ne (tgt := 45) F dX8_isDone_38 (by decide) h (fun h => ?_) (fun h => ?_)
  · refine g_iconst (v := 1) F dX8_isDone_41 (by decide) ?_
    refine g_goto (tgt := 46) F dX8_isDone_42 (by decide) ?_
    obtain rfl := Option.some.inj h
    exact g_zret F rfl e dX8_isDone_46 ⟨rfl, rfl, rfl⟩
  · refine g_iconst (v := 0) F dX8_isDone_45 (by decide) ?_
    obtain rfl := Option.some.inj h
    exact g_zret F rfl e dX8_isDone_46 ⟨rfl, rfl, rfl⟩
noncomputable def fX8_isDone (v1 : Int32) (v2 : Int32) (v3 : Int32) (v4 : Int32) (v5 : Int32) (I : gM) : Option (Int32 × gM) :=
  (fX8_attempt v1 v2 v3 v4 v5 I).bind fun r1 =>
  if r1.1 < 0 then
    bX8_isDone_35 r1.1 r1.2
  else
    if (4 : Int32) ≤ r1.1 then
      bX8_isDone_35 r1.1 r1.2
    else
      (rI 4 (r1.2 53) r1.1).bind fun u2 =>
      (wI r1.2 53 4 r1.1 (u2 + 1)).bind fun I3 =>
      bX8_isDone_35 r1.1 I3
set_option maxRecDepth 100000 in
set_option maxHeartbeats 4000000 in
theorem wX8_isDone (l : Launch) (E : gE) (hE : gDist sh E) (bk : Nat) (v1 : Int32) (v2 : Int32) (v3 : Int32) (v4 : Int32) (v5 : Int32) (I : gM) (J : gN) {r : Int32 × gM} (h : fX8_isDone v1 v2 v3 v4 v5 I = some r) : Cu l sh E bk yX8_isDone cX8_isDone 7 (some .boolean) (gR 18) [.ref (E.2.1 0), .int v1, .int v2, .int v3, .int v4, .int v5] I J (fun r1 I1 J1 => r1 = some (.int r.1) ∧ I1 = r.2 ∧ J1 = J) := by
  refine Cu.of "LeapJoin" rfl hE (by decide) (Nat.le_of_ble_eq_true rfl) (fun z F B e hl => ?_)
  subst hl
  unfold fX8_isDone at h
  refine g_aload_n F 0 dX8_isDone_0 rfl rfl ?_
  refine g_iload_n F 1 dX8_isDone_1 rfl rfl ?_
  refine g_iload_n F 2 dX8_isDone_2 rfl rfl ?_
  refine g_iload_n F 3 dX8_isDone_3 rfl rfl ?_
  refine g_iload F 4 dX8_isDone_4 rfl ?_
  refine g_iload F 5 dX8_isDone_6 rfl ?_
  refine u_callV (k := 0) (As := [.int v1, .int v2, .int v3, .int v4, .int v5]) (rest := []) (sn := fun r1 => [.int r1.1]) F B (fun _ => wX8_attempt (zl z) E hE bk v1 v2 v3 v4 v5 I J) mX8_attempt q581 rfl s0 rfl rfl rfl (Nat.le_of_ble_eq_true rfl) dX8_isDone_8 (fun _ => rfl) h (fun r1 h => ?_)
  refine g_istore (Ln := [(6, .int r1.1), (0, .ref (E.2.1 0)), (1, .int v1), (2, .int v2), (3, .int v3), (4, .int v4), (5, .int v5)]) F dX8_isDone_11 (by decide) rfl ?_
  refine g_iload F 0 dX8_isDone_13 rfl ?_
  refine u_if_lt (tgt := 35) F dX8_isDone_15 (by decide) h (fun h => ?_) (fun h => ?_)
  · refine g_sub (Ln := [(6, .int r1.1)]) [0] rfl ?_
    exact wbX8_isDone_35 F B hE r1.1 r1.2 J h e
  · refine g_iload F 0 dX8_isDone_18 rfl ?_
    refine g_iconst (v := 4) F dX8_isDone_20 (by decide) ?_
    refine u_icmp_ge (tgt := 35) F dX8_isDone_21 (by decide) h (fun h => ?_) (fun h => ?_)
    · refine g_sub (Ln := [(6, .int r1.1)]) [0] rfl ?_
      exact wbX8_isDone_35 F B hE r1.1 r1.2 J h e
    · refine g_aload_n F 1 dX8_isDone_24 rfl rfl ?_
      refine g_getr (j := 13) (nn := 53) F s0 rfl rfl uX8 (by decide) q182 dX8_isDone_25 ?_
      refine g_iload F 0 dX8_isDone_28 rfl ?_
      refine g_dup2 F dX8_isDone_30 rfl rfl ?_
      refine u_rI F s53 (by decide) dX8_isDone_31 h (fun u2 h => ?_)
      refine g_iconst (v := 1) F dX8_isDone_32 (by decide) ?_
      refine g_iadd (v := u2 + 1) F dX8_isDone_33 rfl ?_
      refine u_wI F s53 (by decide) dX8_isDone_34 h (fun I3 h => ?_)
      refine g_sub (Ln := [(6, .int r1.1)]) [0] rfl ?_
      exact wbX8_isDone_35 F B hE r1.1 I3 J h e
theorem DX8_put_0 : dAre cX8_put [(0, .aload_n 0, 1), (1, .iconst 0, 1), (2, .iload_n 1, 1), (3, .iload_n 2, 1), (4, .iload_n 3, 1), (5, .iload 4, 2), (7, .invokevirtual 268, 3), (10, .ifCond .eq 15, 3), (13, .aload_n 0, 1), (14, .getfield 19, 3), (17, .getfield 176, 3), (20, .iload_n 1, 1), (21, .iaload, 1), (22, .goto 4, 3), (25, .iconst (-1), 1), (26, .ireturn, 1)] := dAre0 (by decide +kernel)
theorem dX8_put_0 : decode cX8_put 0 = .ok (.aload_n 0, 1) := DX8_put_0.1
theorem dX8_put_1 : decode cX8_put 1 = .ok (.iconst 0, 1) := DX8_put_0.2.1
theorem dX8_put_2 : decode cX8_put 2 = .ok (.iload_n 1, 1) := DX8_put_0.2.2.1
theorem dX8_put_3 : decode cX8_put 3 = .ok (.iload_n 2, 1) := DX8_put_0.2.2.2.1
theorem dX8_put_4 : decode cX8_put 4 = .ok (.iload_n 3, 1) := DX8_put_0.2.2.2.2.1
theorem dX8_put_5 : decode cX8_put 5 = .ok (.iload 4, 2) := DX8_put_0.2.2.2.2.2.1
theorem dX8_put_7 : decode cX8_put 7 = .ok (.invokevirtual 268, 3) := DX8_put_0.2.2.2.2.2.2.1
theorem dX8_put_10 : decode cX8_put 10 = .ok (.ifCond .eq 15, 3) := DX8_put_0.2.2.2.2.2.2.2.1
theorem dX8_put_13 : decode cX8_put 13 = .ok (.aload_n 0, 1) := DX8_put_0.2.2.2.2.2.2.2.2.1
theorem dX8_put_14 : decode cX8_put 14 = .ok (.getfield 19, 3) := DX8_put_0.2.2.2.2.2.2.2.2.2.1
theorem dX8_put_17 : decode cX8_put 17 = .ok (.getfield 176, 3) := DX8_put_0.2.2.2.2.2.2.2.2.2.2.1
theorem dX8_put_20 : decode cX8_put 20 = .ok (.iload_n 1, 1) := DX8_put_0.2.2.2.2.2.2.2.2.2.2.2.1
theorem dX8_put_21 : decode cX8_put 21 = .ok (.iaload, 1) := DX8_put_0.2.2.2.2.2.2.2.2.2.2.2.2.1
theorem dX8_put_22 : decode cX8_put 22 = .ok (.goto 4, 3) := DX8_put_0.2.2.2.2.2.2.2.2.2.2.2.2.2.1
theorem dX8_put_25 : decode cX8_put 25 = .ok (.iconst (-1), 1) := DX8_put_0.2.2.2.2.2.2.2.2.2.2.2.2.2.2.1
theorem dX8_put_26 : decode cX8_put 26 = .ok (.ireturn, 1) := DX8_put_0.2.2.2.2.2.2.2.2.2.2.2.2.2.2.2.1
theorem mX8_put : gMv yX8_put cX8_put 5 (some .int) RX8 4 := ⟨q575, q576, q1, q577, rfl, by decide, by decide, by decide +kernel⟩
noncomputable def fX8_put (v1 : Int32) (v2 : Int32) (v3 : Int32) (v4 : Int32) (I : gM) : Option (Int32 × gM) :=
  (fX8_isDone (0 : Int32) v1 v2 v3 v4 I).bind fun r1 =>
  if r1.1 = 0 then
    some (((-1) : Int32), r1.2)
  else
    (rI 4 (r1.2 5) v1).bind fun u2 =>
    some (u2, r1.2)
set_option maxRecDepth 100000 in
set_option maxHeartbeats 4000000 in
theorem wX8_put (l : Launch) (E : gE) (hE : gDist sh E) (bk : Nat) (v1 : Int32) (v2 : Int32) (v3 : Int32) (v4 : Int32) (I : gM) (J : gN) {r : Int32 × gM} (h : fX8_put v1 v2 v3 v4 I = some r) : Cu l sh E bk yX8_put cX8_put 5 (some .int) (gR 19) [.ref (E.2.1 0), .int v1, .int v2, .int v3, .int v4] I J (fun r1 I1 J1 => r1 = some (.int r.1) ∧ I1 = r.2 ∧ J1 = J) := by
  refine Cu.of "LeapJoin" rfl hE (by decide) (Nat.le_of_ble_eq_true rfl) (fun z F B e hl => ?_)
  subst hl
  unfold fX8_put at h
  refine g_aload_n F 0 dX8_put_0 rfl rfl ?_
  refine g_iconst (v := 0) F dX8_put_1 (by decide) ?_
  refine g_iload_n F 1 dX8_put_2 rfl rfl ?_
  refine g_iload_n F 2 dX8_put_3 rfl rfl ?_
  refine g_iload_n F 3 dX8_put_4 rfl rfl ?_
  refine g_iload F 4 dX8_put_5 rfl ?_
  refine u_callV (k := 0) (As := [.int 0, .int v1, .int v2, .int v3, .int v4]) (rest := []) (sn := fun r1 => [.int r1.1]) F B (fun _ => wX8_isDone (zl z) E hE bk (0 : Int32) v1 v2 v3 v4 I J) mX8_isDone q578 rfl s0 rfl rfl rfl (Nat.le_of_ble_eq_true rfl) dX8_put_7 (fun _ => rfl) h (fun r1 h => ?_)
  refine u_if_eq (tgt := 25) F dX8_put_10 (by decide) h (fun h => ?_) (fun h => ?_)
  · refine g_iconst (v := (-1)) F dX8_put_25 (by decide) ?_
    obtain rfl := Option.some.inj h
    exact g_iret F e dX8_put_26 ⟨rfl, rfl, rfl⟩
  · refine g_aload_n F 0 dX8_put_13 rfl rfl ?_
    refine g_getr (j := 1) (nn := 3) F s0 rfl rfl uX8 (by decide) q170 dX8_put_14 ?_
    refine g_getr (j := 4) (nn := 5) F shX5_3.1 rfl rfl uX5 (by decide) q61 dX8_put_17 ?_
    refine g_iload_n F 1 dX8_put_20 rfl rfl ?_
    refine u_rI F shX5_3.2.2.1 (by decide) dX8_put_21 h (fun u2 h => ?_)
    refine g_goto (tgt := 26) F dX8_put_22 (by decide) ?_
    obtain rfl := Option.some.inj h
    exact g_iret F e dX8_put_26 ⟨rfl, rfl, rfl⟩
theorem DX8_take_0 : dAre cX8_take [(0, .aload_n 0, 1), (1, .iconst 1, 1), (2, .iload_n 1, 1), (3, .iload_n 2, 1), (4, .iload_n 3, 1), (5, .iload 4, 2), (7, .invokevirtual 268, 3), (10, .ifCond .eq 15, 3), (13, .aload_n 0, 1), (14, .getfield 19, 3), (17, .getfield 176, 3), (20, .iload_n 1, 1), (21, .iaload, 1), (22, .goto 4, 3), (25, .iconst (-1), 1), (26, .ireturn, 1)] := dAre0 (by decide +kernel)
theorem dX8_take_0 : decode cX8_take 0 = .ok (.aload_n 0, 1) := DX8_take_0.1
theorem dX8_take_1 : decode cX8_take 1 = .ok (.iconst 1, 1) := DX8_take_0.2.1
theorem dX8_take_2 : decode cX8_take 2 = .ok (.iload_n 1, 1) := DX8_take_0.2.2.1
theorem dX8_take_3 : decode cX8_take 3 = .ok (.iload_n 2, 1) := DX8_take_0.2.2.2.1
theorem dX8_take_4 : decode cX8_take 4 = .ok (.iload_n 3, 1) := DX8_take_0.2.2.2.2.1
theorem dX8_take_5 : decode cX8_take 5 = .ok (.iload 4, 2) := DX8_take_0.2.2.2.2.2.1
theorem dX8_take_7 : decode cX8_take 7 = .ok (.invokevirtual 268, 3) := DX8_take_0.2.2.2.2.2.2.1
theorem dX8_take_10 : decode cX8_take 10 = .ok (.ifCond .eq 15, 3) := DX8_take_0.2.2.2.2.2.2.2.1
theorem dX8_take_13 : decode cX8_take 13 = .ok (.aload_n 0, 1) := DX8_take_0.2.2.2.2.2.2.2.2.1
theorem dX8_take_14 : decode cX8_take 14 = .ok (.getfield 19, 3) := DX8_take_0.2.2.2.2.2.2.2.2.2.1
theorem dX8_take_17 : decode cX8_take 17 = .ok (.getfield 176, 3) := DX8_take_0.2.2.2.2.2.2.2.2.2.2.1
theorem dX8_take_20 : decode cX8_take 20 = .ok (.iload_n 1, 1) := DX8_take_0.2.2.2.2.2.2.2.2.2.2.2.1
theorem dX8_take_21 : decode cX8_take 21 = .ok (.iaload, 1) := DX8_take_0.2.2.2.2.2.2.2.2.2.2.2.2.1
theorem dX8_take_22 : decode cX8_take 22 = .ok (.goto 4, 3) := DX8_take_0.2.2.2.2.2.2.2.2.2.2.2.2.2.1
theorem dX8_take_25 : decode cX8_take 25 = .ok (.iconst (-1), 1) := DX8_take_0.2.2.2.2.2.2.2.2.2.2.2.2.2.2.1
theorem dX8_take_26 : decode cX8_take 26 = .ok (.ireturn, 1) := DX8_take_0.2.2.2.2.2.2.2.2.2.2.2.2.2.2.2.1
theorem mX8_take : gMv yX8_take cX8_take 5 (some .int) RX8 4 := ⟨q617, q618, q1, q619, rfl, by decide, by decide, by decide +kernel⟩
noncomputable def fX8_take (v1 : Int32) (v2 : Int32) (v3 : Int32) (v4 : Int32) (I : gM) : Option (Int32 × gM) :=
  (fX8_isDone (1 : Int32) v1 v2 v3 v4 I).bind fun r1 =>
  if r1.1 = 0 then
    some (((-1) : Int32), r1.2)
  else
    (rI 4 (r1.2 5) v1).bind fun u2 =>
    some (u2, r1.2)
set_option maxRecDepth 100000 in
set_option maxHeartbeats 4000000 in
theorem wX8_take (l : Launch) (E : gE) (hE : gDist sh E) (bk : Nat) (v1 : Int32) (v2 : Int32) (v3 : Int32) (v4 : Int32) (I : gM) (J : gN) {r : Int32 × gM} (h : fX8_take v1 v2 v3 v4 I = some r) : Cu l sh E bk yX8_take cX8_take 5 (some .int) (gR 19) [.ref (E.2.1 0), .int v1, .int v2, .int v3, .int v4] I J (fun r1 I1 J1 => r1 = some (.int r.1) ∧ I1 = r.2 ∧ J1 = J) := by
  refine Cu.of "LeapJoin" rfl hE (by decide) (Nat.le_of_ble_eq_true rfl) (fun z F B e hl => ?_)
  subst hl
  unfold fX8_take at h
  refine g_aload_n F 0 dX8_take_0 rfl rfl ?_
  refine g_iconst (v := 1) F dX8_take_1 (by decide) ?_
  refine g_iload_n F 1 dX8_take_2 rfl rfl ?_
  refine g_iload_n F 2 dX8_take_3 rfl rfl ?_
  refine g_iload_n F 3 dX8_take_4 rfl rfl ?_
  refine g_iload F 4 dX8_take_5 rfl ?_
  refine u_callV (k := 0) (As := [.int 1, .int v1, .int v2, .int v3, .int v4]) (rest := []) (sn := fun r1 => [.int r1.1]) F B (fun _ => wX8_isDone (zl z) E hE bk (1 : Int32) v1 v2 v3 v4 I J) mX8_isDone q578 rfl s0 rfl rfl rfl (Nat.le_of_ble_eq_true rfl) dX8_take_7 (fun _ => rfl) h (fun r1 h => ?_)
  refine u_if_eq (tgt := 25) F dX8_take_10 (by decide) h (fun h => ?_) (fun h => ?_)
  · refine g_iconst (v := (-1)) F dX8_take_25 (by decide) ?_
    obtain rfl := Option.some.inj h
    exact g_iret F e dX8_take_26 ⟨rfl, rfl, rfl⟩
  · refine g_aload_n F 0 dX8_take_13 rfl rfl ?_
    refine g_getr (j := 1) (nn := 3) F s0 rfl rfl uX8 (by decide) q170 dX8_take_14 ?_
    refine g_getr (j := 4) (nn := 5) F shX5_3.1 rfl rfl uX5 (by decide) q61 dX8_take_17 ?_
    refine g_iload_n F 1 dX8_take_20 rfl rfl ?_
    refine u_rI F shX5_3.2.2.1 (by decide) dX8_take_21 h (fun u2 h => ?_)
    refine g_goto (tgt := 26) F dX8_take_22 (by decide) ?_
    obtain rfl := Option.some.inj h
    exact g_iret F e dX8_take_26 ⟨rfl, rfl, rfl⟩
theorem DX8_use_0 : dAre cX8_use [(0, .aload_n 0, 1), (1, .iconst 2, 1), (2, .iload_n 1, 1), (3, .iconst (-1), 1), (4, .iconst (-1), 1), (5, .iconst (-1), 1), (6, .invokevirtual 268, 3), (9, .ifCond .ne 5, 3), (12, .iconst (-1), 1), (13, .ireturn, 1), (14, .aload_n 0, 1), (15, .getfield 19, 3), (18, .iload_n 1, 1), (19, .invokevirtual 179, 3), (22, .ifCond .eq 7, 3), (25, .iconst 1, 1)] := dAre0 (by decide +kernel)
theorem dX8_use_0 : decode cX8_use 0 = .ok (.aload_n 0, 1) := DX8_use_0.1
theorem dX8_use_1 : decode cX8_use 1 = .ok (.iconst 2, 1) := DX8_use_0.2.1
theorem dX8_use_2 : decode cX8_use 2 = .ok (.iload_n 1, 1) := DX8_use_0.2.2.1
theorem dX8_use_3 : decode cX8_use 3 = .ok (.iconst (-1), 1) := DX8_use_0.2.2.2.1
theorem dX8_use_4 : decode cX8_use 4 = .ok (.iconst (-1), 1) := DX8_use_0.2.2.2.2.1
theorem dX8_use_5 : decode cX8_use 5 = .ok (.iconst (-1), 1) := DX8_use_0.2.2.2.2.2.1
theorem dX8_use_6 : decode cX8_use 6 = .ok (.invokevirtual 268, 3) := DX8_use_0.2.2.2.2.2.2.1
theorem dX8_use_9 : decode cX8_use 9 = .ok (.ifCond .ne 5, 3) := DX8_use_0.2.2.2.2.2.2.2.1
theorem dX8_use_12 : decode cX8_use 12 = .ok (.iconst (-1), 1) := DX8_use_0.2.2.2.2.2.2.2.2.1
theorem dX8_use_13 : decode cX8_use 13 = .ok (.ireturn, 1) := DX8_use_0.2.2.2.2.2.2.2.2.2.1
theorem dX8_use_14 : decode cX8_use 14 = .ok (.aload_n 0, 1) := DX8_use_0.2.2.2.2.2.2.2.2.2.2.1
theorem dX8_use_15 : decode cX8_use 15 = .ok (.getfield 19, 3) := DX8_use_0.2.2.2.2.2.2.2.2.2.2.2.1
theorem dX8_use_18 : decode cX8_use 18 = .ok (.iload_n 1, 1) := DX8_use_0.2.2.2.2.2.2.2.2.2.2.2.2.1
theorem dX8_use_19 : decode cX8_use 19 = .ok (.invokevirtual 179, 3) := DX8_use_0.2.2.2.2.2.2.2.2.2.2.2.2.2.1
theorem dX8_use_22 : decode cX8_use 22 = .ok (.ifCond .eq 7, 3) := DX8_use_0.2.2.2.2.2.2.2.2.2.2.2.2.2.2.1
theorem dX8_use_25 : decode cX8_use 25 = .ok (.iconst 1, 1) := DX8_use_0.2.2.2.2.2.2.2.2.2.2.2.2.2.2.2.1
theorem DX8_use_26 : dAre cX8_use [(26, .goto 4, 3), (29, .iconst 0, 1), (30, .ireturn, 1)] := dAre0 (by decide +kernel)
theorem dX8_use_26 : decode cX8_use 26 = .ok (.goto 4, 3) := DX8_use_26.1
theorem dX8_use_29 : decode cX8_use 29 = .ok (.iconst 0, 1) := DX8_use_26.2.1
theorem dX8_use_30 : decode cX8_use 30 = .ok (.ireturn, 1) := DX8_use_26.2.2.1
theorem mX8_use : gMv yX8_use cX8_use 2 (some .int) RX8 1 := ⟨q621, q622, q1, q623, rfl, by decide, by decide, by decide +kernel⟩
noncomputable def fX8_use (v1 : Int32) (I : gM) : Option (Int32 × gM) :=
  (fX8_isDone (2 : Int32) v1 ((-1) : Int32) ((-1) : Int32) ((-1) : Int32) I).bind fun r1 =>
  if r1.1 = 0 then
    some (((-1) : Int32), r1.2)
  else
    (fX5_isUsed 3 v1 r1.2).bind fun r2 =>
    if r2 = 0 then
      some ((0 : Int32), r1.2)
    else
      some ((1 : Int32), r1.2)
set_option maxRecDepth 100000 in
set_option maxHeartbeats 4000000 in
theorem wX8_use (l : Launch) (E : gE) (hE : gDist sh E) (bk : Nat) (v1 : Int32) (I : gM) (J : gN) {r : Int32 × gM} (h : fX8_use v1 I = some r) : Cu l sh E bk yX8_use cX8_use 2 (some .int) (gR 19) [.ref (E.2.1 0), .int v1] I J (fun r1 I1 J1 => r1 = some (.int r.1) ∧ I1 = r.2 ∧ J1 = J) := by
  refine Cu.of "LeapJoin" rfl hE (by decide) (Nat.le_of_ble_eq_true rfl) (fun z F B e hl => ?_)
  subst hl
  unfold fX8_use at h
  refine g_aload_n F 0 dX8_use_0 rfl rfl ?_
  refine g_iconst (v := 2) F dX8_use_1 (by decide) ?_
  refine g_iload_n F 1 dX8_use_2 rfl rfl ?_
  refine g_iconst (v := (-1)) F dX8_use_3 (by decide) ?_
  refine g_iconst (v := (-1)) F dX8_use_4 (by decide) ?_
  refine g_iconst (v := (-1)) F dX8_use_5 (by decide) ?_
  refine u_callV (k := 0) (As := [.int 2, .int v1, .int (-1), .int (-1), .int (-1)]) (rest := []) (sn := fun r1 => [.int r1.1]) F B (fun _ => wX8_isDone (zl z) E hE bk (2 : Int32) v1 ((-1) : Int32) ((-1) : Int32) ((-1) : Int32) I J) mX8_isDone q578 rfl s0 rfl rfl rfl (Nat.le_of_ble_eq_true rfl) dX8_use_6 (fun _ => rfl) h (fun r1 h => ?_)
  refine u_if_ne (tgt := 14) F dX8_use_9 (by decide) h (fun h => ?_) (fun h => ?_)
  · refine g_iconst (v := (-1)) F dX8_use_12 (by decide) ?_
    obtain rfl := Option.some.inj h
    exact g_iret F e dX8_use_13 ⟨rfl, rfl, rfl⟩
  · refine g_aload_n F 0 dX8_use_14 rfl rfl ?_
    refine g_getr (j := 1) (nn := 3) F s0 rfl rfl uX8 (by decide) q170 dX8_use_15 ?_
    refine g_iload_n F 1 dX8_use_18 rfl rfl ?_
    refine u_callV (k := 3) (As := [.int v1]) (rest := []) (sn := fun r2 => [.int r2]) F B (fun _ => wX5_isUsed (zl z) E hE bk 3 v1 shX5_3 r1.2 J) mX5_isUsed q454 rfl shX5_3.1 rfl rfl rfl (Nat.le_of_ble_eq_true rfl) dX8_use_19 (fun _ => rfl) h (fun r2 h => ?_)
    refine u_if_eq (tgt := 29) F dX8_use_22 (by decide) h (fun h => ?_) (fun h => ?_)
    · refine g_iconst (v := 0) F dX8_use_29 (by decide) ?_
      obtain rfl := Option.some.inj h
      exact g_iret F e dX8_use_30 ⟨rfl, rfl, rfl⟩
    · refine g_iconst (v := 1) F dX8_use_25 (by decide) ?_
      refine g_goto (tgt := 30) F dX8_use_26 (by decide) ?_
      obtain rfl := Option.some.inj h
      exact g_iret F e dX8_use_30 ⟨rfl, rfl, rfl⟩
theorem DX8_order_0 : dAre cX8_order [(0, .aload_n 0, 1), (1, .getfield 19, 3), (4, .getfield 140, 3), (7, .istore_n 2, 1), (8, .aload_n 0, 1), (9, .iconst 3, 1), (10, .iload_n 1, 1), (11, .iconst (-1), 1), (12, .iconst (-1), 1), (13, .iconst (-1), 1), (14, .invokevirtual 268, 3), (17, .ifCond .eq 7, 3), (20, .iload_n 2, 1), (21, .goto 4, 3), (24, .iconst (-1), 1), (25, .ireturn, 1)] := dAre0 (by decide +kernel)
theorem dX8_order_0 : decode cX8_order 0 = .ok (.aload_n 0, 1) := DX8_order_0.1
theorem dX8_order_1 : decode cX8_order 1 = .ok (.getfield 19, 3) := DX8_order_0.2.1
theorem dX8_order_4 : decode cX8_order 4 = .ok (.getfield 140, 3) := DX8_order_0.2.2.1
theorem dX8_order_7 : decode cX8_order 7 = .ok (.istore_n 2, 1) := DX8_order_0.2.2.2.1
theorem dX8_order_8 : decode cX8_order 8 = .ok (.aload_n 0, 1) := DX8_order_0.2.2.2.2.1
theorem dX8_order_9 : decode cX8_order 9 = .ok (.iconst 3, 1) := DX8_order_0.2.2.2.2.2.1
theorem dX8_order_10 : decode cX8_order 10 = .ok (.iload_n 1, 1) := DX8_order_0.2.2.2.2.2.2.1
theorem dX8_order_11 : decode cX8_order 11 = .ok (.iconst (-1), 1) := DX8_order_0.2.2.2.2.2.2.2.1
theorem dX8_order_12 : decode cX8_order 12 = .ok (.iconst (-1), 1) := DX8_order_0.2.2.2.2.2.2.2.2.1
theorem dX8_order_13 : decode cX8_order 13 = .ok (.iconst (-1), 1) := DX8_order_0.2.2.2.2.2.2.2.2.2.1
theorem dX8_order_14 : decode cX8_order 14 = .ok (.invokevirtual 268, 3) := DX8_order_0.2.2.2.2.2.2.2.2.2.2.1
theorem dX8_order_17 : decode cX8_order 17 = .ok (.ifCond .eq 7, 3) := DX8_order_0.2.2.2.2.2.2.2.2.2.2.2.1
theorem dX8_order_20 : decode cX8_order 20 = .ok (.iload_n 2, 1) := DX8_order_0.2.2.2.2.2.2.2.2.2.2.2.2.1
theorem dX8_order_21 : decode cX8_order 21 = .ok (.goto 4, 3) := DX8_order_0.2.2.2.2.2.2.2.2.2.2.2.2.2.1
theorem dX8_order_24 : decode cX8_order 24 = .ok (.iconst (-1), 1) := DX8_order_0.2.2.2.2.2.2.2.2.2.2.2.2.2.2.1
theorem dX8_order_25 : decode cX8_order 25 = .ok (.ireturn, 1) := DX8_order_0.2.2.2.2.2.2.2.2.2.2.2.2.2.2.2.1
theorem mX8_order : gMv yX8_order cX8_order 3 (some .int) RX8 1 := ⟨q625, q626, q1, q627, rfl, by decide, by decide, by decide +kernel⟩
noncomputable def fX8_order (v1 : Int32) (I : gM) : Option (Int32 × gM) :=
  (fX8_isDone (3 : Int32) v1 ((-1) : Int32) ((-1) : Int32) ((-1) : Int32) I).bind fun r1 =>
  if r1.1 = 0 then
    some (((-1) : Int32), r1.2)
  else
    some (I 3 2, r1.2)
set_option maxRecDepth 100000 in
set_option maxHeartbeats 4000000 in
theorem wX8_order (l : Launch) (E : gE) (hE : gDist sh E) (bk : Nat) (v1 : Int32) (I : gM) (J : gN) {r : Int32 × gM} (h : fX8_order v1 I = some r) : Cu l sh E bk yX8_order cX8_order 3 (some .int) (gR 19) [.ref (E.2.1 0), .int v1] I J (fun r1 I1 J1 => r1 = some (.int r.1) ∧ I1 = r.2 ∧ J1 = J) := by
  refine Cu.of "LeapJoin" rfl hE (by decide) (Nat.le_of_ble_eq_true rfl) (fun z F B e hl => ?_)
  subst hl
  unfold fX8_order at h
  refine g_aload_n F 0 dX8_order_0 rfl rfl ?_
  refine g_getr (j := 1) (nn := 3) F s0 rfl rfl uX8 (by decide) q170 dX8_order_1 ?_
  refine g_geti (j := 2) (v := I 3 2) F shX5_3.1 rfl rfl uX5 (by decide) q54 rfl dX8_order_4 ?_
  refine g_istore_n (Ln := [(2, .int (I 3 2)), (0, .ref (E.2.1 0)), (1, .int v1)]) F dX8_order_7 rfl (by decide) rfl ?_
  refine g_aload_n F 1 dX8_order_8 rfl rfl ?_
  refine g_iconst (v := 3) F dX8_order_9 (by decide) ?_
  refine g_iload_n F 2 dX8_order_10 rfl rfl ?_
  refine g_iconst (v := (-1)) F dX8_order_11 (by decide) ?_
  refine g_iconst (v := (-1)) F dX8_order_12 (by decide) ?_
  refine g_iconst (v := (-1)) F dX8_order_13 (by decide) ?_
  refine u_callV (k := 0) (As := [.int 3, .int v1, .int (-1), .int (-1), .int (-1)]) (rest := []) (sn := fun r1 => [.int r1.1]) F B (fun _ => wX8_isDone (zl z) E hE bk (3 : Int32) v1 ((-1) : Int32) ((-1) : Int32) ((-1) : Int32) I J) mX8_isDone q578 rfl s0 rfl rfl rfl (Nat.le_of_ble_eq_true rfl) dX8_order_14 (fun _ => rfl) h (fun r1 h => ?_)
  refine u_if_eq (tgt := 24) F dX8_order_17 (by decide) h (fun h => ?_) (fun h => ?_)
  · refine g_iconst (v := (-1)) F dX8_order_24 (by decide) ?_
    obtain rfl := Option.some.inj h
    exact g_iret F e dX8_order_25 ⟨rfl, rfl, rfl⟩
  · refine g_iload_n F 0 dX8_order_20 rfl rfl ?_
    refine g_goto (tgt := 25) F dX8_order_21 (by decide) ?_
    obtain rfl := Option.some.inj h
    exact g_iret F e dX8_order_25 ⟨rfl, rfl, rfl⟩
theorem DX8_draw_0 : dAre cX8_draw [(0, .aload_n 0, 1), (1, .aload_n 0, 1), (2, .getfield 93, 3), (5, .ldc2_w 299, 3), (8, .lmul, 1), (9, .ldc2_w 301, 3), (12, .ladd, 1), (13, .putfield 93, 3), (16, .iload_n 1, 1), (17, .ifCond .le 17, 3), (20, .aload_n 0, 1), (21, .getfield 93, 3), (24, .bipush 33, 2), (26, .lushr, 1), (27, .iload_n 1, 1), (28, .i2l, 1)] := dAre0 (by decide +kernel)
theorem dX8_draw_0 : decode cX8_draw 0 = .ok (.aload_n 0, 1) := DX8_draw_0.1
theorem dX8_draw_1 : decode cX8_draw 1 = .ok (.aload_n 0, 1) := DX8_draw_0.2.1
theorem dX8_draw_2 : decode cX8_draw 2 = .ok (.getfield 93, 3) := DX8_draw_0.2.2.1
theorem dX8_draw_5 : decode cX8_draw 5 = .ok (.ldc2_w 299, 3) := DX8_draw_0.2.2.2.1
theorem dX8_draw_8 : decode cX8_draw 8 = .ok (.lmul, 1) := DX8_draw_0.2.2.2.2.1
theorem dX8_draw_9 : decode cX8_draw 9 = .ok (.ldc2_w 301, 3) := DX8_draw_0.2.2.2.2.2.1
theorem dX8_draw_12 : decode cX8_draw 12 = .ok (.ladd, 1) := DX8_draw_0.2.2.2.2.2.2.1
theorem dX8_draw_13 : decode cX8_draw 13 = .ok (.putfield 93, 3) := DX8_draw_0.2.2.2.2.2.2.2.1
theorem dX8_draw_16 : decode cX8_draw 16 = .ok (.iload_n 1, 1) := DX8_draw_0.2.2.2.2.2.2.2.2.1
theorem dX8_draw_17 : decode cX8_draw 17 = .ok (.ifCond .le 17, 3) := DX8_draw_0.2.2.2.2.2.2.2.2.2.1
theorem dX8_draw_20 : decode cX8_draw 20 = .ok (.aload_n 0, 1) := DX8_draw_0.2.2.2.2.2.2.2.2.2.2.1
theorem dX8_draw_21 : decode cX8_draw 21 = .ok (.getfield 93, 3) := DX8_draw_0.2.2.2.2.2.2.2.2.2.2.2.1
theorem dX8_draw_24 : decode cX8_draw 24 = .ok (.bipush 33, 2) := DX8_draw_0.2.2.2.2.2.2.2.2.2.2.2.2.1
theorem dX8_draw_26 : decode cX8_draw 26 = .ok (.lushr, 1) := DX8_draw_0.2.2.2.2.2.2.2.2.2.2.2.2.2.1
theorem dX8_draw_27 : decode cX8_draw 27 = .ok (.iload_n 1, 1) := DX8_draw_0.2.2.2.2.2.2.2.2.2.2.2.2.2.2.1
theorem dX8_draw_28 : decode cX8_draw 28 = .ok (.i2l, 1) := DX8_draw_0.2.2.2.2.2.2.2.2.2.2.2.2.2.2.2.1
theorem DX8_draw_29 : dAre cX8_draw [(29, .lrem, 1), (30, .l2i, 1), (31, .goto 4, 3), (34, .iconst 0, 1), (35, .ireturn, 1)] := dAre0 (by decide +kernel)
theorem dX8_draw_29 : decode cX8_draw 29 = .ok (.lrem, 1) := DX8_draw_29.1
theorem dX8_draw_30 : decode cX8_draw 30 = .ok (.l2i, 1) := DX8_draw_29.2.1
theorem dX8_draw_31 : decode cX8_draw 31 = .ok (.goto 4, 3) := DX8_draw_29.2.2.1
theorem dX8_draw_34 : decode cX8_draw 34 = .ok (.iconst 0, 1) := DX8_draw_29.2.2.2.1
theorem dX8_draw_35 : decode cX8_draw 35 = .ok (.ireturn, 1) := DX8_draw_29.2.2.2.2.1
theorem mX8_draw : gMv yX8_draw cX8_draw 2 (some .int) RX8 1 := ⟨q636, q1374, q1, q637, rfl, by decide, by decide, by decide +kernel⟩
noncomputable def fX8_draw (v1 : Int32) (J : gN) : Option (Int32 × gN) :=
  (pU J 0 16 (((J 0 16) * 6364136223846793005) + 1442695040888963407)).bind fun J1 =>
  if v1 ≤ 0 then
    some ((0 : Int32), J1)
  else
    (lM (lU (J1 0 16) 33) v1.toInt64).bind fun u2 =>
    some (u2.toInt32, J1)
set_option maxRecDepth 100000 in
set_option maxHeartbeats 4000000 in
theorem wX8_draw (l : Launch) (E : gE) (hE : gDist sh E) (bk : Nat) (v1 : Int32) (I : gM) (J : gN) {r : Int32 × gN} (h : fX8_draw v1 J = some r) : Cu l sh E bk yX8_draw cX8_draw 2 (some .int) (gR 0) [.ref (E.2.1 0), .int v1] I J (fun r1 I1 J1 => r1 = some (.int r.1) ∧ I1 = I ∧ J1 = r.2) := by
  refine Cu.of "LeapJoin" rfl hE (by decide) (Nat.le_of_ble_eq_true rfl) (fun z F B e hl => ?_)
  subst hl
  unfold fX8_draw at h
  refine g_aload_n F 0 dX8_draw_0 rfl rfl ?_
  refine g_aload_n F 0 dX8_draw_1 rfl rfl ?_
  refine g_getl (j := 16) (v := J 0 16) F s0 rfl rfl uX8 (by decide) q185 rfl dX8_draw_2 ?_
  refine g_ldc2_w F dX8_draw_5 q638 ?_
  refine g_lmul (v := (J 0 16) * 6364136223846793005) F dX8_draw_8 rfl ?_
  refine g_ldc2_w F dX8_draw_9 q639 ?_
  refine g_ladd (v := ((J 0 16) * 6364136223846793005) + 1442695040888963407) F dX8_draw_12 rfl ?_
  refine u_putl (j := 16) F s0 rfl rfl uX8 (by decide) q185 tyX8_ok nmX8 rfl rfl rfl dX8_draw_13 h (fun J1 h => ?_)
  refine g_iload_n F 1 dX8_draw_16 rfl rfl ?_
  refine u_if_le (tgt := 34) F dX8_draw_17 (by decide) h (fun h => ?_) (fun h => ?_)
  · refine g_iconst (v := 0) F dX8_draw_34 (by decide) ?_
    obtain rfl := Option.some.inj h
    exact g_iret F e dX8_draw_35 ⟨rfl, rfl, rfl⟩
  · refine g_aload_n F 0 dX8_draw_20 rfl rfl ?_
    refine g_getl (j := 16) (v := J1 0 16) F s0 rfl rfl uX8 (by decide) q185 rfl dX8_draw_21 ?_
    refine g_bipush (v := 33) F dX8_draw_24 (by decide) ?_
    refine g_lushr (v := lU (J1 0 16) 33) F dX8_draw_26 rfl ?_
    refine g_iload_n F 1 dX8_draw_27 rfl rfl ?_
    refine g_i2l (v := v1.toInt64) F dX8_draw_28 rfl ?_
    refine u_lrem F dX8_draw_29 h (fun u2 h => ?_)
    refine g_l2i (v := u2.toInt32) F dX8_draw_30 rfl ?_
    refine g_goto (tgt := 35) F dX8_draw_31 (by decide) ?_
    obtain rfl := Option.some.inj h
    exact g_iret F e dX8_draw_35 ⟨rfl, rfl, rfl⟩
theorem DX8_goOneWay_0 : dAre cX8_goOneWay [(0, .aload_n 0, 1), (1, .bipush 8, 2), (3, .invokevirtual 293, 3), (6, .istore_n 1, 1), (7, .iload_n 1, 1), (8, .bipush 7, 2), (10, .if_icmp .ne 19, 3), (13, .aload_n 0, 1), (14, .iconst 3, 1), (15, .aload_n 0, 1), (16, .bipush 24, 2), (18, .invokevirtual 293, 3), (21, .iconst (-1), 1), (22, .iconst (-1), 1), (23, .iconst (-1), 1), (24, .invokevirtual 272, 3)] := dAre0 (by decide +kernel)
theorem dX8_goOneWay_0 : decode cX8_goOneWay 0 = .ok (.aload_n 0, 1) := DX8_goOneWay_0.1
theorem dX8_goOneWay_1 : decode cX8_goOneWay 1 = .ok (.bipush 8, 2) := DX8_goOneWay_0.2.1
theorem dX8_goOneWay_3 : decode cX8_goOneWay 3 = .ok (.invokevirtual 293, 3) := DX8_goOneWay_0.2.2.1
theorem dX8_goOneWay_6 : decode cX8_goOneWay 6 = .ok (.istore_n 1, 1) := DX8_goOneWay_0.2.2.2.1
theorem dX8_goOneWay_7 : decode cX8_goOneWay 7 = .ok (.iload_n 1, 1) := DX8_goOneWay_0.2.2.2.2.1
theorem dX8_goOneWay_8 : decode cX8_goOneWay 8 = .ok (.bipush 7, 2) := DX8_goOneWay_0.2.2.2.2.2.1
theorem dX8_goOneWay_10 : decode cX8_goOneWay 10 = .ok (.if_icmp .ne 19, 3) := DX8_goOneWay_0.2.2.2.2.2.2.1
theorem dX8_goOneWay_13 : decode cX8_goOneWay 13 = .ok (.aload_n 0, 1) := DX8_goOneWay_0.2.2.2.2.2.2.2.1
theorem dX8_goOneWay_14 : decode cX8_goOneWay 14 = .ok (.iconst 3, 1) := DX8_goOneWay_0.2.2.2.2.2.2.2.2.1
theorem dX8_goOneWay_15 : decode cX8_goOneWay 15 = .ok (.aload_n 0, 1) := DX8_goOneWay_0.2.2.2.2.2.2.2.2.2.1
theorem dX8_goOneWay_16 : decode cX8_goOneWay 16 = .ok (.bipush 24, 2) := DX8_goOneWay_0.2.2.2.2.2.2.2.2.2.2.1
theorem dX8_goOneWay_18 : decode cX8_goOneWay 18 = .ok (.invokevirtual 293, 3) := DX8_goOneWay_0.2.2.2.2.2.2.2.2.2.2.2.1
theorem dX8_goOneWay_21 : decode cX8_goOneWay 21 = .ok (.iconst (-1), 1) := DX8_goOneWay_0.2.2.2.2.2.2.2.2.2.2.2.2.1
theorem dX8_goOneWay_22 : decode cX8_goOneWay 22 = .ok (.iconst (-1), 1) := DX8_goOneWay_0.2.2.2.2.2.2.2.2.2.2.2.2.2.1
theorem dX8_goOneWay_23 : decode cX8_goOneWay 23 = .ok (.iconst (-1), 1) := DX8_goOneWay_0.2.2.2.2.2.2.2.2.2.2.2.2.2.2.1
theorem dX8_goOneWay_24 : decode cX8_goOneWay 24 = .ok (.invokevirtual 272, 3) := DX8_goOneWay_0.2.2.2.2.2.2.2.2.2.2.2.2.2.2.2.1
theorem DX8_goOneWay_27 : dAre cX8_goOneWay [(27, .pop, 1), (28, .return_, 1), (29, .aload_n 0, 1), (30, .aload_n 0, 1), (31, .getfield 19, 3), (34, .getfield 134, 3), (37, .invokevirtual 293, 3), (40, .istore_n 2, 1), (41, .iload_n 1, 1), (42, .bipush 6, 2), (44, .if_icmp .ne 16, 3), (47, .aload_n 0, 1), (48, .iconst 2, 1), (49, .iload_n 2, 1), (50, .iconst (-1), 1), (51, .iconst (-1), 1)] := dAre0 (by decide +kernel)
theorem dX8_goOneWay_27 : decode cX8_goOneWay 27 = .ok (.pop, 1) := DX8_goOneWay_27.1
theorem dX8_goOneWay_28 : decode cX8_goOneWay 28 = .ok (.return_, 1) := DX8_goOneWay_27.2.1
theorem dX8_goOneWay_29 : decode cX8_goOneWay 29 = .ok (.aload_n 0, 1) := DX8_goOneWay_27.2.2.1
theorem dX8_goOneWay_30 : decode cX8_goOneWay 30 = .ok (.aload_n 0, 1) := DX8_goOneWay_27.2.2.2.1
theorem dX8_goOneWay_31 : decode cX8_goOneWay 31 = .ok (.getfield 19, 3) := DX8_goOneWay_27.2.2.2.2.1
theorem dX8_goOneWay_34 : decode cX8_goOneWay 34 = .ok (.getfield 134, 3) := DX8_goOneWay_27.2.2.2.2.2.1
theorem dX8_goOneWay_37 : decode cX8_goOneWay 37 = .ok (.invokevirtual 293, 3) := DX8_goOneWay_27.2.2.2.2.2.2.1
theorem dX8_goOneWay_40 : decode cX8_goOneWay 40 = .ok (.istore_n 2, 1) := DX8_goOneWay_27.2.2.2.2.2.2.2.1
theorem dX8_goOneWay_41 : decode cX8_goOneWay 41 = .ok (.iload_n 1, 1) := DX8_goOneWay_27.2.2.2.2.2.2.2.2.1
theorem dX8_goOneWay_42 : decode cX8_goOneWay 42 = .ok (.bipush 6, 2) := DX8_goOneWay_27.2.2.2.2.2.2.2.2.2.1
theorem dX8_goOneWay_44 : decode cX8_goOneWay 44 = .ok (.if_icmp .ne 16, 3) := DX8_goOneWay_27.2.2.2.2.2.2.2.2.2.2.1
theorem dX8_goOneWay_47 : decode cX8_goOneWay 47 = .ok (.aload_n 0, 1) := DX8_goOneWay_27.2.2.2.2.2.2.2.2.2.2.2.1
theorem dX8_goOneWay_48 : decode cX8_goOneWay 48 = .ok (.iconst 2, 1) := DX8_goOneWay_27.2.2.2.2.2.2.2.2.2.2.2.2.1
theorem dX8_goOneWay_49 : decode cX8_goOneWay 49 = .ok (.iload_n 2, 1) := DX8_goOneWay_27.2.2.2.2.2.2.2.2.2.2.2.2.2.1
theorem dX8_goOneWay_50 : decode cX8_goOneWay 50 = .ok (.iconst (-1), 1) := DX8_goOneWay_27.2.2.2.2.2.2.2.2.2.2.2.2.2.2.1
theorem dX8_goOneWay_51 : decode cX8_goOneWay 51 = .ok (.iconst (-1), 1) := DX8_goOneWay_27.2.2.2.2.2.2.2.2.2.2.2.2.2.2.2.1
theorem DX8_goOneWay_52 : dAre cX8_goOneWay [(52, .iconst (-1), 1), (53, .invokevirtual 272, 3), (56, .pop, 1), (57, .goto 130, 3), (60, .iload_n 1, 1), (61, .iconst 4, 1), (62, .if_icmp .lt 41, 3), (65, .aload_n 0, 1), (66, .bipush 12, 2), (68, .invokevirtual 293, 3), (71, .istore_n 3, 1), (72, .aload_n 0, 1), (73, .iconst 1, 1), (74, .iload_n 2, 1), (75, .aload_n 0, 1), (76, .iload_n 2, 1)] := dAre0 (by decide +kernel)
theorem dX8_goOneWay_52 : decode cX8_goOneWay 52 = .ok (.iconst (-1), 1) := DX8_goOneWay_52.1
theorem dX8_goOneWay_53 : decode cX8_goOneWay 53 = .ok (.invokevirtual 272, 3) := DX8_goOneWay_52.2.1
theorem dX8_goOneWay_56 : decode cX8_goOneWay 56 = .ok (.pop, 1) := DX8_goOneWay_52.2.2.1
theorem dX8_goOneWay_57 : decode cX8_goOneWay 57 = .ok (.goto 130, 3) := DX8_goOneWay_52.2.2.2.1
theorem dX8_goOneWay_60 : decode cX8_goOneWay 60 = .ok (.iload_n 1, 1) := DX8_goOneWay_52.2.2.2.2.1
theorem dX8_goOneWay_61 : decode cX8_goOneWay 61 = .ok (.iconst 4, 1) := DX8_goOneWay_52.2.2.2.2.2.1
theorem dX8_goOneWay_62 : decode cX8_goOneWay 62 = .ok (.if_icmp .lt 41, 3) := DX8_goOneWay_52.2.2.2.2.2.2.1
theorem dX8_goOneWay_65 : decode cX8_goOneWay 65 = .ok (.aload_n 0, 1) := DX8_goOneWay_52.2.2.2.2.2.2.2.1
theorem dX8_goOneWay_66 : decode cX8_goOneWay 66 = .ok (.bipush 12, 2) := DX8_goOneWay_52.2.2.2.2.2.2.2.2.1
theorem dX8_goOneWay_68 : decode cX8_goOneWay 68 = .ok (.invokevirtual 293, 3) := DX8_goOneWay_52.2.2.2.2.2.2.2.2.2.1
theorem dX8_goOneWay_71 : decode cX8_goOneWay 71 = .ok (.istore_n 3, 1) := DX8_goOneWay_52.2.2.2.2.2.2.2.2.2.2.1
theorem dX8_goOneWay_72 : decode cX8_goOneWay 72 = .ok (.aload_n 0, 1) := DX8_goOneWay_52.2.2.2.2.2.2.2.2.2.2.2.1
theorem dX8_goOneWay_73 : decode cX8_goOneWay 73 = .ok (.iconst 1, 1) := DX8_goOneWay_52.2.2.2.2.2.2.2.2.2.2.2.2.1
theorem dX8_goOneWay_74 : decode cX8_goOneWay 74 = .ok (.iload_n 2, 1) := DX8_goOneWay_52.2.2.2.2.2.2.2.2.2.2.2.2.2.1
theorem dX8_goOneWay_75 : decode cX8_goOneWay 75 = .ok (.aload_n 0, 1) := DX8_goOneWay_52.2.2.2.2.2.2.2.2.2.2.2.2.2.2.1
theorem dX8_goOneWay_76 : decode cX8_goOneWay 76 = .ok (.iload_n 2, 1) := DX8_goOneWay_52.2.2.2.2.2.2.2.2.2.2.2.2.2.2.2.1
theorem DX8_goOneWay_77 : dAre cX8_goOneWay [(77, .iload_n 3, 1), (78, .iconst 0, 1), (79, .invokevirtual 296, 3), (82, .aload_n 0, 1), (83, .iload_n 2, 1), (84, .iload_n 3, 1), (85, .iconst 1, 1), (86, .invokevirtual 296, 3), (89, .aload_n 0, 1), (90, .iload_n 2, 1), (91, .iload_n 3, 1), (92, .iconst 2, 1), (93, .invokevirtual 296, 3), (96, .invokevirtual 272, 3), (99, .pop, 1), (100, .goto 87, 3)] := dAre0 (by decide +kernel)
theorem dX8_goOneWay_77 : decode cX8_goOneWay 77 = .ok (.iload_n 3, 1) := DX8_goOneWay_77.1
theorem dX8_goOneWay_78 : decode cX8_goOneWay 78 = .ok (.iconst 0, 1) := DX8_goOneWay_77.2.1
theorem dX8_goOneWay_79 : decode cX8_goOneWay 79 = .ok (.invokevirtual 296, 3) := DX8_goOneWay_77.2.2.1
theorem dX8_goOneWay_82 : decode cX8_goOneWay 82 = .ok (.aload_n 0, 1) := DX8_goOneWay_77.2.2.2.1
theorem dX8_goOneWay_83 : decode cX8_goOneWay 83 = .ok (.iload_n 2, 1) := DX8_goOneWay_77.2.2.2.2.1
theorem dX8_goOneWay_84 : decode cX8_goOneWay 84 = .ok (.iload_n 3, 1) := DX8_goOneWay_77.2.2.2.2.2.1
theorem dX8_goOneWay_85 : decode cX8_goOneWay 85 = .ok (.iconst 1, 1) := DX8_goOneWay_77.2.2.2.2.2.2.1
theorem dX8_goOneWay_86 : decode cX8_goOneWay 86 = .ok (.invokevirtual 296, 3) := DX8_goOneWay_77.2.2.2.2.2.2.2.1
theorem dX8_goOneWay_89 : decode cX8_goOneWay 89 = .ok (.aload_n 0, 1) := DX8_goOneWay_77.2.2.2.2.2.2.2.2.1
theorem dX8_goOneWay_90 : decode cX8_goOneWay 90 = .ok (.iload_n 2, 1) := DX8_goOneWay_77.2.2.2.2.2.2.2.2.2.1
theorem dX8_goOneWay_91 : decode cX8_goOneWay 91 = .ok (.iload_n 3, 1) := DX8_goOneWay_77.2.2.2.2.2.2.2.2.2.2.1
theorem dX8_goOneWay_92 : decode cX8_goOneWay 92 = .ok (.iconst 2, 1) := DX8_goOneWay_77.2.2.2.2.2.2.2.2.2.2.2.1
theorem dX8_goOneWay_93 : decode cX8_goOneWay 93 = .ok (.invokevirtual 296, 3) := DX8_goOneWay_77.2.2.2.2.2.2.2.2.2.2.2.2.1
theorem dX8_goOneWay_96 : decode cX8_goOneWay 96 = .ok (.invokevirtual 272, 3) := DX8_goOneWay_77.2.2.2.2.2.2.2.2.2.2.2.2.2.1
theorem dX8_goOneWay_99 : decode cX8_goOneWay 99 = .ok (.pop, 1) := DX8_goOneWay_77.2.2.2.2.2.2.2.2.2.2.2.2.2.2.1
theorem dX8_goOneWay_100 : decode cX8_goOneWay 100 = .ok (.goto 87, 3) := DX8_goOneWay_77.2.2.2.2.2.2.2.2.2.2.2.2.2.2.2.1
theorem DX8_goOneWay_103 : dAre cX8_goOneWay [(103, .aload_n 0, 1), (104, .getfield 19, 3), (107, .iload_n 2, 1), (108, .invokevirtual 159, 3), (111, .ifCond .eq 76, 3), (114, .aload_n 0, 1), (115, .getfield 19, 3), (118, .getfield 170, 3), (121, .iload_n 2, 1), (122, .iaload, 1), (123, .istore_n 3, 1), (124, .iload_n 3, 1), (125, .ifCond .le 12, 3), (128, .aload_n 0, 1), (129, .bipush 6, 2), (131, .invokevirtual 293, 3)] := dAre0 (by decide +kernel)
theorem dX8_goOneWay_103 : decode cX8_goOneWay 103 = .ok (.aload_n 0, 1) := DX8_goOneWay_103.1
theorem dX8_goOneWay_104 : decode cX8_goOneWay 104 = .ok (.getfield 19, 3) := DX8_goOneWay_103.2.1
theorem dX8_goOneWay_107 : decode cX8_goOneWay 107 = .ok (.iload_n 2, 1) := DX8_goOneWay_103.2.2.1
theorem dX8_goOneWay_108 : decode cX8_goOneWay 108 = .ok (.invokevirtual 159, 3) := DX8_goOneWay_103.2.2.2.1
theorem dX8_goOneWay_111 : decode cX8_goOneWay 111 = .ok (.ifCond .eq 76, 3) := DX8_goOneWay_103.2.2.2.2.1
theorem dX8_goOneWay_114 : decode cX8_goOneWay 114 = .ok (.aload_n 0, 1) := DX8_goOneWay_103.2.2.2.2.2.1
theorem dX8_goOneWay_115 : decode cX8_goOneWay 115 = .ok (.getfield 19, 3) := DX8_goOneWay_103.2.2.2.2.2.2.1
theorem dX8_goOneWay_118 : decode cX8_goOneWay 118 = .ok (.getfield 170, 3) := DX8_goOneWay_103.2.2.2.2.2.2.2.1
theorem dX8_goOneWay_121 : decode cX8_goOneWay 121 = .ok (.iload_n 2, 1) := DX8_goOneWay_103.2.2.2.2.2.2.2.2.1
theorem dX8_goOneWay_122 : decode cX8_goOneWay 122 = .ok (.iaload, 1) := DX8_goOneWay_103.2.2.2.2.2.2.2.2.2.1
theorem dX8_goOneWay_123 : decode cX8_goOneWay 123 = .ok (.istore_n 3, 1) := DX8_goOneWay_103.2.2.2.2.2.2.2.2.2.2.1
theorem dX8_goOneWay_124 : decode cX8_goOneWay 124 = .ok (.iload_n 3, 1) := DX8_goOneWay_103.2.2.2.2.2.2.2.2.2.2.2.1
theorem dX8_goOneWay_125 : decode cX8_goOneWay 125 = .ok (.ifCond .le 12, 3) := DX8_goOneWay_103.2.2.2.2.2.2.2.2.2.2.2.2.1
theorem dX8_goOneWay_128 : decode cX8_goOneWay 128 = .ok (.aload_n 0, 1) := DX8_goOneWay_103.2.2.2.2.2.2.2.2.2.2.2.2.2.1
theorem dX8_goOneWay_129 : decode cX8_goOneWay 129 = .ok (.bipush 6, 2) := DX8_goOneWay_103.2.2.2.2.2.2.2.2.2.2.2.2.2.2.1
theorem dX8_goOneWay_131 : decode cX8_goOneWay 131 = .ok (.invokevirtual 293, 3) := DX8_goOneWay_103.2.2.2.2.2.2.2.2.2.2.2.2.2.2.2.1
theorem DX8_goOneWay_134 : dAre cX8_goOneWay [(134, .goto 4, 3), (137, .iconst (-1), 1), (138, .istore 4, 2), (140, .iload_n 3, 1), (141, .iconst 1, 1), (142, .if_icmp .le 12, 3), (145, .aload_n 0, 1), (146, .bipush 6, 2), (148, .invokevirtual 293, 3), (151, .goto 4, 3), (154, .iconst (-1), 1), (155, .istore 5, 2), (157, .iload_n 3, 1), (158, .iconst 2, 1), (159, .if_icmp .le 12, 3), (162, .aload_n 0, 1)] := dAre0 (by decide +kernel)
theorem dX8_goOneWay_134 : decode cX8_goOneWay 134 = .ok (.goto 4, 3) := DX8_goOneWay_134.1
theorem dX8_goOneWay_137 : decode cX8_goOneWay 137 = .ok (.iconst (-1), 1) := DX8_goOneWay_134.2.1
theorem dX8_goOneWay_138 : decode cX8_goOneWay 138 = .ok (.istore 4, 2) := DX8_goOneWay_134.2.2.1
theorem dX8_goOneWay_140 : decode cX8_goOneWay 140 = .ok (.iload_n 3, 1) := DX8_goOneWay_134.2.2.2.1
theorem dX8_goOneWay_141 : decode cX8_goOneWay 141 = .ok (.iconst 1, 1) := DX8_goOneWay_134.2.2.2.2.1
theorem dX8_goOneWay_142 : decode cX8_goOneWay 142 = .ok (.if_icmp .le 12, 3) := DX8_goOneWay_134.2.2.2.2.2.1
theorem dX8_goOneWay_145 : decode cX8_goOneWay 145 = .ok (.aload_n 0, 1) := DX8_goOneWay_134.2.2.2.2.2.2.1
theorem dX8_goOneWay_146 : decode cX8_goOneWay 146 = .ok (.bipush 6, 2) := DX8_goOneWay_134.2.2.2.2.2.2.2.1
theorem dX8_goOneWay_148 : decode cX8_goOneWay 148 = .ok (.invokevirtual 293, 3) := DX8_goOneWay_134.2.2.2.2.2.2.2.2.1
theorem dX8_goOneWay_151 : decode cX8_goOneWay 151 = .ok (.goto 4, 3) := DX8_goOneWay_134.2.2.2.2.2.2.2.2.2.1
theorem dX8_goOneWay_154 : decode cX8_goOneWay 154 = .ok (.iconst (-1), 1) := DX8_goOneWay_134.2.2.2.2.2.2.2.2.2.2.1
theorem dX8_goOneWay_155 : decode cX8_goOneWay 155 = .ok (.istore 5, 2) := DX8_goOneWay_134.2.2.2.2.2.2.2.2.2.2.2.1
theorem dX8_goOneWay_157 : decode cX8_goOneWay 157 = .ok (.iload_n 3, 1) := DX8_goOneWay_134.2.2.2.2.2.2.2.2.2.2.2.2.1
theorem dX8_goOneWay_158 : decode cX8_goOneWay 158 = .ok (.iconst 2, 1) := DX8_goOneWay_134.2.2.2.2.2.2.2.2.2.2.2.2.2.1
theorem dX8_goOneWay_159 : decode cX8_goOneWay 159 = .ok (.if_icmp .le 12, 3) := DX8_goOneWay_134.2.2.2.2.2.2.2.2.2.2.2.2.2.2.1
theorem dX8_goOneWay_162 : decode cX8_goOneWay 162 = .ok (.aload_n 0, 1) := DX8_goOneWay_134.2.2.2.2.2.2.2.2.2.2.2.2.2.2.2.1
theorem DX8_goOneWay_163 : dAre cX8_goOneWay [(163, .bipush 6, 2), (165, .invokevirtual 293, 3), (168, .goto 4, 3), (171, .iconst (-1), 1), (172, .istore 6, 2), (174, .aload_n 0, 1), (175, .iconst 0, 1), (176, .iload_n 2, 1), (177, .iload 4, 2), (179, .iload 5, 2), (181, .iload 6, 2), (183, .invokevirtual 272, 3), (186, .pop, 1), (187, .return_, 1)] := dAre0 (by decide +kernel)
theorem dX8_goOneWay_163 : decode cX8_goOneWay 163 = .ok (.bipush 6, 2) := DX8_goOneWay_163.1
theorem dX8_goOneWay_165 : decode cX8_goOneWay 165 = .ok (.invokevirtual 293, 3) := DX8_goOneWay_163.2.1
theorem dX8_goOneWay_168 : decode cX8_goOneWay 168 = .ok (.goto 4, 3) := DX8_goOneWay_163.2.2.1
theorem dX8_goOneWay_171 : decode cX8_goOneWay 171 = .ok (.iconst (-1), 1) := DX8_goOneWay_163.2.2.2.1
theorem dX8_goOneWay_172 : decode cX8_goOneWay 172 = .ok (.istore 6, 2) := DX8_goOneWay_163.2.2.2.2.1
theorem dX8_goOneWay_174 : decode cX8_goOneWay 174 = .ok (.aload_n 0, 1) := DX8_goOneWay_163.2.2.2.2.2.1
theorem dX8_goOneWay_175 : decode cX8_goOneWay 175 = .ok (.iconst 0, 1) := DX8_goOneWay_163.2.2.2.2.2.2.1
theorem dX8_goOneWay_176 : decode cX8_goOneWay 176 = .ok (.iload_n 2, 1) := DX8_goOneWay_163.2.2.2.2.2.2.2.1
theorem dX8_goOneWay_177 : decode cX8_goOneWay 177 = .ok (.iload 4, 2) := DX8_goOneWay_163.2.2.2.2.2.2.2.2.1
theorem dX8_goOneWay_179 : decode cX8_goOneWay 179 = .ok (.iload 5, 2) := DX8_goOneWay_163.2.2.2.2.2.2.2.2.2.1
theorem dX8_goOneWay_181 : decode cX8_goOneWay 181 = .ok (.iload 6, 2) := DX8_goOneWay_163.2.2.2.2.2.2.2.2.2.2.1
theorem dX8_goOneWay_183 : decode cX8_goOneWay 183 = .ok (.invokevirtual 272, 3) := DX8_goOneWay_163.2.2.2.2.2.2.2.2.2.2.2.1
theorem dX8_goOneWay_186 : decode cX8_goOneWay 186 = .ok (.pop, 1) := DX8_goOneWay_163.2.2.2.2.2.2.2.2.2.2.2.2.1
theorem dX8_goOneWay_187 : decode cX8_goOneWay 187 = .ok (.return_, 1) := DX8_goOneWay_163.2.2.2.2.2.2.2.2.2.2.2.2.2.1
theorem mX8_goOneWay : gMv yX8_goOneWay cX8_goOneWay 7 none RX8 0 := ⟨q633, q1373, q1, q634, rfl, by decide, by decide, by decide +kernel⟩
noncomputable def bX8_goOneWay_172 (v2 : Int32) (v4 : Int32) (v5 : Int32) (t0 : Int32) (I : gM) (J : gN) : Option (gM × gN) :=
  (fX8_attempt (0 : Int32) v2 v4 v5 t0 I).bind fun r8 =>
  some (r8.2, J)
set_option maxRecDepth 100000 in
set_option maxHeartbeats 4000000 in
theorem wbX8_goOneWay_172 {z : gZ} {E : gE} {bk : Nat} (F : Fx z sh E "LeapJoin" cX8_goOneWay (gR 18) 7) (B : bZ z bk) (hE : gDist sh E) (v2 : Int32) (v4 : Int32) (v5 : Int32) (t0 : Int32) (I : gM) (J : gN) {y : gM × gN} (h : bX8_goOneWay_172 v2 v4 v5 t0 I J = some y) (e : Fe z sh E none (fun r1 I1 J1 => r1 = none ∧ I1 = y.1 ∧ J1 = y.2)) : G z 172 [(0, .ref (E.2.1 0)), (2, .int v2), (4, .int v4), (5, .int v5)] [.int t0] I J := by
  unfold bX8_goOneWay_172 at h
  refine g_istore (Ln := [(6, .int t0), (0, .ref (E.2.1 0)), (2, .int v2), (4, .int v4), (5, .int v5)]) F dX8_goOneWay_172 (by decide) rfl ?_
  refine g_aload_n F 1 dX8_goOneWay_174 rfl rfl ?_
  refine g_iconst (v := 0) F dX8_goOneWay_175 (by decide) ?_
  refine g_iload_n F 2 dX8_goOneWay_176 rfl rfl ?_
  refine g_iload F 3 dX8_goOneWay_177 rfl ?_
  refine g_iload F 4 dX8_goOneWay_179 rfl ?_
  refine g_iload F 0 dX8_goOneWay_181 rfl ?_
  refine u_callV (k := 0) (As := [.int 0, .int v2, .int v4, .int v5, .int t0]) (rest := []) (sn := fun r8 => [.int r8.1]) F B (fun _ => wX8_attempt (zl z) E hE bk (0 : Int32) v2 v4 v5 t0 I J) mX8_attempt q581 rfl s0 rfl rfl rfl (Nat.le_of_ble_eq_true rfl) dX8_goOneWay_183 (fun _ => rfl) h (fun r8 h => ?_)
  refine g_pop F dX8_goOneWay_186 rfl ?_
  obtain rfl := Option.some.inj h
  exact g_vret F e dX8_goOneWay_187 ⟨rfl, rfl, rfl⟩
noncomputable def bX8_goOneWay_155 (v2 : Int32) (v3 : Int32) (v4 : Int32) (t0 : Int32) (I : gM) (J : gN) : Option (gM × gN) :=
  if v3 ≤ 2 then
    bX8_goOneWay_172 v2 v4 t0 ((-1) : Int32) I J
  else
    (fX8_draw (6 : Int32) J).bind fun r9 =>
    bX8_goOneWay_172 v2 v4 t0 r9.1 I r9.2
set_option maxRecDepth 100000 in
set_option maxHeartbeats 4000000 in
theorem wbX8_goOneWay_155 {z : gZ} {E : gE} {bk : Nat} (F : Fx z sh E "LeapJoin" cX8_goOneWay (gR 18) 7) (B : bZ z bk) (hE : gDist sh E) (v2 : Int32) (v3 : Int32) (v4 : Int32) (t0 : Int32) (I : gM) (J : gN) {y : gM × gN} (h : bX8_goOneWay_155 v2 v3 v4 t0 I J = some y) (e : Fe z sh E none (fun r1 I1 J1 => r1 = none ∧ I1 = y.1 ∧ J1 = y.2)) : G z 155 [(0, .ref (E.2.1 0)), (2, .int v2), (3, .int v3), (4, .int v4)] [.int t0] I J := by
  unfold bX8_goOneWay_155 at h
  refine g_istore (Ln := [(5, .int t0), (0, .ref (E.2.1 0)), (2, .int v2), (3, .int v3), (4, .int v4)]) F dX8_goOneWay_155 (by decide) rfl ?_
  refine g_iload_n F 3 dX8_goOneWay_157 rfl rfl ?_
  refine g_iconst (v := 2) F dX8_goOneWay_158 (by decide) ?_
  refine u_icmp_le (tgt := 171) F dX8_goOneWay_159 (by decide) h (fun h => ?_) (fun h => ?_)
  · refine g_iconst (v := (-1)) F dX8_goOneWay_171 (by decide) ?_
    refine g_sub (Ln := [(0, .ref (E.2.1 0)), (2, .int v2), (4, .int v4), (5, .int t0)]) [1, 2, 4, 0] rfl ?_
    exact wbX8_goOneWay_172 F B hE v2 v4 t0 ((-1) : Int32) I J h e
  · refine g_aload_n F 1 dX8_goOneWay_162 rfl rfl ?_
    refine g_bipush (v := 6) F dX8_goOneWay_163 (by decide) ?_
    refine u_callV (k := 0) (As := [.int 6]) (rest := []) (sn := fun r9 => [.int r9.1]) F B (fun _ => wX8_draw (zl z) E hE bk (6 : Int32) I J) mX8_draw q635 rfl s0 rfl rfl rfl (Nat.le_of_ble_eq_true rfl) dX8_goOneWay_165 (fun _ => rfl) h (fun r9 h => ?_)
    refine g_goto (tgt := 172) F dX8_goOneWay_168 (by decide) ?_
    refine g_sub (Ln := [(0, .ref (E.2.1 0)), (2, .int v2), (4, .int v4), (5, .int t0)]) [1, 2, 4, 0] rfl ?_
    exact wbX8_goOneWay_172 F B hE v2 v4 t0 r9.1 I r9.2 h e
noncomputable def bX8_goOneWay_138 (v2 : Int32) (v3 : Int32) (t0 : Int32) (I : gM) (J : gN) : Option (gM × gN) :=
  if v3 ≤ 1 then
    bX8_goOneWay_155 v2 v3 t0 ((-1) : Int32) I J
  else
    (fX8_draw (6 : Int32) J).bind fun r10 =>
    bX8_goOneWay_155 v2 v3 t0 r10.1 I r10.2
set_option maxRecDepth 100000 in
set_option maxHeartbeats 4000000 in
theorem wbX8_goOneWay_138 {z : gZ} {E : gE} {bk : Nat} (F : Fx z sh E "LeapJoin" cX8_goOneWay (gR 18) 7) (B : bZ z bk) (hE : gDist sh E) (v2 : Int32) (v3 : Int32) (t0 : Int32) (I : gM) (J : gN) {y : gM × gN} (h : bX8_goOneWay_138 v2 v3 t0 I J = some y) (e : Fe z sh E none (fun r1 I1 J1 => r1 = none ∧ I1 = y.1 ∧ J1 = y.2)) : G z 138 [(0, .ref (E.2.1 0)), (2, .int v2), (3, .int v3)] [.int t0] I J := by
  unfold bX8_goOneWay_138 at h
  refine g_istore (Ln := [(4, .int t0), (0, .ref (E.2.1 0)), (2, .int v2), (3, .int v3)]) F dX8_goOneWay_138 (by decide) rfl ?_
  refine g_iload_n F 3 dX8_goOneWay_140 rfl rfl ?_
  refine g_iconst (v := 1) F dX8_goOneWay_141 (by decide) ?_
  refine u_icmp_le (tgt := 154) F dX8_goOneWay_142 (by decide) h (fun h => ?_) (fun h => ?_)
  · refine g_iconst (v := (-1)) F dX8_goOneWay_154 (by decide) ?_
    refine g_sub (Ln := [(0, .ref (E.2.1 0)), (2, .int v2), (3, .int v3), (4, .int t0)]) [1, 2, 3, 0] rfl ?_
    exact wbX8_goOneWay_155 F B hE v2 v3 t0 ((-1) : Int32) I J h e
  · refine g_aload_n F 1 dX8_goOneWay_145 rfl rfl ?_
    refine g_bipush (v := 6) F dX8_goOneWay_146 (by decide) ?_
    refine u_callV (k := 0) (As := [.int 6]) (rest := []) (sn := fun r10 => [.int r10.1]) F B (fun _ => wX8_draw (zl z) E hE bk (6 : Int32) I J) mX8_draw q635 rfl s0 rfl rfl rfl (Nat.le_of_ble_eq_true rfl) dX8_goOneWay_148 (fun _ => rfl) h (fun r10 h => ?_)
    refine g_goto (tgt := 155) F dX8_goOneWay_151 (by decide) ?_
    refine g_sub (Ln := [(0, .ref (E.2.1 0)), (2, .int v2), (3, .int v3), (4, .int t0)]) [1, 2, 3, 0] rfl ?_
    exact wbX8_goOneWay_155 F B hE v2 v3 t0 r10.1 I r10.2 h e
noncomputable def fX8_goOneWay (I : gM) (J : gN) : Option (gM × gN) :=
  (fX8_draw (8 : Int32) J).bind fun r1 =>
  if r1.1 = 7 then
    (fX8_draw (24 : Int32) r1.2).bind fun r2 =>
    (fX8_attempt (3 : Int32) r2.1 ((-1) : Int32) ((-1) : Int32) ((-1) : Int32) I).bind fun r3 =>
    some (r3.2, r2.2)
  else
    (fX8_draw (I 3 0) r1.2).bind fun r4 =>
    if r1.1 = 6 then
      (fX8_attempt (2 : Int32) r4.1 ((-1) : Int32) ((-1) : Int32) ((-1) : Int32) I).bind fun r5 =>
      some (r5.2, r4.2)
    else
      if r1.1 < 4 then
        (fX5_isTable 3 r4.1 I).bind fun r6 =>
        if r6 = 0 then
          some (I, r4.2)
        else
          (rI 4 (I 4) r4.1).bind fun u7 =>
          if u7 ≤ 0 then
            bX8_goOneWay_138 r4.1 u7 ((-1) : Int32) I r4.2
          else
            (fX8_draw (6 : Int32) r4.2).bind fun r11 =>
            bX8_goOneWay_138 r4.1 u7 r11.1 I r11.2
      else
        (fX8_draw (12 : Int32) r4.2).bind fun r12 =>
        (fX8_cell r4.1 r12.1 (0 : Int32) I).bind fun r13 =>
        (fX8_cell r4.1 r12.1 (1 : Int32) I).bind fun r14 =>
        (fX8_cell r4.1 r12.1 (2 : Int32) I).bind fun r15 =>
        (fX8_attempt (1 : Int32) r4.1 r13 r14 r15 I).bind fun r16 =>
        some (r16.2, r12.2)
set_option maxRecDepth 100000 in
set_option maxHeartbeats 4000000 in
theorem wX8_goOneWay (l : Launch) (E : gE) (hE : gDist sh E) (bk : Nat) (I : gM) (J : gN) {r : gM × gN} (h : fX8_goOneWay I J = some r) : Cu l sh E bk yX8_goOneWay cX8_goOneWay 7 none (gR 18) [.ref (E.2.1 0)] I J (fun r1 I1 J1 => r1 = none ∧ I1 = r.1 ∧ J1 = r.2) := by
  refine Cu.of "LeapJoin" rfl hE (by decide) (Nat.le_of_ble_eq_true rfl) (fun z F B e hl => ?_)
  subst hl
  unfold fX8_goOneWay at h
  refine g_aload_n F 0 dX8_goOneWay_0 rfl rfl ?_
  refine g_bipush (v := 8) F dX8_goOneWay_1 (by decide) ?_
  refine u_callV (k := 0) (As := [.int 8]) (rest := []) (sn := fun r1 => [.int r1.1]) F B (fun _ => wX8_draw (zl z) E hE bk (8 : Int32) I J) mX8_draw q635 rfl s0 rfl rfl rfl (Nat.le_of_ble_eq_true rfl) dX8_goOneWay_3 (fun _ => rfl) h (fun r1 h => ?_)
  refine g_istore_n (Ln := [(1, .int r1.1), (0, .ref (E.2.1 0))]) F dX8_goOneWay_6 rfl (by decide) rfl ?_
  refine g_iload_n F 0 dX8_goOneWay_7 rfl rfl ?_
  refine g_bipush (v := 7) F dX8_goOneWay_8 (by decide) ?_
  refine u_icmp_ne (tgt := 29) F dX8_goOneWay_10 (by decide) h (fun h => ?_) (fun h => ?_)
  · refine g_aload_n F 1 dX8_goOneWay_13 rfl rfl ?_
    refine g_iconst (v := 3) F dX8_goOneWay_14 (by decide) ?_
    refine g_aload_n F 1 dX8_goOneWay_15 rfl rfl ?_
    refine g_bipush (v := 24) F dX8_goOneWay_16 (by decide) ?_
    refine u_callV (k := 0) (As := [.int 24]) (rest := [.int 3, .ref (E.2.1 0)]) (sn := fun r2 => [.int r2.1, .int 3, .ref (E.2.1 0)]) F B (fun _ => wX8_draw (zl z) E hE bk (24 : Int32) I r1.2) mX8_draw q635 rfl s0 rfl rfl rfl (Nat.le_of_ble_eq_true rfl) dX8_goOneWay_18 (fun _ => rfl) h (fun r2 h => ?_)
    refine g_iconst (v := (-1)) F dX8_goOneWay_21 (by decide) ?_
    refine g_iconst (v := (-1)) F dX8_goOneWay_22 (by decide) ?_
    refine g_iconst (v := (-1)) F dX8_goOneWay_23 (by decide) ?_
    refine u_callV (k := 0) (As := [.int 3, .int r2.1, .int (-1), .int (-1), .int (-1)]) (rest := []) (sn := fun r3 => [.int r3.1]) F B (fun _ => wX8_attempt (zl z) E hE bk (3 : Int32) r2.1 ((-1) : Int32) ((-1) : Int32) ((-1) : Int32) I r2.2) mX8_attempt q581 rfl s0 rfl rfl rfl (Nat.le_of_ble_eq_true rfl) dX8_goOneWay_24 (fun _ => rfl) h (fun r3 h => ?_)
    refine g_pop F dX8_goOneWay_27 rfl ?_
    obtain rfl := Option.some.inj h
    exact g_vret F e dX8_goOneWay_28 ⟨rfl, rfl, rfl⟩
  · refine g_aload_n F 1 dX8_goOneWay_29 rfl rfl ?_
    refine g_aload_n F 1 dX8_goOneWay_30 rfl rfl ?_
    refine g_getr (j := 1) (nn := 3) F s0 rfl rfl uX8 (by decide) q170 dX8_goOneWay_31 ?_
    refine g_geti (j := 0) (v := I 3 0) F shX5_3.1 rfl rfl uX5 (by decide) q49 rfl dX8_goOneWay_34 ?_
    refine u_callV (k := 0) (As := [.int (I 3 0)]) (rest := []) (sn := fun r4 => [.int r4.1]) F B (fun _ => wX8_draw (zl z) E hE bk (I 3 0) I r1.2) mX8_draw q635 rfl s0 rfl rfl rfl (Nat.le_of_ble_eq_true rfl) dX8_goOneWay_37 (fun _ => rfl) h (fun r4 h => ?_)
    refine g_istore_n (Ln := [(2, .int r4.1), (1, .int r1.1), (0, .ref (E.2.1 0))]) F dX8_goOneWay_40 rfl (by decide) rfl ?_
    refine g_iload_n F 1 dX8_goOneWay_41 rfl rfl ?_
    refine g_bipush (v := 6) F dX8_goOneWay_42 (by decide) ?_
    refine u_icmp_ne (tgt := 60) F dX8_goOneWay_44 (by decide) h (fun h => ?_) (fun h => ?_)
    · refine g_aload_n F 2 dX8_goOneWay_47 rfl rfl ?_
      refine g_iconst (v := 2) F dX8_goOneWay_48 (by decide) ?_
      refine g_iload_n F 0 dX8_goOneWay_49 rfl rfl ?_
      refine g_iconst (v := (-1)) F dX8_goOneWay_50 (by decide) ?_
      refine g_iconst (v := (-1)) F dX8_goOneWay_51 (by decide) ?_
      refine g_iconst (v := (-1)) F dX8_goOneWay_52 (by decide) ?_
      refine u_callV (k := 0) (As := [.int 2, .int r4.1, .int (-1), .int (-1), .int (-1)]) (rest := []) (sn := fun r5 => [.int r5.1]) F B (fun _ => wX8_attempt (zl z) E hE bk (2 : Int32) r4.1 ((-1) : Int32) ((-1) : Int32) ((-1) : Int32) I r4.2) mX8_attempt q581 rfl s0 rfl rfl rfl (Nat.le_of_ble_eq_true rfl) dX8_goOneWay_53 (fun _ => rfl) h (fun r5 h => ?_)
      refine g_pop F dX8_goOneWay_56 rfl ?_
      refine g_goto (tgt := 187) F dX8_goOneWay_57 (by decide) ?_
      obtain rfl := Option.some.inj h
      exact g_vret F e dX8_goOneWay_187 ⟨rfl, rfl, rfl⟩
    · refine g_iload_n F 1 dX8_goOneWay_60 rfl rfl ?_
      refine g_iconst (v := 4) F dX8_goOneWay_61 (by decide) ?_
      refine u_icmp_lt (tgt := 103) F dX8_goOneWay_62 (by decide) h (fun h => ?_) (fun h => ?_)
      · refine g_aload_n F 2 dX8_goOneWay_103 rfl rfl ?_
        refine g_getr (j := 1) (nn := 3) F s0 rfl rfl uX8 (by decide) q170 dX8_goOneWay_104 ?_
        refine g_iload_n F 0 dX8_goOneWay_107 rfl rfl ?_
        refine u_callV (k := 3) (As := [.int r4.1]) (rest := []) (sn := fun r6 => [.int r6]) F B (fun _ => wX5_isTable (zl z) E hE bk 3 r4.1 shX5_3 I r4.2) mX5_isTable q412 rfl shX5_3.1 rfl rfl rfl (Nat.le_of_ble_eq_true rfl) dX8_goOneWay_108 (fun _ => rfl) h (fun r6 h => ?_)
        refine u_if_eq (tgt := 187) F dX8_goOneWay_111 (by decide) h (fun h => ?_) (fun h => ?_)
        · obtain rfl := Option.some.inj h
          exact g_vret F e dX8_goOneWay_187 ⟨rfl, rfl, rfl⟩
        · refine g_aload_n F 2 dX8_goOneWay_114 rfl rfl ?_
          refine g_getr (j := 1) (nn := 3) F s0 rfl rfl uX8 (by decide) q170 dX8_goOneWay_115 ?_
          refine g_getr (j := 3) (nn := 4) F shX5_3.1 rfl rfl uX5 (by decide) q57 dX8_goOneWay_118 ?_
          refine g_iload_n F 0 dX8_goOneWay_121 rfl rfl ?_
          refine u_rI F shX5_3.2.1 (by decide) dX8_goOneWay_122 h (fun u7 h => ?_)
          refine g_istore_n (Ln := [(3, .int u7), (2, .int r4.1), (1, .int r1.1), (0, .ref (E.2.1 0))]) F dX8_goOneWay_123 rfl (by decide) rfl ?_
          refine g_iload_n F 0 dX8_goOneWay_124 rfl rfl ?_
          refine u_if_le (tgt := 137) F dX8_goOneWay_125 (by decide) h (fun h => ?_) (fun h => ?_)
          · refine g_iconst (v := (-1)) F dX8_goOneWay_137 (by decide) ?_
            refine g_sub (Ln := [(0, .ref (E.2.1 0)), (2, .int r4.1), (3, .int u7)]) [3, 1, 0] rfl ?_
            exact wbX8_goOneWay_138 F B hE r4.1 u7 ((-1) : Int32) I r4.2 h e
          · refine g_aload_n F 3 dX8_goOneWay_128 rfl rfl ?_
            refine g_bipush (v := 6) F dX8_goOneWay_129 (by decide) ?_
            refine u_callV (k := 0) (As := [.int 6]) (rest := []) (sn := fun r11 => [.int r11.1]) F B (fun _ => wX8_draw (zl z) E hE bk (6 : Int32) I r4.2) mX8_draw q635 rfl s0 rfl rfl rfl (Nat.le_of_ble_eq_true rfl) dX8_goOneWay_131 (fun _ => rfl) h (fun r11 h => ?_)
            refine g_goto (tgt := 138) F dX8_goOneWay_134 (by decide) ?_
            refine g_sub (Ln := [(0, .ref (E.2.1 0)), (2, .int r4.1), (3, .int u7)]) [3, 1, 0] rfl ?_
            exact wbX8_goOneWay_138 F B hE r4.1 u7 r11.1 I r11.2 h e
      · refine g_aload_n F 2 dX8_goOneWay_65 rfl rfl ?_
        refine g_bipush (v := 12) F dX8_goOneWay_66 (by decide) ?_
        refine u_callV (k := 0) (As := [.int 12]) (rest := []) (sn := fun r12 => [.int r12.1]) F B (fun _ => wX8_draw (zl z) E hE bk (12 : Int32) I r4.2) mX8_draw q635 rfl s0 rfl rfl rfl (Nat.le_of_ble_eq_true rfl) dX8_goOneWay_68 (fun _ => rfl) h (fun r12 h => ?_)
        refine g_istore_n (Ln := [(3, .int r12.1), (2, .int r4.1), (1, .int r1.1), (0, .ref (E.2.1 0))]) F dX8_goOneWay_71 rfl (by decide) rfl ?_
        refine g_aload_n F 3 dX8_goOneWay_72 rfl rfl ?_
        refine g_iconst (v := 1) F dX8_goOneWay_73 (by decide) ?_
        refine g_iload_n F 1 dX8_goOneWay_74 rfl rfl ?_
        refine g_aload_n F 3 dX8_goOneWay_75 rfl rfl ?_
        refine g_iload_n F 1 dX8_goOneWay_76 rfl rfl ?_
        refine g_iload_n F 0 dX8_goOneWay_77 rfl rfl ?_
        refine g_iconst (v := 0) F dX8_goOneWay_78 (by decide) ?_
        refine u_callV (k := 0) (As := [.int r4.1, .int r12.1, .int 0]) (rest := [.int r4.1, .int 1, .ref (E.2.1 0)]) (sn := fun r13 => [.int r13, .int r4.1, .int 1, .ref (E.2.1 0)]) F B (fun _ => wX8_cell (zl z) E hE bk r4.1 r12.1 (0 : Int32) I r12.2) mX8_cell q640 rfl s0 rfl rfl rfl (Nat.le_of_ble_eq_true rfl) dX8_goOneWay_79 (fun _ => rfl) h (fun r13 h => ?_)
        refine g_aload_n F 3 dX8_goOneWay_82 rfl rfl ?_
        refine g_iload_n F 1 dX8_goOneWay_83 rfl rfl ?_
        refine g_iload_n F 0 dX8_goOneWay_84 rfl rfl ?_
        refine g_iconst (v := 1) F dX8_goOneWay_85 (by decide) ?_
        refine u_callV (k := 0) (As := [.int r4.1, .int r12.1, .int 1]) (rest := [.int r13, .int r4.1, .int 1, .ref (E.2.1 0)]) (sn := fun r14 => [.int r14, .int r13, .int r4.1, .int 1, .ref (E.2.1 0)]) F B (fun _ => wX8_cell (zl z) E hE bk r4.1 r12.1 (1 : Int32) I r12.2) mX8_cell q640 rfl s0 rfl rfl rfl (Nat.le_of_ble_eq_true rfl) dX8_goOneWay_86 (fun _ => rfl) h (fun r14 h => ?_)
        refine g_aload_n F 3 dX8_goOneWay_89 rfl rfl ?_
        refine g_iload_n F 1 dX8_goOneWay_90 rfl rfl ?_
        refine g_iload_n F 0 dX8_goOneWay_91 rfl rfl ?_
        refine g_iconst (v := 2) F dX8_goOneWay_92 (by decide) ?_
        refine u_callV (k := 0) (As := [.int r4.1, .int r12.1, .int 2]) (rest := [.int r14, .int r13, .int r4.1, .int 1, .ref (E.2.1 0)]) (sn := fun r15 => [.int r15, .int r14, .int r13, .int r4.1, .int 1, .ref (E.2.1 0)]) F B (fun _ => wX8_cell (zl z) E hE bk r4.1 r12.1 (2 : Int32) I r12.2) mX8_cell q640 rfl s0 rfl rfl rfl (Nat.le_of_ble_eq_true rfl) dX8_goOneWay_93 (fun _ => rfl) h (fun r15 h => ?_)
        refine u_callV (k := 0) (As := [.int 1, .int r4.1, .int r13, .int r14, .int r15]) (rest := []) (sn := fun r16 => [.int r16.1]) F B (fun _ => wX8_attempt (zl z) E hE bk (1 : Int32) r4.1 r13 r14 r15 I r12.2) mX8_attempt q581 rfl s0 rfl rfl rfl (Nat.le_of_ble_eq_true rfl) dX8_goOneWay_96 (fun _ => rfl) h (fun r16 h => ?_)
        refine g_pop F dX8_goOneWay_99 rfl ?_
        refine g_goto (tgt := 187) F dX8_goOneWay_100 (by decide) ?_
        obtain rfl := Option.some.inj h
        exact g_vret F e dX8_goOneWay_187 ⟨rfl, rfl, rfl⟩
theorem DX8_ways_0 : dAre cX8_ways [(0, .aload_n 0, 1), (1, .getfield 19, 3), (4, .getfield 134, 3), (7, .ifCond .eq 14, 3), (10, .iload_n 1, 1), (11, .iconst 1, 1), (12, .if_icmp .lt 9, 3), (15, .iload_n 1, 1), (16, .bipush 40, 2), (18, .if_icmp .le 5, 3), (21, .iconst (-1), 1), (22, .ireturn, 1), (23, .aload_n 0, 1), (24, .lload_n 2, 1), (25, .putfield 93, 3), (28, .iconst 0, 1)] := dAre0 (by decide +kernel)
theorem dX8_ways_0 : decode cX8_ways 0 = .ok (.aload_n 0, 1) := DX8_ways_0.1
theorem dX8_ways_1 : decode cX8_ways 1 = .ok (.getfield 19, 3) := DX8_ways_0.2.1
theorem dX8_ways_4 : decode cX8_ways 4 = .ok (.getfield 134, 3) := DX8_ways_0.2.2.1
theorem dX8_ways_7 : decode cX8_ways 7 = .ok (.ifCond .eq 14, 3) := DX8_ways_0.2.2.2.1
theorem dX8_ways_10 : decode cX8_ways 10 = .ok (.iload_n 1, 1) := DX8_ways_0.2.2.2.2.1
theorem dX8_ways_11 : decode cX8_ways 11 = .ok (.iconst 1, 1) := DX8_ways_0.2.2.2.2.2.1
theorem dX8_ways_12 : decode cX8_ways 12 = .ok (.if_icmp .lt 9, 3) := DX8_ways_0.2.2.2.2.2.2.1
theorem dX8_ways_15 : decode cX8_ways 15 = .ok (.iload_n 1, 1) := DX8_ways_0.2.2.2.2.2.2.2.1
theorem dX8_ways_16 : decode cX8_ways 16 = .ok (.bipush 40, 2) := DX8_ways_0.2.2.2.2.2.2.2.2.1
theorem dX8_ways_18 : decode cX8_ways 18 = .ok (.if_icmp .le 5, 3) := DX8_ways_0.2.2.2.2.2.2.2.2.2.1
theorem dX8_ways_21 : decode cX8_ways 21 = .ok (.iconst (-1), 1) := DX8_ways_0.2.2.2.2.2.2.2.2.2.2.1
theorem dX8_ways_22 : decode cX8_ways 22 = .ok (.ireturn, 1) := DX8_ways_0.2.2.2.2.2.2.2.2.2.2.2.1
theorem dX8_ways_23 : decode cX8_ways 23 = .ok (.aload_n 0, 1) := DX8_ways_0.2.2.2.2.2.2.2.2.2.2.2.2.1
theorem dX8_ways_24 : decode cX8_ways 24 = .ok (.lload_n 2, 1) := DX8_ways_0.2.2.2.2.2.2.2.2.2.2.2.2.2.1
theorem dX8_ways_25 : decode cX8_ways 25 = .ok (.putfield 93, 3) := DX8_ways_0.2.2.2.2.2.2.2.2.2.2.2.2.2.2.1
theorem dX8_ways_28 : decode cX8_ways 28 = .ok (.iconst 0, 1) := DX8_ways_0.2.2.2.2.2.2.2.2.2.2.2.2.2.2.2.1
theorem DX8_ways_29 : dAre cX8_ways [(29, .istore 4, 2), (31, .iload 4, 2), (33, .iload_n 1, 1), (34, .if_icmp .ge 13, 3), (37, .aload_n 0, 1), (38, .invokevirtual 290, 3), (41, .iinc 4 1, 3), (44, .goto (-13), 3), (47, .aload_n 0, 1), (48, .getfield 32, 3), (51, .getfield 186, 3), (54, .ireturn, 1)] := dAre0 (by decide +kernel)
theorem dX8_ways_29 : decode cX8_ways 29 = .ok (.istore 4, 2) := DX8_ways_29.1
theorem dX8_ways_31 : decode cX8_ways 31 = .ok (.iload 4, 2) := DX8_ways_29.2.1
theorem dX8_ways_33 : decode cX8_ways 33 = .ok (.iload_n 1, 1) := DX8_ways_29.2.2.1
theorem dX8_ways_34 : decode cX8_ways 34 = .ok (.if_icmp .ge 13, 3) := DX8_ways_29.2.2.2.1
theorem dX8_ways_37 : decode cX8_ways 37 = .ok (.aload_n 0, 1) := DX8_ways_29.2.2.2.2.1
theorem dX8_ways_38 : decode cX8_ways 38 = .ok (.invokevirtual 290, 3) := DX8_ways_29.2.2.2.2.2.1
theorem dX8_ways_41 : decode cX8_ways 41 = .ok (.iinc 4 1, 3) := DX8_ways_29.2.2.2.2.2.2.1
theorem dX8_ways_44 : decode cX8_ways 44 = .ok (.goto (-13), 3) := DX8_ways_29.2.2.2.2.2.2.2.1
theorem dX8_ways_47 : decode cX8_ways 47 = .ok (.aload_n 0, 1) := DX8_ways_29.2.2.2.2.2.2.2.2.1
theorem dX8_ways_48 : decode cX8_ways 48 = .ok (.getfield 32, 3) := DX8_ways_29.2.2.2.2.2.2.2.2.2.1
theorem dX8_ways_51 : decode cX8_ways 51 = .ok (.getfield 186, 3) := DX8_ways_29.2.2.2.2.2.2.2.2.2.2.1
theorem dX8_ways_54 : decode cX8_ways 54 = .ok (.ireturn, 1) := DX8_ways_29.2.2.2.2.2.2.2.2.2.2.2.1
theorem mX8_ways : gMv yX8_ways cX8_ways 5 (some .int) RX8 2 := ⟨q629, q630, q1, q631, rfl, by decide, by decide, by decide +kernel⟩
noncomputable def lX8_ways_31 (v1 : Int32) : (Int32 × gM × gN) → Option (gM × gN) :=
  itO fun s =>
    if v1 ≤ s.1 then
      some (.inr (s.2.1, s.2.2))
    else
      (fX8_goOneWay s.2.1 s.2.2).bind fun r2 =>
      some (.inl (s.1 + 1, r2.1, r2.2))
set_option maxRecDepth 100000 in
set_option maxHeartbeats 4000000 in
theorem wlX8_ways_31 {z : gZ} {E : gE} {bk : Nat} (F : Fx z sh E "LeapJoin" cX8_ways (gR 19) 5) (B : bZ z bk) (hE : gDist sh E) (v1 : Int32) {r : gM × gN} : ∀ s : Int32 × gM × gN, lX8_ways_31 v1 s = some r → (G z 47 [(0, .ref (E.2.1 0))] [] r.1 r.2) → G z 31 [(0, .ref (E.2.1 0)), (1, .int v1), (4, .int s.1)] [] s.2.1 s.2.2 := by
  intro s h X0
  unfold lX8_ways_31 at h
  revert s
  refine itO_ind (P := fun s : Int32 × gM × gN => G z 31 [(0, .ref (E.2.1 0)), (1, .int v1), (4, .int s.1)] [] s.2.1 s.2.2) (fun s y h hl hr => ?_)
  have K31_0 : ∀ x : gM × gN, y = .inr x → (G z 47 [(0, .ref (E.2.1 0))] [] x.1 x.2) := fun x q => by have q2 := hr _ q; subst q2; exact X0
  refine g_iload F 2 dX8_ways_31 rfl ?_
  refine g_iload_n F 1 dX8_ways_33 rfl rfl ?_
  refine u_icmp_ge (tgt := 47) F dX8_ways_34 (by decide) h (fun h => ?_) (fun h => ?_)
  · obtain rfl := Option.some.inj h
    refine g_sub (Ln := [(0, .ref (E.2.1 0))]) [0] rfl ?_
    exact K31_0 (s.2.1, s.2.2) rfl
  · refine g_aload_n F 0 dX8_ways_37 rfl rfl ?_
    refine u_callV (k := 0) (As := []) (rest := []) (sn := fun _ => []) F B (fun _ => wX8_goOneWay (zl z) E hE bk  s.2.1 s.2.2) mX8_goOneWay q632 rfl s0 rfl rfl rfl (Nat.le_of_ble_eq_true rfl) dX8_ways_38 (fun _ => rfl) h (fun r2 h => ?_)
    refine g_iinc (v := s.1 + 1) (Ln := [(4, .int (s.1 + 1)), (0, .ref (E.2.1 0)), (1, .int v1)]) F 2 dX8_ways_41 rfl (add_c (by decide)) (by decide) rfl ?_
    refine g_goto (tgt := 31) F dX8_ways_44 (by decide) ?_
    obtain rfl := Option.some.inj h
    refine g_sub (Ln := [(0, .ref (E.2.1 0)), (1, .int v1), (4, .int (s.1 + 1))]) [1, 2, 0] rfl ?_
    exact hl (s.1 + 1, r2.1, r2.2) rfl
noncomputable def fX8_ways (v1 : Int32) (v2 : Int64) (I : gM) (J : gN) : Option (Int32 × gM × gN) :=
  if (I 3 0) = 0 then
    some (((-1) : Int32), I, J)
  else
    if v1 < 1 then
      some (((-1) : Int32), I, J)
    else
      if v1 ≤ 40 then
        (pU J 0 16 v2).bind fun J1 =>
        (lX8_ways_31 v1 ((0 : Int32), I, J1)).bind fun w3 =>
        some (w3.1 18 0, w3.1, w3.2)
      else
        some (((-1) : Int32), I, J)
set_option maxRecDepth 100000 in
set_option maxHeartbeats 4000000 in
theorem wX8_ways (l : Launch) (E : gE) (hE : gDist sh E) (bk : Nat) (v1 : Int32) (v2 : Int64) (I : gM) (J : gN) {r : Int32 × gM × gN} (h : fX8_ways v1 v2 I J = some r) : Cu l sh E bk yX8_ways cX8_ways 5 (some .int) (gR 19) [.ref (E.2.1 0), .int v1, .long v2] I J (fun r1 I1 J1 => r1 = some (.int r.1) ∧ I1 = r.2.1 ∧ J1 = r.2.2) := by
  refine Cu.of "LeapJoin" rfl hE (by decide) (Nat.le_of_ble_eq_true rfl) (fun z F B e hl => ?_)
  subst hl
  unfold fX8_ways at h
  refine g_aload_n F 0 dX8_ways_0 rfl rfl ?_
  refine g_getr (j := 1) (nn := 3) F s0 rfl rfl uX8 (by decide) q170 dX8_ways_1 ?_
  refine g_geti (j := 0) (v := I 3 0) F shX5_3.1 rfl rfl uX5 (by decide) q49 rfl dX8_ways_4 ?_
  refine u_if_eq (tgt := 21) F dX8_ways_7 (by decide) h (fun h => ?_) (fun h => ?_)
  · refine g_iconst (v := (-1)) F dX8_ways_21 (by decide) ?_
    obtain rfl := Option.some.inj h
    exact g_iret F e dX8_ways_22 ⟨rfl, rfl, rfl⟩
  · refine g_iload_n F 1 dX8_ways_10 rfl rfl ?_
    refine g_iconst (v := 1) F dX8_ways_11 (by decide) ?_
    refine u_icmp_lt (tgt := 21) F dX8_ways_12 (by decide) h (fun h => ?_) (fun h => ?_)
    · refine g_iconst (v := (-1)) F dX8_ways_21 (by decide) ?_
      obtain rfl := Option.some.inj h
      exact g_iret F e dX8_ways_22 ⟨rfl, rfl, rfl⟩
    · refine g_iload_n F 1 dX8_ways_15 rfl rfl ?_
      refine g_bipush (v := 40) F dX8_ways_16 (by decide) ?_
      refine u_icmp_le (tgt := 23) F dX8_ways_18 (by decide) h (fun h => ?_) (fun h => ?_)
      · refine g_aload_n F 0 dX8_ways_23 rfl rfl ?_
        refine g_lload_n F 2 dX8_ways_24 rfl rfl ?_
        refine u_putl (j := 16) F s0 rfl rfl uX8 (by decide) q185 tyX8_ok nmX8 rfl rfl rfl dX8_ways_25 h (fun J1 h => ?_)
        refine g_iconst (v := 0) F dX8_ways_28 (by decide) ?_
        refine g_istore (Ln := [(4, .int 0), (0, .ref (E.2.1 0)), (1, .int v1), (2, .long v2)]) F dX8_ways_29 (by decide) rfl ?_
        obtain ⟨w3, ew3, h⟩ := ob h
        refine g_sub (Ln := [(0, .ref (E.2.1 0)), (1, .int v1), (4, .int 0)]) [1, 2, 0] rfl ?_
        refine wlX8_ways_31 F B hE v1 _ ew3 ?_
        refine g_aload_n F 0 dX8_ways_47 rfl rfl ?_
        refine g_getr (j := 4) (nn := 18) F s0 rfl rfl uX8 (by decide) q173 dX8_ways_48 ?_
        refine g_geti (j := 0) (v := w3.1 18 0) F shX1_18.1 rfl rfl uX1 (by decide) q79 rfl dX8_ways_51 ?_
        obtain rfl := Option.some.inj h
        exact g_iret F e dX8_ways_54 ⟨rfl, rfl, rfl⟩
      · refine g_iconst (v := (-1)) F dX8_ways_21 (by decide) ?_
        obtain rfl := Option.some.inj h
        exact g_iret F e dX8_ways_22 ⟨rfl, rfl, rfl⟩
theorem DX8_status_0 : dAre cX8_status [(0, .iload_n 1, 1), (1, .ifCond .lt 17, 3), (4, .iload_n 1, 1), (5, .iconst 4, 1), (6, .if_icmp .ge 12, 3), (9, .aload_n 0, 1), (10, .getfield 81, 3), (13, .iload_n 1, 1), (14, .iaload, 1), (15, .goto 4, 3), (18, .iconst (-1), 1), (19, .ireturn, 1)] := dAre0 (by decide +kernel)
theorem dX8_status_0 : decode cX8_status 0 = .ok (.iload_n 1, 1) := DX8_status_0.1
theorem dX8_status_1 : decode cX8_status 1 = .ok (.ifCond .lt 17, 3) := DX8_status_0.2.1
theorem dX8_status_4 : decode cX8_status 4 = .ok (.iload_n 1, 1) := DX8_status_0.2.2.1
theorem dX8_status_5 : decode cX8_status 5 = .ok (.iconst 4, 1) := DX8_status_0.2.2.2.1
theorem dX8_status_6 : decode cX8_status 6 = .ok (.if_icmp .ge 12, 3) := DX8_status_0.2.2.2.2.1
theorem dX8_status_9 : decode cX8_status 9 = .ok (.aload_n 0, 1) := DX8_status_0.2.2.2.2.2.1
theorem dX8_status_10 : decode cX8_status 10 = .ok (.getfield 81, 3) := DX8_status_0.2.2.2.2.2.2.1
theorem dX8_status_13 : decode cX8_status 13 = .ok (.iload_n 1, 1) := DX8_status_0.2.2.2.2.2.2.2.1
theorem dX8_status_14 : decode cX8_status 14 = .ok (.iaload, 1) := DX8_status_0.2.2.2.2.2.2.2.2.1
theorem dX8_status_15 : decode cX8_status 15 = .ok (.goto 4, 3) := DX8_status_0.2.2.2.2.2.2.2.2.2.1
theorem dX8_status_18 : decode cX8_status 18 = .ok (.iconst (-1), 1) := DX8_status_0.2.2.2.2.2.2.2.2.2.2.1
theorem dX8_status_19 : decode cX8_status 19 = .ok (.ireturn, 1) := DX8_status_0.2.2.2.2.2.2.2.2.2.2.2.1
theorem mX8_status : gMv yX8_status cX8_status 2 (some .int) RX8 1 := ⟨q642, q643, q1, q644, rfl, by decide, by decide, by decide +kernel⟩
noncomputable def fX8_status (v1 : Int32) (I : gM) : Option (Int32) :=
  if v1 < 0 then
    some ((-1) : Int32)
  else
    if (4 : Int32) ≤ v1 then
      some ((-1) : Int32)
    else
      (rI 4 (I 53) v1).bind fun u1 =>
      some u1
set_option maxRecDepth 100000 in
set_option maxHeartbeats 4000000 in
theorem wX8_status (l : Launch) (E : gE) (hE : gDist sh E) (bk : Nat) (v1 : Int32) (I : gM) (J : gN) {r : Int32} (h : fX8_status v1 I = some r) : Cu l sh E bk yX8_status cX8_status 2 (some .int) (gR 0) [.ref (E.2.1 0), .int v1] I J (fun r1 I1 J1 => r1 = some (.int r) ∧ I1 = I ∧ J1 = J) := by
  refine Cu.of "LeapJoin" rfl hE (by decide) (Nat.le_of_ble_eq_true rfl) (fun z F B e hl => ?_)
  subst hl
  unfold fX8_status at h
  refine g_iload_n F 1 dX8_status_0 rfl rfl ?_
  refine u_if_lt (tgt := 18) F dX8_status_1 (by decide) h (fun h => ?_) (fun h => ?_)
  · refine g_iconst (v := (-1)) F dX8_status_18 (by decide) ?_
    obtain rfl := Option.some.inj h
    exact g_iret F e dX8_status_19 ⟨rfl, rfl, rfl⟩
  · refine g_iload_n F 1 dX8_status_4 rfl rfl ?_
    refine g_iconst (v := 4) F dX8_status_5 (by decide) ?_
    refine u_icmp_ge (tgt := 18) F dX8_status_6 (by decide) h (fun h => ?_) (fun h => ?_)
    · refine g_iconst (v := (-1)) F dX8_status_18 (by decide) ?_
      obtain rfl := Option.some.inj h
      exact g_iret F e dX8_status_19 ⟨rfl, rfl, rfl⟩
    · refine g_aload_n F 0 dX8_status_9 rfl rfl ?_
      refine g_getr (j := 13) (nn := 53) F s0 rfl rfl uX8 (by decide) q182 dX8_status_10 ?_
      refine g_iload_n F 1 dX8_status_13 rfl rfl ?_
      refine u_rI F s53 (by decide) dX8_status_14 h (fun u1 h => ?_)
      refine g_goto (tgt := 19) F dX8_status_15 (by decide) ?_
      obtain rfl := Option.some.inj h
      exact g_iret F e dX8_status_19 ⟨rfl, rfl, rfl⟩
theorem DX8_undo_0 : dAre cX8_undo [(0, .aload_n 0, 1), (1, .getfield 66, 3), (4, .getfield 303, 3), (7, .ifCond .ne 5, 3), (10, .iconst (-1), 1), (11, .ireturn, 1), (12, .aload_n 0, 1), (13, .getfield 66, 3), (16, .invokevirtual 304, 3), (19, .aload_n 0, 1), (20, .getfield 19, 3), (23, .aload_n 0, 1), (24, .getfield 66, 3), (27, .invokevirtual 307, 3), (30, .aload_n 0, 1), (31, .getfield 66, 3)] := dAre0 (by decide +kernel)
theorem dX8_undo_0 : decode cX8_undo 0 = .ok (.aload_n 0, 1) := DX8_undo_0.1
theorem dX8_undo_1 : decode cX8_undo 1 = .ok (.getfield 66, 3) := DX8_undo_0.2.1
theorem dX8_undo_4 : decode cX8_undo 4 = .ok (.getfield 303, 3) := DX8_undo_0.2.2.1
theorem dX8_undo_7 : decode cX8_undo 7 = .ok (.ifCond .ne 5, 3) := DX8_undo_0.2.2.2.1
theorem dX8_undo_10 : decode cX8_undo 10 = .ok (.iconst (-1), 1) := DX8_undo_0.2.2.2.2.1
theorem dX8_undo_11 : decode cX8_undo 11 = .ok (.ireturn, 1) := DX8_undo_0.2.2.2.2.2.1
theorem dX8_undo_12 : decode cX8_undo 12 = .ok (.aload_n 0, 1) := DX8_undo_0.2.2.2.2.2.2.1
theorem dX8_undo_13 : decode cX8_undo 13 = .ok (.getfield 66, 3) := DX8_undo_0.2.2.2.2.2.2.2.1
theorem dX8_undo_16 : decode cX8_undo 16 = .ok (.invokevirtual 304, 3) := DX8_undo_0.2.2.2.2.2.2.2.2.1
theorem dX8_undo_19 : decode cX8_undo 19 = .ok (.aload_n 0, 1) := DX8_undo_0.2.2.2.2.2.2.2.2.2.1
theorem dX8_undo_20 : decode cX8_undo 20 = .ok (.getfield 19, 3) := DX8_undo_0.2.2.2.2.2.2.2.2.2.2.1
theorem dX8_undo_23 : decode cX8_undo 23 = .ok (.aload_n 0, 1) := DX8_undo_0.2.2.2.2.2.2.2.2.2.2.2.1
theorem dX8_undo_24 : decode cX8_undo 24 = .ok (.getfield 66, 3) := DX8_undo_0.2.2.2.2.2.2.2.2.2.2.2.2.1
theorem dX8_undo_27 : decode cX8_undo 27 = .ok (.invokevirtual 307, 3) := DX8_undo_0.2.2.2.2.2.2.2.2.2.2.2.2.2.1
theorem dX8_undo_30 : decode cX8_undo 30 = .ok (.aload_n 0, 1) := DX8_undo_0.2.2.2.2.2.2.2.2.2.2.2.2.2.2.1
theorem dX8_undo_31 : decode cX8_undo 31 = .ok (.getfield 66, 3) := DX8_undo_0.2.2.2.2.2.2.2.2.2.2.2.2.2.2.2.1
theorem DX8_undo_34 : dAre cX8_undo [(34, .invokevirtual 310, 3), (37, .aload_n 0, 1), (38, .getfield 66, 3), (41, .invokevirtual 313, 3), (44, .invokevirtual 316, 3), (47, .aload_n 0, 1), (48, .getfield 56, 3), (51, .invokevirtual 319, 3), (54, .aload_n 0, 1), (55, .invokevirtual 131, 3), (58, .aload_n 0, 1), (59, .getfield 66, 3), (62, .getfield 303, 3), (65, .ireturn, 1)] := dAre0 (by decide +kernel)
theorem dX8_undo_34 : decode cX8_undo 34 = .ok (.invokevirtual 310, 3) := DX8_undo_34.1
theorem dX8_undo_37 : decode cX8_undo 37 = .ok (.aload_n 0, 1) := DX8_undo_34.2.1
theorem dX8_undo_38 : decode cX8_undo 38 = .ok (.getfield 66, 3) := DX8_undo_34.2.2.1
theorem dX8_undo_41 : decode cX8_undo 41 = .ok (.invokevirtual 313, 3) := DX8_undo_34.2.2.2.1
theorem dX8_undo_44 : decode cX8_undo 44 = .ok (.invokevirtual 316, 3) := DX8_undo_34.2.2.2.2.1
theorem dX8_undo_47 : decode cX8_undo 47 = .ok (.aload_n 0, 1) := DX8_undo_34.2.2.2.2.2.1
theorem dX8_undo_48 : decode cX8_undo 48 = .ok (.getfield 56, 3) := DX8_undo_34.2.2.2.2.2.2.1
theorem dX8_undo_51 : decode cX8_undo 51 = .ok (.invokevirtual 319, 3) := DX8_undo_34.2.2.2.2.2.2.2.1
theorem dX8_undo_54 : decode cX8_undo 54 = .ok (.aload_n 0, 1) := DX8_undo_34.2.2.2.2.2.2.2.2.1
theorem dX8_undo_55 : decode cX8_undo 55 = .ok (.invokevirtual 131, 3) := DX8_undo_34.2.2.2.2.2.2.2.2.2.1
theorem dX8_undo_58 : decode cX8_undo 58 = .ok (.aload_n 0, 1) := DX8_undo_34.2.2.2.2.2.2.2.2.2.2.1
theorem dX8_undo_59 : decode cX8_undo 59 = .ok (.getfield 66, 3) := DX8_undo_34.2.2.2.2.2.2.2.2.2.2.2.1
theorem dX8_undo_62 : decode cX8_undo 62 = .ok (.getfield 303, 3) := DX8_undo_34.2.2.2.2.2.2.2.2.2.2.2.2.1
theorem dX8_undo_65 : decode cX8_undo 65 = .ok (.ireturn, 1) := DX8_undo_34.2.2.2.2.2.2.2.2.2.2.2.2.2.1
theorem mX8_undo : gMv yX8_undo cX8_undo 1 (some .int) RX8 0 := ⟨q646, q647, q1, q648, rfl, by decide, by decide, by decide +kernel⟩
noncomputable def fX8_undo (I : gM) : Option (Int32 × gM) :=
  if (I 48 0) = 0 then
    some (((-1) : Int32), I)
  else
    (fX3_dropLatest I).bind fun r1 =>
    (fX3_sortDropped r1).bind fun r2 =>
    (fX3_numberDropped r1).bind fun r3 =>
    (fX3_rowDropped r1).bind fun r4 =>
    (fX5_changeBack 3 r2 r3 r4 r1).bind fun r5 =>
    (fX2_dropLatest 44 r5).bind fun r6 =>
    (fX8_renew r6).bind fun r7 =>
    some (r7 48 0, r7)
set_option maxRecDepth 100000 in
set_option maxHeartbeats 4000000 in
theorem wX8_undo (l : Launch) (E : gE) (hE : gDist sh E) (bk : Nat) (I : gM) (J : gN) {r : Int32 × gM} (h : fX8_undo I = some r) : Cu l sh E bk yX8_undo cX8_undo 1 (some .int) (gR 17) [.ref (E.2.1 0)] I J (fun r1 I1 J1 => r1 = some (.int r.1) ∧ I1 = r.2 ∧ J1 = J) := by
  refine Cu.of "LeapJoin" rfl hE (by decide) (Nat.le_of_ble_eq_true rfl) (fun z F B e hl => ?_)
  subst hl
  unfold fX8_undo at h
  refine g_aload_n F 0 dX8_undo_0 rfl rfl ?_
  refine g_getr (j := 10) (nn := 48) F s0 rfl rfl uX8 (by decide) q179 dX8_undo_1 ?_
  refine g_geti (j := 0) (v := I 48 0) F s48 rfl rfl uX3 (by decide) q153 rfl dX8_undo_4 ?_
  refine u_if_ne (tgt := 12) F dX8_undo_7 (by decide) h (fun h => ?_) (fun h => ?_)
  · refine g_iconst (v := (-1)) F dX8_undo_10 (by decide) ?_
    obtain rfl := Option.some.inj h
    exact g_iret F e dX8_undo_11 ⟨rfl, rfl, rfl⟩
  · refine g_aload_n F 0 dX8_undo_12 rfl rfl ?_
    refine g_getr (j := 10) (nn := 48) F s0 rfl rfl uX8 (by decide) q179 dX8_undo_13 ?_
    refine u_callV (k := 48) (As := []) (rest := []) (sn := fun _ => []) F B (fun _ => wX3_dropLatest (zl z) E hE bk  I J) mX3_dropLatest q649 rfl s48 rfl rfl rfl (Nat.le_of_ble_eq_true rfl) dX8_undo_16 (fun _ => rfl) h (fun r1 h => ?_)
    refine g_aload_n F 0 dX8_undo_19 rfl rfl ?_
    refine g_getr (j := 1) (nn := 3) F s0 rfl rfl uX8 (by decide) q170 dX8_undo_20 ?_
    refine g_aload_n F 0 dX8_undo_23 rfl rfl ?_
    refine g_getr (j := 10) (nn := 48) F s0 rfl rfl uX8 (by decide) q179 dX8_undo_24 ?_
    refine u_callV (k := 48) (As := []) (rest := [.ref (E.2.1 3)]) (sn := fun r2 => [.int r2, .ref (E.2.1 3)]) F B (fun _ => wX3_sortDropped (zl z) E hE bk  r1 J) mX3_sortDropped q653 rfl s48 rfl rfl rfl (Nat.le_of_ble_eq_true rfl) dX8_undo_27 (fun _ => rfl) h (fun r2 h => ?_)
    refine g_aload_n F 0 dX8_undo_30 rfl rfl ?_
    refine g_getr (j := 10) (nn := 48) F s0 rfl rfl uX8 (by decide) q179 dX8_undo_31 ?_
    refine u_callV (k := 48) (As := []) (rest := [.int r2, .ref (E.2.1 3)]) (sn := fun r3 => [.int r3, .int r2, .ref (E.2.1 3)]) F B (fun _ => wX3_numberDropped (zl z) E hE bk  r1 J) mX3_numberDropped q657 rfl s48 rfl rfl rfl (Nat.le_of_ble_eq_true rfl) dX8_undo_34 (fun _ => rfl) h (fun r3 h => ?_)
    refine g_aload_n F 0 dX8_undo_37 rfl rfl ?_
    refine g_getr (j := 10) (nn := 48) F s0 rfl rfl uX8 (by decide) q179 dX8_undo_38 ?_
    refine u_callV (k := 48) (As := []) (rest := [.int r3, .int r2, .ref (E.2.1 3)]) (sn := fun r4 => [.int r4, .int r3, .int r2, .ref (E.2.1 3)]) F B (fun _ => wX3_rowDropped (zl z) E hE bk  r1 J) mX3_rowDropped q661 rfl s48 rfl rfl rfl (Nat.le_of_ble_eq_true rfl) dX8_undo_41 (fun _ => rfl) h (fun r4 h => ?_)
    refine u_callV (k := 3) (As := [.int r2, .int r3, .int r4]) (rest := []) (sn := fun _ => []) F B (fun _ => wX5_changeBack (zl z) E hE bk 3 r2 r3 r4 shX5_3 r1 J) mX5_changeBack q665 rfl shX5_3.1 rfl rfl rfl (Nat.le_of_ble_eq_true rfl) dX8_undo_44 (fun _ => rfl) h (fun r5 h => ?_)
    refine g_aload_n F 0 dX8_undo_47 rfl rfl ?_
    refine g_getr (j := 8) (nn := 44) F s0 rfl rfl uX8 (by decide) q177 dX8_undo_48 ?_
    refine u_callV (k := 44) (As := []) (rest := []) (sn := fun _ => []) F B (fun _ => wX2_dropLatest (zl z) E hE bk 44 shX2_44 r5 J) mX2_dropLatest q670 rfl shX2_44.1 rfl rfl rfl (Nat.le_of_ble_eq_true rfl) dX8_undo_51 (fun _ => rfl) h (fun r6 h => ?_)
    refine g_aload_n F 0 dX8_undo_54 rfl rfl ?_
    refine u_callV (k := 0) (As := []) (rest := []) (sn := fun _ => []) F B (fun _ => wX8_renew (zl z) E hE bk  r6 J) mX8_renew q328 rfl s0 rfl rfl rfl (Nat.le_of_ble_eq_true rfl) dX8_undo_55 (fun _ => rfl) h (fun r7 h => ?_)
    refine g_aload_n F 0 dX8_undo_58 rfl rfl ?_
    refine g_getr (j := 10) (nn := 48) F s0 rfl rfl uX8 (by decide) q179 dX8_undo_59 ?_
    refine g_geti (j := 0) (v := r7 48 0) F s48 rfl rfl uX3 (by decide) q153 rfl dX8_undo_62 ?_
    obtain rfl := Option.some.inj h
    exact g_iret F e dX8_undo_65 ⟨rfl, rfl, rfl⟩
